section
-- ===== PART A: goes FIRST, ahead of the names: the tables' words, and 'selects' of the private methods out of them =====
/-- a private method of a class that the tables say can be made, by its rows of tables_1 -/
def lw_okq (q : MethodName × Nat) : Prop := (q.1.cls ≠ "java/lang/invoke/MethodHandle" ∧ q.1.cls ≠ "java/lang/invoke/VarHandle") ∧ Cond.instantiable q.1.cls q.2 ∈ tables_1 ∧ Cond.privateMethod q.1 ∈ tables_1 ∧ Cond.instanceMethod q.1 ∈ tables_1
theorem lw_p0 : lw_okq (⟨"ShapeReader", "feedFour", "(I)V"⟩, 16) := ⟨⟨by decide +kernel, by decide +kernel⟩, List.mem_of_getElem? (i := 28) (by decide +kernel), List.mem_of_getElem? (i := 486) (by decide +kernel), List.mem_of_getElem? (i := 487) (by decide +kernel)⟩
theorem lw_p1 : lw_okq (⟨"ShapeReader$Tokens", "scanWord", "()V"⟩, 14) := ⟨⟨by decide +kernel, by decide +kernel⟩, List.mem_of_getElem? (i := 36) (by decide +kernel), List.mem_of_getElem? (i := 509) (by decide +kernel), List.mem_of_getElem? (i := 510) (by decide +kernel)⟩
theorem lw_p2 : lw_okq (⟨"ShapeReader$Tokens", "takeLetters", "(II)I"⟩, 14) := ⟨⟨by decide +kernel, by decide +kernel⟩, List.mem_of_getElem? (i := 36) (by decide +kernel), List.mem_of_getElem? (i := 513) (by decide +kernel), List.mem_of_getElem? (i := 514) (by decide +kernel)⟩
theorem lw_p3 : lw_okq (⟨"ShapeReader$Tokens", "scanNumber", "()V"⟩, 14) := ⟨⟨by decide +kernel, by decide +kernel⟩, List.mem_of_getElem? (i := 36) (by decide +kernel), List.mem_of_getElem? (i := 520) (by decide +kernel), List.mem_of_getElem? (i := 521) (by decide +kernel)⟩
theorem lw_p4 : lw_okq (⟨"ShapeReader$Tokens", "scanLettered", "()V"⟩, 14) := ⟨⟨by decide +kernel, by decide +kernel⟩, List.mem_of_getElem? (i := 36) (by decide +kernel), List.mem_of_getElem? (i := 525) (by decide +kernel), List.mem_of_getElem? (i := 526) (by decide +kernel)⟩
theorem lw_p5 : lw_okq (⟨"ShapeReader$PlanText", "parseRecord", "(I)Z"⟩, 2) := ⟨⟨by decide +kernel, by decide +kernel⟩, List.mem_of_getElem? (i := 201) (by decide +kernel), List.mem_of_getElem? (i := 545) (by decide +kernel), List.mem_of_getElem? (i := 546) (by decide +kernel)⟩
theorem lw_p6 : lw_okq (⟨"ShapeReader$PlanText", "parseField", "(II)Z"⟩, 2) := ⟨⟨by decide +kernel, by decide +kernel⟩, List.mem_of_getElem? (i := 201) (by decide +kernel), List.mem_of_getElem? (i := 574) (by decide +kernel), List.mem_of_getElem? (i := 575) (by decide +kernel)⟩
theorem lw_p7 : lw_okq (⟨"ShapeReader$PlanText", "parseType", "(II)I"⟩, 2) := ⟨⟨by decide +kernel, by decide +kernel⟩, List.mem_of_getElem? (i := 201) (by decide +kernel), List.mem_of_getElem? (i := 593) (by decide +kernel), List.mem_of_getElem? (i := 594) (by decide +kernel)⟩
theorem lw_p8 : lw_okq (⟨"ShapeReader$Shapes", "isType", "(I)Z"⟩, 17) := ⟨⟨by decide +kernel, by decide +kernel⟩, List.mem_of_getElem? (i := 141) (by decide +kernel), List.mem_of_getElem? (i := 615) (by decide +kernel), List.mem_of_getElem? (i := 616) (by decide +kernel)⟩
theorem lw_p9 : lw_okq (⟨"ShapeReader$PlanText", "parseBranches", "(II)Z"⟩, 2) := ⟨⟨by decide +kernel, by decide +kernel⟩, List.mem_of_getElem? (i := 201) (by decide +kernel), List.mem_of_getElem? (i := 619) (by decide +kernel), List.mem_of_getElem? (i := 620) (by decide +kernel)⟩
theorem lw_p10 : lw_okq (⟨"ShapeReader$PlanText", "parseFormerName", "(II)Z"⟩, 2) := ⟨⟨by decide +kernel, by decide +kernel⟩, List.mem_of_getElem? (i := 201) (by decide +kernel), List.mem_of_getElem? (i := 639) (by decide +kernel), List.mem_of_getElem? (i := 640) (by decide +kernel)⟩
theorem lw_p11 : lw_okq (⟨"ShapeReader$PlanText", "parseElse", "(II)Z"⟩, 2) := ⟨⟨by decide +kernel, by decide +kernel⟩, List.mem_of_getElem? (i := 201) (by decide +kernel), List.mem_of_getElem? (i := 651) (by decide +kernel), List.mem_of_getElem? (i := 652) (by decide +kernel)⟩
theorem lw_p12 : lw_okq (⟨"ShapeReader$Tokens", "whole", "()J"⟩, 14) := ⟨⟨by decide +kernel, by decide +kernel⟩, List.mem_of_getElem? (i := 36) (by decide +kernel), List.mem_of_getElem? (i := 677) (by decide +kernel), List.mem_of_getElem? (i := 678) (by decide +kernel)⟩
theorem lw_p13 : lw_okq (⟨"ShapeReader$Tokens", "realBits", "()J"⟩, 14) := ⟨⟨by decide +kernel, by decide +kernel⟩, List.mem_of_getElem? (i := 36) (by decide +kernel), List.mem_of_getElem? (i := 690) (by decide +kernel), List.mem_of_getElem? (i := 691) (by decide +kernel)⟩
theorem lw_p14 : lw_okq (⟨"ShapeReader$PlanText", "resolve", "(I)Z"⟩, 2) := ⟨⟨by decide +kernel, by decide +kernel⟩, List.mem_of_getElem? (i := 201) (by decide +kernel), List.mem_of_getElem? (i := 707) (by decide +kernel), List.mem_of_getElem? (i := 708) (by decide +kernel)⟩
theorem lw_p15 : lw_okq (⟨"ShapeReader$PlanText", "beginPlan", "(I)Z"⟩, 2) := ⟨⟨by decide +kernel, by decide +kernel⟩, List.mem_of_getElem? (i := 201) (by decide +kernel), List.mem_of_getElem? (i := 725) (by decide +kernel), List.mem_of_getElem? (i := 726) (by decide +kernel)⟩
def lw_privs_1 : List (MethodName × Nat) := [(⟨"ShapeReader", "feedFour", "(I)V"⟩, 16), (⟨"ShapeReader$Tokens", "scanWord", "()V"⟩, 14), (⟨"ShapeReader$Tokens", "takeLetters", "(II)I"⟩, 14), (⟨"ShapeReader$Tokens", "scanNumber", "()V"⟩, 14), (⟨"ShapeReader$Tokens", "scanLettered", "()V"⟩, 14), (⟨"ShapeReader$PlanText", "parseRecord", "(I)Z"⟩, 2), (⟨"ShapeReader$PlanText", "parseField", "(II)Z"⟩, 2), (⟨"ShapeReader$PlanText", "parseType", "(II)I"⟩, 2), (⟨"ShapeReader$Shapes", "isType", "(I)Z"⟩, 17), (⟨"ShapeReader$PlanText", "parseBranches", "(II)Z"⟩, 2), (⟨"ShapeReader$PlanText", "parseFormerName", "(II)Z"⟩, 2), (⟨"ShapeReader$PlanText", "parseElse", "(II)Z"⟩, 2), (⟨"ShapeReader$Tokens", "whole", "()J"⟩, 14), (⟨"ShapeReader$Tokens", "realBits", "()J"⟩, 14), (⟨"ShapeReader$PlanText", "resolve", "(I)Z"⟩, 2), (⟨"ShapeReader$PlanText", "beginPlan", "(I)Z"⟩, 2)]
theorem lw_r1 : ∀ q ∈ lw_privs_1, lw_okq q := List.forall_mem_cons.mpr ⟨lw_p0, List.forall_mem_cons.mpr ⟨lw_p1, List.forall_mem_cons.mpr ⟨lw_p2, List.forall_mem_cons.mpr ⟨lw_p3, List.forall_mem_cons.mpr ⟨lw_p4, List.forall_mem_cons.mpr ⟨lw_p5, List.forall_mem_cons.mpr ⟨lw_p6, List.forall_mem_cons.mpr ⟨lw_p7, List.forall_mem_cons.mpr ⟨lw_p8, List.forall_mem_cons.mpr ⟨lw_p9, List.forall_mem_cons.mpr ⟨lw_p10, List.forall_mem_cons.mpr ⟨lw_p11, List.forall_mem_cons.mpr ⟨lw_p12, List.forall_mem_cons.mpr ⟨lw_p13, List.forall_mem_cons.mpr ⟨lw_p14, List.forall_mem_cons.mpr ⟨lw_p15, fun _ h => absurd h List.not_mem_nil⟩⟩⟩⟩⟩⟩⟩⟩⟩⟩⟩⟩⟩⟩⟩⟩
theorem lw_p16 : lw_okq (⟨"ShapeReader$Shapes", "heightOfFields", "(I)I"⟩, 17) := ⟨⟨by decide +kernel, by decide +kernel⟩, List.mem_of_getElem? (i := 141) (by decide +kernel), List.mem_of_getElem? (i := 751) (by decide +kernel), List.mem_of_getElem? (i := 752) (by decide +kernel)⟩
theorem lw_p17 : lw_okq (⟨"ShapeReader", "isPlan", "(I)Z"⟩, 16) := ⟨⟨by decide +kernel, by decide +kernel⟩, List.mem_of_getElem? (i := 28) (by decide +kernel), List.mem_of_getElem? (i := 787) (by decide +kernel), List.mem_of_getElem? (i := 788) (by decide +kernel)⟩
theorem lw_p18 : lw_okq (⟨"ShapeReader$ValueText", "parseValue", "(IIII)Z"⟩, 3) := ⟨⟨by decide +kernel, by decide +kernel⟩, List.mem_of_getElem? (i := 352) (by decide +kernel), List.mem_of_getElem? (i := 797) (by decide +kernel), List.mem_of_getElem? (i := 798) (by decide +kernel)⟩
theorem lw_p19 : lw_okq (⟨"ShapeReader$ValueText", "fittingType", "(I)I"⟩, 3) := ⟨⟨by decide +kernel, by decide +kernel⟩, List.mem_of_getElem? (i := 352) (by decide +kernel), List.mem_of_getElem? (i := 803) (by decide +kernel), List.mem_of_getElem? (i := 804) (by decide +kernel)⟩
theorem lw_p20 : lw_okq (⟨"ShapeReader$Tree", "isRow", "(I)Z"⟩, 13) := ⟨⟨by decide +kernel, by decide +kernel⟩, List.mem_of_getElem? (i := 303) (by decide +kernel), List.mem_of_getElem? (i := 818) (by decide +kernel), List.mem_of_getElem? (i := 819) (by decide +kernel)⟩
theorem lw_p21 : lw_okq (⟨"ShapeReader$Tree", "link", "(II)V"⟩, 13) := ⟨⟨by decide +kernel, by decide +kernel⟩, List.mem_of_getElem? (i := 303) (by decide +kernel), List.mem_of_getElem? (i := 822) (by decide +kernel), List.mem_of_getElem? (i := 823) (by decide +kernel)⟩
theorem lw_p22 : lw_okq (⟨"ShapeReader$ValueText", "parseItems", "(III)Z"⟩, 3) := ⟨⟨by decide +kernel, by decide +kernel⟩, List.mem_of_getElem? (i := 352) (by decide +kernel), List.mem_of_getElem? (i := 838) (by decide +kernel), List.mem_of_getElem? (i := 839) (by decide +kernel)⟩
theorem lw_p23 : lw_okq (⟨"ShapeReader$ValueText", "parseFields", "(III)Z"⟩, 3) := ⟨⟨by decide +kernel, by decide +kernel⟩, List.mem_of_getElem? (i := 352) (by decide +kernel), List.mem_of_getElem? (i := 842) (by decide +kernel), List.mem_of_getElem? (i := 843) (by decide +kernel)⟩
theorem lw_p24 : lw_okq (⟨"ShapeReader$ValueText", "closeRecord", "(II)Z"⟩, 3) := ⟨⟨by decide +kernel, by decide +kernel⟩, List.mem_of_getElem? (i := 352) (by decide +kernel), List.mem_of_getElem? (i := 848) (by decide +kernel), List.mem_of_getElem? (i := 849) (by decide +kernel)⟩
theorem lw_p25 : lw_okq (⟨"ShapeReader$Packer", "packValue", "(LShapeReader$Tree;III)V"⟩, 3) := ⟨⟨by decide +kernel, by decide +kernel⟩, List.mem_of_getElem? (i := 368) (by decide +kernel), List.mem_of_getElem? (i := 861) (by decide +kernel), List.mem_of_getElem? (i := 862) (by decide +kernel)⟩
theorem lw_p26 : lw_okq (⟨"ShapeReader$Packer", "packBranch", "(II)I"⟩, 3) := ⟨⟨by decide +kernel, by decide +kernel⟩, List.mem_of_getElem? (i := 368) (by decide +kernel), List.mem_of_getElem? (i := 870) (by decide +kernel), List.mem_of_getElem? (i := 871) (by decide +kernel)⟩
theorem lw_p27 : lw_okq (⟨"ShapeReader$Packer", "putNumber", "(J)V"⟩, 3) := ⟨⟨by decide +kernel, by decide +kernel⟩, List.mem_of_getElem? (i := 368) (by decide +kernel), List.mem_of_getElem? (i := 876) (by decide +kernel), List.mem_of_getElem? (i := 877) (by decide +kernel)⟩
theorem lw_p28 : lw_okq (⟨"ShapeReader$Packer", "put", "(I)V"⟩, 3) := ⟨⟨by decide +kernel, by decide +kernel⟩, List.mem_of_getElem? (i := 368) (by decide +kernel), List.mem_of_getElem? (i := 882) (by decide +kernel), List.mem_of_getElem? (i := 883) (by decide +kernel)⟩
theorem lw_p29 : lw_okq (⟨"ShapeReader$Packer", "packFields", "(LShapeReader$Tree;III)V"⟩, 3) := ⟨⟨by decide +kernel, by decide +kernel⟩, List.mem_of_getElem? (i := 368) (by decide +kernel), List.mem_of_getElem? (i := 886) (by decide +kernel), List.mem_of_getElem? (i := 887) (by decide +kernel)⟩
theorem lw_p30 : lw_okq (⟨"ShapeReader$Packer", "packElse", "(III)V"⟩, 3) := ⟨⟨by decide +kernel, by decide +kernel⟩, List.mem_of_getElem? (i := 368) (by decide +kernel), List.mem_of_getElem? (i := 904) (by decide +kernel), List.mem_of_getElem? (i := 905) (by decide +kernel)⟩
theorem lw_p31 : lw_okq (⟨"ShapeReader$Packer", "packPlain", "(IJ)V"⟩, 3) := ⟨⟨by decide +kernel, by decide +kernel⟩, List.mem_of_getElem? (i := 368) (by decide +kernel), List.mem_of_getElem? (i := 913) (by decide +kernel), List.mem_of_getElem? (i := 914) (by decide +kernel)⟩
def lw_privs_2 : List (MethodName × Nat) := [(⟨"ShapeReader$Shapes", "heightOfFields", "(I)I"⟩, 17), (⟨"ShapeReader", "isPlan", "(I)Z"⟩, 16), (⟨"ShapeReader$ValueText", "parseValue", "(IIII)Z"⟩, 3), (⟨"ShapeReader$ValueText", "fittingType", "(I)I"⟩, 3), (⟨"ShapeReader$Tree", "isRow", "(I)Z"⟩, 13), (⟨"ShapeReader$Tree", "link", "(II)V"⟩, 13), (⟨"ShapeReader$ValueText", "parseItems", "(III)Z"⟩, 3), (⟨"ShapeReader$ValueText", "parseFields", "(III)Z"⟩, 3), (⟨"ShapeReader$ValueText", "closeRecord", "(II)Z"⟩, 3), (⟨"ShapeReader$Packer", "packValue", "(LShapeReader$Tree;III)V"⟩, 3), (⟨"ShapeReader$Packer", "packBranch", "(II)I"⟩, 3), (⟨"ShapeReader$Packer", "putNumber", "(J)V"⟩, 3), (⟨"ShapeReader$Packer", "put", "(I)V"⟩, 3), (⟨"ShapeReader$Packer", "packFields", "(LShapeReader$Tree;III)V"⟩, 3), (⟨"ShapeReader$Packer", "packElse", "(III)V"⟩, 3), (⟨"ShapeReader$Packer", "packPlain", "(IJ)V"⟩, 3)]
theorem lw_r2 : ∀ q ∈ lw_privs_2, lw_okq q := List.forall_mem_cons.mpr ⟨lw_p16, List.forall_mem_cons.mpr ⟨lw_p17, List.forall_mem_cons.mpr ⟨lw_p18, List.forall_mem_cons.mpr ⟨lw_p19, List.forall_mem_cons.mpr ⟨lw_p20, List.forall_mem_cons.mpr ⟨lw_p21, List.forall_mem_cons.mpr ⟨lw_p22, List.forall_mem_cons.mpr ⟨lw_p23, List.forall_mem_cons.mpr ⟨lw_p24, List.forall_mem_cons.mpr ⟨lw_p25, List.forall_mem_cons.mpr ⟨lw_p26, List.forall_mem_cons.mpr ⟨lw_p27, List.forall_mem_cons.mpr ⟨lw_p28, List.forall_mem_cons.mpr ⟨lw_p29, List.forall_mem_cons.mpr ⟨lw_p30, List.forall_mem_cons.mpr ⟨lw_p31, fun _ h => absurd h List.not_mem_nil⟩⟩⟩⟩⟩⟩⟩⟩⟩⟩⟩⟩⟩⟩⟩⟩
theorem lw_p32 : lw_okq (⟨"ShapeReader$Packer", "packLetters", "(J)V"⟩, 3) := ⟨⟨by decide +kernel, by decide +kernel⟩, List.mem_of_getElem? (i := 368) (by decide +kernel), List.mem_of_getElem? (i := 917) (by decide +kernel), List.mem_of_getElem? (i := 918) (by decide +kernel)⟩
theorem lw_p33 : lw_okq (⟨"ShapeReader$Matcher", "relate", "(II)V"⟩, 13) := ⟨⟨by decide +kernel, by decide +kernel⟩, List.mem_of_getElem? (i := 233) (by decide +kernel), List.mem_of_getElem? (i := 1028) (by decide +kernel), List.mem_of_getElem? (i := 1029) (by decide +kernel)⟩
theorem lw_p34 : lw_okq (⟨"ShapeReader$Matcher", "mayPair", "(II)Z"⟩, 13) := ⟨⟨by decide +kernel, by decide +kernel⟩, List.mem_of_getElem? (i := 233) (by decide +kernel), List.mem_of_getElem? (i := 1033) (by decide +kernel), List.mem_of_getElem? (i := 1034) (by decide +kernel)⟩
theorem lw_p35 : lw_okq (⟨"ShapeReader$Matcher", "fieldsFit", "(II)Z"⟩, 13) := ⟨⟨by decide +kernel, by decide +kernel⟩, List.mem_of_getElem? (i := 233) (by decide +kernel), List.mem_of_getElem? (i := 1042) (by decide +kernel), List.mem_of_getElem? (i := 1043) (by decide +kernel)⟩
theorem lw_p36 : lw_okq (⟨"ShapeReader$Matcher", "fitsWithin", "(III)Z"⟩, 13) := ⟨⟨by decide +kernel, by decide +kernel⟩, List.mem_of_getElem? (i := 233) (by decide +kernel), List.mem_of_getElem? (i := 1056) (by decide +kernel), List.mem_of_getElem? (i := 1057) (by decide +kernel)⟩
theorem lw_p37 : lw_okq (⟨"ShapeReader$Matcher", "chosenWithin", "(III)I"⟩, 13) := ⟨⟨by decide +kernel, by decide +kernel⟩, List.mem_of_getElem? (i := 233) (by decide +kernel), List.mem_of_getElem? (i := 1063) (by decide +kernel), List.mem_of_getElem? (i := 1064) (by decide +kernel)⟩
theorem lw_p38 : lw_okq (⟨"ShapeReader$Matcher", "collectMisses", "(II)V"⟩, 13) := ⟨⟨by decide +kernel, by decide +kernel⟩, List.mem_of_getElem? (i := 233) (by decide +kernel), List.mem_of_getElem? (i := 1071) (by decide +kernel), List.mem_of_getElem? (i := 1072) (by decide +kernel)⟩
theorem lw_p39 : lw_okq (⟨"ShapeReader$Matcher", "walk", "(III)V"⟩, 13) := ⟨⟨by decide +kernel, by decide +kernel⟩, List.mem_of_getElem? (i := 233) (by decide +kernel), List.mem_of_getElem? (i := 1076) (by decide +kernel), List.mem_of_getElem? (i := 1077) (by decide +kernel)⟩
theorem lw_p40 : lw_okq (⟨"ShapeReader$Matcher", "walkBranches", "(III)V"⟩, 13) := ⟨⟨by decide +kernel, by decide +kernel⟩, List.mem_of_getElem? (i := 233) (by decide +kernel), List.mem_of_getElem? (i := 1080) (by decide +kernel), List.mem_of_getElem? (i := 1081) (by decide +kernel)⟩
theorem lw_p41 : lw_okq (⟨"ShapeReader$Matcher", "step", "(I)V"⟩, 13) := ⟨⟨by decide +kernel, by decide +kernel⟩, List.mem_of_getElem? (i := 233) (by decide +kernel), List.mem_of_getElem? (i := 1084) (by decide +kernel), List.mem_of_getElem? (i := 1085) (by decide +kernel)⟩
theorem lw_p42 : lw_okq (⟨"ShapeReader$Matcher", "addMiss", "(I)V"⟩, 13) := ⟨⟨by decide +kernel, by decide +kernel⟩, List.mem_of_getElem? (i := 233) (by decide +kernel), List.mem_of_getElem? (i := 1092) (by decide +kernel), List.mem_of_getElem? (i := 1093) (by decide +kernel)⟩
theorem lw_p43 : lw_okq (⟨"ShapeReader$Matcher", "walkFields", "(III)V"⟩, 13) := ⟨⟨by decide +kernel, by decide +kernel⟩, List.mem_of_getElem? (i := 233) (by decide +kernel), List.mem_of_getElem? (i := 1101) (by decide +kernel), List.mem_of_getElem? (i := 1102) (by decide +kernel)⟩
theorem lw_p44 : lw_okq (⟨"ShapeReader$Matcher", "isMiss", "(I)Z"⟩, 13) := ⟨⟨by decide +kernel, by decide +kernel⟩, List.mem_of_getElem? (i := 233) (by decide +kernel), List.mem_of_getElem? (i := 1121) (by decide +kernel), List.mem_of_getElem? (i := 1122) (by decide +kernel)⟩
theorem lw_p45 : lw_okq (⟨"ShapeReader$Reading", "take", "(IIIII)V"⟩, 12) := ⟨⟨by decide +kernel, by decide +kernel⟩, List.mem_of_getElem? (i := 387) (by decide +kernel), List.mem_of_getElem? (i := 1166) (by decide +kernel), List.mem_of_getElem? (i := 1167) (by decide +kernel)⟩
theorem lw_p46 : lw_okq (⟨"ShapeReader$Reading", "fail", "(II)V"⟩, 12) := ⟨⟨by decide +kernel, by decide +kernel⟩, List.mem_of_getElem? (i := 387) (by decide +kernel), List.mem_of_getElem? (i := 1170) (by decide +kernel), List.mem_of_getElem? (i := 1171) (by decide +kernel)⟩
theorem lw_p47 : lw_okq (⟨"ShapeReader$Reading", "isEmptyThere", "(II)Z"⟩, 12) := ⟨⟨by decide +kernel, by decide +kernel⟩, List.mem_of_getElem? (i := 387) (by decide +kernel), List.mem_of_getElem? (i := 1174) (by decide +kernel), List.mem_of_getElem? (i := 1175) (by decide +kernel)⟩
def lw_privs_3 : List (MethodName × Nat) := [(⟨"ShapeReader$Packer", "packLetters", "(J)V"⟩, 3), (⟨"ShapeReader$Matcher", "relate", "(II)V"⟩, 13), (⟨"ShapeReader$Matcher", "mayPair", "(II)Z"⟩, 13), (⟨"ShapeReader$Matcher", "fieldsFit", "(II)Z"⟩, 13), (⟨"ShapeReader$Matcher", "fitsWithin", "(III)Z"⟩, 13), (⟨"ShapeReader$Matcher", "chosenWithin", "(III)I"⟩, 13), (⟨"ShapeReader$Matcher", "collectMisses", "(II)V"⟩, 13), (⟨"ShapeReader$Matcher", "walk", "(III)V"⟩, 13), (⟨"ShapeReader$Matcher", "walkBranches", "(III)V"⟩, 13), (⟨"ShapeReader$Matcher", "step", "(I)V"⟩, 13), (⟨"ShapeReader$Matcher", "addMiss", "(I)V"⟩, 13), (⟨"ShapeReader$Matcher", "walkFields", "(III)V"⟩, 13), (⟨"ShapeReader$Matcher", "isMiss", "(I)Z"⟩, 13), (⟨"ShapeReader$Reading", "take", "(IIIII)V"⟩, 12), (⟨"ShapeReader$Reading", "fail", "(II)V"⟩, 12), (⟨"ShapeReader$Reading", "isEmptyThere", "(II)Z"⟩, 12)]
theorem lw_r3 : ∀ q ∈ lw_privs_3, lw_okq q := List.forall_mem_cons.mpr ⟨lw_p32, List.forall_mem_cons.mpr ⟨lw_p33, List.forall_mem_cons.mpr ⟨lw_p34, List.forall_mem_cons.mpr ⟨lw_p35, List.forall_mem_cons.mpr ⟨lw_p36, List.forall_mem_cons.mpr ⟨lw_p37, List.forall_mem_cons.mpr ⟨lw_p38, List.forall_mem_cons.mpr ⟨lw_p39, List.forall_mem_cons.mpr ⟨lw_p40, List.forall_mem_cons.mpr ⟨lw_p41, List.forall_mem_cons.mpr ⟨lw_p42, List.forall_mem_cons.mpr ⟨lw_p43, List.forall_mem_cons.mpr ⟨lw_p44, List.forall_mem_cons.mpr ⟨lw_p45, List.forall_mem_cons.mpr ⟨lw_p46, List.forall_mem_cons.mpr ⟨lw_p47, fun _ h => absurd h List.not_mem_nil⟩⟩⟩⟩⟩⟩⟩⟩⟩⟩⟩⟩⟩⟩⟩⟩
theorem lw_p48 : lw_okq (⟨"ShapeReader$Reading", "takeOwn", "(IIIII)V"⟩, 12) := ⟨⟨by decide +kernel, by decide +kernel⟩, List.mem_of_getElem? (i := 387) (by decide +kernel), List.mem_of_getElem? (i := 1180) (by decide +kernel), List.mem_of_getElem? (i := 1181) (by decide +kernel)⟩
theorem lw_p49 : lw_okq (⟨"ShapeReader$Reading", "takeRecord", "(IIIII)V"⟩, 12) := ⟨⟨by decide +kernel, by decide +kernel⟩, List.mem_of_getElem? (i := 387) (by decide +kernel), List.mem_of_getElem? (i := 1186) (by decide +kernel), List.mem_of_getElem? (i := 1187) (by decide +kernel)⟩
theorem lw_p50 : lw_okq (⟨"ShapeReader$Reading", "addNode", "(IIIIJ)I"⟩, 12) := ⟨⟨by decide +kernel, by decide +kernel⟩, List.mem_of_getElem? (i := 387) (by decide +kernel), List.mem_of_getElem? (i := 1191) (by decide +kernel), List.mem_of_getElem? (i := 1192) (by decide +kernel)⟩
theorem lw_p51 : lw_okq (⟨"ShapeReader$Reading", "findSources", "(III)V"⟩, 12) := ⟨⟨by decide +kernel, by decide +kernel⟩, List.mem_of_getElem? (i := 387) (by decide +kernel), List.mem_of_getElem? (i := 1197) (by decide +kernel), List.mem_of_getElem? (i := 1198) (by decide +kernel)⟩
theorem lw_p52 : lw_okq (⟨"ShapeReader$Reading", "step", "(I)V"⟩, 12) := ⟨⟨by decide +kernel, by decide +kernel⟩, List.mem_of_getElem? (i := 387) (by decide +kernel), List.mem_of_getElem? (i := 1202) (by decide +kernel), List.mem_of_getElem? (i := 1203) (by decide +kernel)⟩
theorem lw_p53 : lw_okq (⟨"ShapeReader$Reading", "takeField", "(IIIII)V"⟩, 12) := ⟨⟨by decide +kernel, by decide +kernel⟩, List.mem_of_getElem? (i := 387) (by decide +kernel), List.mem_of_getElem? (i := 1207) (by decide +kernel), List.mem_of_getElem? (i := 1208) (by decide +kernel)⟩
theorem lw_p54 : lw_okq (⟨"ShapeReader$Reading", "sourceAt", "(II)I"⟩, 12) := ⟨⟨by decide +kernel, by decide +kernel⟩, List.mem_of_getElem? (i := 387) (by decide +kernel), List.mem_of_getElem? (i := 1211) (by decide +kernel), List.mem_of_getElem? (i := 1212) (by decide +kernel)⟩
theorem lw_p55 : lw_okq (⟨"ShapeReader$Reading", "stepBack", "()V"⟩, 12) := ⟨⟨by decide +kernel, by decide +kernel⟩, List.mem_of_getElem? (i := 387) (by decide +kernel), List.mem_of_getElem? (i := 1215) (by decide +kernel), List.mem_of_getElem? (i := 1216) (by decide +kernel)⟩
theorem lw_p56 : lw_okq (⟨"ShapeReader$Reading", "fillIn", "(III)V"⟩, 12) := ⟨⟨by decide +kernel, by decide +kernel⟩, List.mem_of_getElem? (i := 387) (by decide +kernel), List.mem_of_getElem? (i := 1219) (by decide +kernel), List.mem_of_getElem? (i := 1220) (by decide +kernel)⟩
theorem lw_p57 : lw_okq (⟨"ShapeReader$Reading", "takeList", "(IIIII)V"⟩, 12) := ⟨⟨by decide +kernel, by decide +kernel⟩, List.mem_of_getElem? (i := 387) (by decide +kernel), List.mem_of_getElem? (i := 1230) (by decide +kernel), List.mem_of_getElem? (i := 1231) (by decide +kernel)⟩
theorem lw_p58 : lw_okq (⟨"ShapeReader$Reading", "takeCount", "(II)I"⟩, 12) := ⟨⟨by decide +kernel, by decide +kernel⟩, List.mem_of_getElem? (i := 387) (by decide +kernel), List.mem_of_getElem? (i := 1234) (by decide +kernel), List.mem_of_getElem? (i := 1235) (by decide +kernel)⟩
theorem lw_p59 : lw_okq (⟨"ShapeReader$Reading", "takeNumber", "(I)J"⟩, 12) := ⟨⟨by decide +kernel, by decide +kernel⟩, List.mem_of_getElem? (i := 387) (by decide +kernel), List.mem_of_getElem? (i := 1238) (by decide +kernel), List.mem_of_getElem? (i := 1239) (by decide +kernel)⟩
theorem lw_p60 : lw_okq (⟨"ShapeReader$Reading", "takeByte", "()I"⟩, 12) := ⟨⟨by decide +kernel, by decide +kernel⟩, List.mem_of_getElem? (i := 387) (by decide +kernel), List.mem_of_getElem? (i := 1242) (by decide +kernel), List.mem_of_getElem? (i := 1243) (by decide +kernel)⟩
theorem lw_p61 : lw_okq (⟨"ShapeReader$Reading", "takePlain", "(IIII)V"⟩, 12) := ⟨⟨by decide +kernel, by decide +kernel⟩, List.mem_of_getElem? (i := 387) (by decide +kernel), List.mem_of_getElem? (i := 1247) (by decide +kernel), List.mem_of_getElem? (i := 1248) (by decide +kernel)⟩
theorem lw_p62 : lw_okq (⟨"ShapeReader$Reading", "takeReal", "()J"⟩, 12) := ⟨⟨by decide +kernel, by decide +kernel⟩, List.mem_of_getElem? (i := 387) (by decide +kernel), List.mem_of_getElem? (i := 1252) (by decide +kernel), List.mem_of_getElem? (i := 1253) (by decide +kernel)⟩
theorem lw_p63 : lw_okq (⟨"ShapeReader$Reading", "takeLetters", "(II)J"⟩, 12) := ⟨⟨by decide +kernel, by decide +kernel⟩, List.mem_of_getElem? (i := 387) (by decide +kernel), List.mem_of_getElem? (i := 1259) (by decide +kernel), List.mem_of_getElem? (i := 1260) (by decide +kernel)⟩
def lw_privs_4 : List (MethodName × Nat) := [(⟨"ShapeReader$Reading", "takeOwn", "(IIIII)V"⟩, 12), (⟨"ShapeReader$Reading", "takeRecord", "(IIIII)V"⟩, 12), (⟨"ShapeReader$Reading", "addNode", "(IIIIJ)I"⟩, 12), (⟨"ShapeReader$Reading", "findSources", "(III)V"⟩, 12), (⟨"ShapeReader$Reading", "step", "(I)V"⟩, 12), (⟨"ShapeReader$Reading", "takeField", "(IIIII)V"⟩, 12), (⟨"ShapeReader$Reading", "sourceAt", "(II)I"⟩, 12), (⟨"ShapeReader$Reading", "stepBack", "()V"⟩, 12), (⟨"ShapeReader$Reading", "fillIn", "(III)V"⟩, 12), (⟨"ShapeReader$Reading", "takeList", "(IIIII)V"⟩, 12), (⟨"ShapeReader$Reading", "takeCount", "(II)I"⟩, 12), (⟨"ShapeReader$Reading", "takeNumber", "(I)J"⟩, 12), (⟨"ShapeReader$Reading", "takeByte", "()I"⟩, 12), (⟨"ShapeReader$Reading", "takePlain", "(IIII)V"⟩, 12), (⟨"ShapeReader$Reading", "takeReal", "()J"⟩, 12), (⟨"ShapeReader$Reading", "takeLetters", "(II)J"⟩, 12)]
theorem lw_r4 : ∀ q ∈ lw_privs_4, lw_okq q := List.forall_mem_cons.mpr ⟨lw_p48, List.forall_mem_cons.mpr ⟨lw_p49, List.forall_mem_cons.mpr ⟨lw_p50, List.forall_mem_cons.mpr ⟨lw_p51, List.forall_mem_cons.mpr ⟨lw_p52, List.forall_mem_cons.mpr ⟨lw_p53, List.forall_mem_cons.mpr ⟨lw_p54, List.forall_mem_cons.mpr ⟨lw_p55, List.forall_mem_cons.mpr ⟨lw_p56, List.forall_mem_cons.mpr ⟨lw_p57, List.forall_mem_cons.mpr ⟨lw_p58, List.forall_mem_cons.mpr ⟨lw_p59, List.forall_mem_cons.mpr ⟨lw_p60, List.forall_mem_cons.mpr ⟨lw_p61, List.forall_mem_cons.mpr ⟨lw_p62, List.forall_mem_cons.mpr ⟨lw_p63, fun _ h => absurd h List.not_mem_nil⟩⟩⟩⟩⟩⟩⟩⟩⟩⟩⟩⟩⟩⟩⟩⟩
theorem lw_p64 : lw_okq (⟨"ShapeReader$Tree", "rowBehind", "(I)I"⟩, 13) := ⟨⟨by decide +kernel, by decide +kernel⟩, List.mem_of_getElem? (i := 303) (by decide +kernel), List.mem_of_getElem? (i := 1278) (by decide +kernel), List.mem_of_getElem? (i := 1279) (by decide +kernel)⟩
theorem lw_p65 : lw_okq (⟨"java/lang/Throwable", "fillInStackTrace", "(I)Ljava/lang/Throwable;"⟩, 6) := ⟨⟨by decide +kernel, by decide +kernel⟩, List.mem_of_getElem? (i := 1376) (by decide +kernel), List.mem_of_getElem? (i := 1374) (by decide +kernel), List.mem_of_getElem? (i := 1375) (by decide +kernel)⟩
theorem lw_p66 : lw_okq (⟨"ShapeReaderModel", "puts", "(I)V"⟩, 95) := ⟨⟨by decide +kernel, by decide +kernel⟩, List.mem_of_getElem? (i := 1437) (by decide +kernel), List.mem_of_getElem? (i := 1737) (by decide +kernel), List.mem_of_getElem? (i := 1738) (by decide +kernel)⟩
theorem lw_p67 : lw_okq (⟨"ShapeReaderModel", "begins", "(I)V"⟩, 95) := ⟨⟨by decide +kernel, by decide +kernel⟩, List.mem_of_getElem? (i := 1437) (by decide +kernel), List.mem_of_getElem? (i := 1748) (by decide +kernel), List.mem_of_getElem? (i := 1749) (by decide +kernel)⟩
theorem lw_p68 : lw_okq (⟨"ShapeReaderModel", "go", "()V"⟩, 95) := ⟨⟨by decide +kernel, by decide +kernel⟩, List.mem_of_getElem? (i := 1437) (by decide +kernel), List.mem_of_getElem? (i := 1752) (by decide +kernel), List.mem_of_getElem? (i := 1753) (by decide +kernel)⟩
theorem lw_p69 : lw_okq (⟨"ShapeReaderModel", "byteAt", "(I)I"⟩, 95) := ⟨⟨by decide +kernel, by decide +kernel⟩, List.mem_of_getElem? (i := 1437) (by decide +kernel), List.mem_of_getElem? (i := 1756) (by decide +kernel), List.mem_of_getElem? (i := 1757) (by decide +kernel)⟩
theorem lw_p70 : lw_okq (⟨"ShapeReaderModel", "word", "(I)V"⟩, 95) := ⟨⟨by decide +kernel, by decide +kernel⟩, List.mem_of_getElem? (i := 1437) (by decide +kernel), List.mem_of_getElem? (i := 1765) (by decide +kernel), List.mem_of_getElem? (i := 1766) (by decide +kernel)⟩
theorem lw_p71 : lw_okq (⟨"ShapeReaderModel", "number", "()V"⟩, 95) := ⟨⟨by decide +kernel, by decide +kernel⟩, List.mem_of_getElem? (i := 1437) (by decide +kernel), List.mem_of_getElem? (i := 1776) (by decide +kernel), List.mem_of_getElem? (i := 1777) (by decide +kernel)⟩
theorem lw_p72 : lw_okq (⟨"ShapeReaderModel", "quoted", "()V"⟩, 95) := ⟨⟨by decide +kernel, by decide +kernel⟩, List.mem_of_getElem? (i := 1437) (by decide +kernel), List.mem_of_getElem? (i := 1782) (by decide +kernel), List.mem_of_getElem? (i := 1783) (by decide +kernel)⟩
theorem lw_p73 : lw_okq (⟨"ShapeReaderModel", "plan", "()Z"⟩, 95) := ⟨⟨by decide +kernel, by decide +kernel⟩, List.mem_of_getElem? (i := 1437) (by decide +kernel), List.mem_of_getElem? (i := 1789) (by decide +kernel), List.mem_of_getElem? (i := 1790) (by decide +kernel)⟩
theorem lw_p74 : lw_okq (⟨"ShapeReaderModel", "isPlan", "()Z"⟩, 95) := ⟨⟨by decide +kernel, by decide +kernel⟩, List.mem_of_getElem? (i := 1437) (by decide +kernel), List.mem_of_getElem? (i := 1793) (by decide +kernel), List.mem_of_getElem? (i := 1794) (by decide +kernel)⟩
theorem lw_p75 : lw_okq (⟨"ShapeReaderModel", "isWord", "(J)Z"⟩, 95) := ⟨⟨by decide +kernel, by decide +kernel⟩, List.mem_of_getElem? (i := 1437) (by decide +kernel), List.mem_of_getElem? (i := 1800) (by decide +kernel), List.mem_of_getElem? (i := 1801) (by decide +kernel)⟩
theorem lw_p76 : lw_okq (⟨"ShapeReaderModel", "wrongHere", "(I)Z"⟩, 95) := ⟨⟨by decide +kernel, by decide +kernel⟩, List.mem_of_getElem? (i := 1437) (by decide +kernel), List.mem_of_getElem? (i := 1804) (by decide +kernel), List.mem_of_getElem? (i := 1805) (by decide +kernel)⟩
theorem lw_p77 : lw_okq (⟨"ShapeReaderModel", "wrong", "(II)Z"⟩, 95) := ⟨⟨by decide +kernel, by decide +kernel⟩, List.mem_of_getElem? (i := 1437) (by decide +kernel), List.mem_of_getElem? (i := 1808) (by decide +kernel), List.mem_of_getElem? (i := 1809) (by decide +kernel)⟩
theorem lw_p78 : lw_okq (⟨"ShapeReaderModel", "mark", "(I)Z"⟩, 95) := ⟨⟨by decide +kernel, by decide +kernel⟩, List.mem_of_getElem? (i := 1437) (by decide +kernel), List.mem_of_getElem? (i := 1812) (by decide +kernel), List.mem_of_getElem? (i := 1813) (by decide +kernel)⟩
theorem lw_p79 : lw_okq (⟨"ShapeReaderModel", "record", "(I)Z"⟩, 95) := ⟨⟨by decide +kernel, by decide +kernel⟩, List.mem_of_getElem? (i := 1437) (by decide +kernel), List.mem_of_getElem? (i := 1816) (by decide +kernel), List.mem_of_getElem? (i := 1817) (by decide +kernel)⟩
def lw_privs_5 : List (MethodName × Nat) := [(⟨"ShapeReader$Tree", "rowBehind", "(I)I"⟩, 13), (⟨"java/lang/Throwable", "fillInStackTrace", "(I)Ljava/lang/Throwable;"⟩, 6), (⟨"ShapeReaderModel", "puts", "(I)V"⟩, 95), (⟨"ShapeReaderModel", "begins", "(I)V"⟩, 95), (⟨"ShapeReaderModel", "go", "()V"⟩, 95), (⟨"ShapeReaderModel", "byteAt", "(I)I"⟩, 95), (⟨"ShapeReaderModel", "word", "(I)V"⟩, 95), (⟨"ShapeReaderModel", "number", "()V"⟩, 95), (⟨"ShapeReaderModel", "quoted", "()V"⟩, 95), (⟨"ShapeReaderModel", "plan", "()Z"⟩, 95), (⟨"ShapeReaderModel", "isPlan", "()Z"⟩, 95), (⟨"ShapeReaderModel", "isWord", "(J)Z"⟩, 95), (⟨"ShapeReaderModel", "wrongHere", "(I)Z"⟩, 95), (⟨"ShapeReaderModel", "wrong", "(II)Z"⟩, 95), (⟨"ShapeReaderModel", "mark", "(I)Z"⟩, 95), (⟨"ShapeReaderModel", "record", "(I)Z"⟩, 95)]
theorem lw_r5 : ∀ q ∈ lw_privs_5, lw_okq q := List.forall_mem_cons.mpr ⟨lw_p64, List.forall_mem_cons.mpr ⟨lw_p65, List.forall_mem_cons.mpr ⟨lw_p66, List.forall_mem_cons.mpr ⟨lw_p67, List.forall_mem_cons.mpr ⟨lw_p68, List.forall_mem_cons.mpr ⟨lw_p69, List.forall_mem_cons.mpr ⟨lw_p70, List.forall_mem_cons.mpr ⟨lw_p71, List.forall_mem_cons.mpr ⟨lw_p72, List.forall_mem_cons.mpr ⟨lw_p73, List.forall_mem_cons.mpr ⟨lw_p74, List.forall_mem_cons.mpr ⟨lw_p75, List.forall_mem_cons.mpr ⟨lw_p76, List.forall_mem_cons.mpr ⟨lw_p77, List.forall_mem_cons.mpr ⟨lw_p78, List.forall_mem_cons.mpr ⟨lw_p79, fun _ h => absurd h List.not_mem_nil⟩⟩⟩⟩⟩⟩⟩⟩⟩⟩⟩⟩⟩⟩⟩⟩
theorem lw_p80 : lw_okq (⟨"ShapeReaderModel", "isRecord", "()Z"⟩, 95) := ⟨⟨by decide +kernel, by decide +kernel⟩, List.mem_of_getElem? (i := 1437) (by decide +kernel), List.mem_of_getElem? (i := 1820) (by decide +kernel), List.mem_of_getElem? (i := 1821) (by decide +kernel)⟩
theorem lw_p81 : lw_okq (⟨"ShapeReaderModel", "isName", "()Z"⟩, 95) := ⟨⟨by decide +kernel, by decide +kernel⟩, List.mem_of_getElem? (i := 1437) (by decide +kernel), List.mem_of_getElem? (i := 1824) (by decide +kernel), List.mem_of_getElem? (i := 1825) (by decide +kernel)⟩
theorem lw_p82 : lw_okq (⟨"ShapeReaderModel", "sortHere", "()I"⟩, 95) := ⟨⟨by decide +kernel, by decide +kernel⟩, List.mem_of_getElem? (i := 1437) (by decide +kernel), List.mem_of_getElem? (i := 1828) (by decide +kernel), List.mem_of_getElem? (i := 1829) (by decide +kernel)⟩
theorem lw_p83 : lw_okq (⟨"ShapeReaderModel", "isWas", "()Z"⟩, 95) := ⟨⟨by decide +kernel, by decide +kernel⟩, List.mem_of_getElem? (i := 1437) (by decide +kernel), List.mem_of_getElem? (i := 1832) (by decide +kernel), List.mem_of_getElem? (i := 1833) (by decide +kernel)⟩
theorem lw_p84 : lw_okq (⟨"ShapeReaderModel", "isElse", "()Z"⟩, 95) := ⟨⟨by decide +kernel, by decide +kernel⟩, List.mem_of_getElem? (i := 1437) (by decide +kernel), List.mem_of_getElem? (i := 1836) (by decide +kernel), List.mem_of_getElem? (i := 1837) (by decide +kernel)⟩
theorem lw_p85 : lw_okq (⟨"ShapeReaderModel", "isOr", "()Z"⟩, 95) := ⟨⟨by decide +kernel, by decide +kernel⟩, List.mem_of_getElem? (i := 1437) (by decide +kernel), List.mem_of_getElem? (i := 1840) (by decide +kernel), List.mem_of_getElem? (i := 1841) (by decide +kernel)⟩
theorem lw_p86 : lw_okq (⟨"ShapeReaderModel", "isYes", "()Z"⟩, 95) := ⟨⟨by decide +kernel, by decide +kernel⟩, List.mem_of_getElem? (i := 1437) (by decide +kernel), List.mem_of_getElem? (i := 1844) (by decide +kernel), List.mem_of_getElem? (i := 1845) (by decide +kernel)⟩
theorem lw_p87 : lw_okq (⟨"ShapeReaderModel", "isNo", "()Z"⟩, 95) := ⟨⟨by decide +kernel, by decide +kernel⟩, List.mem_of_getElem? (i := 1437) (by decide +kernel), List.mem_of_getElem? (i := 1848) (by decide +kernel), List.mem_of_getElem? (i := 1849) (by decide +kernel)⟩
theorem lw_p88 : lw_okq (⟨"ShapeReaderModel", "recordOf", "(IJ)I"⟩, 95) := ⟨⟨by decide +kernel, by decide +kernel⟩, List.mem_of_getElem? (i := 1437) (by decide +kernel), List.mem_of_getElem? (i := 1852) (by decide +kernel), List.mem_of_getElem? (i := 1853) (by decide +kernel)⟩
theorem lw_p89 : lw_okq (⟨"ShapeReaderModel", "field", "(I)Z"⟩, 95) := ⟨⟨by decide +kernel, by decide +kernel⟩, List.mem_of_getElem? (i := 1437) (by decide +kernel), List.mem_of_getElem? (i := 1856) (by decide +kernel), List.mem_of_getElem? (i := 1857) (by decide +kernel)⟩
theorem lw_p90 : lw_okq (⟨"ShapeReaderModel", "fieldOf", "(IJ)I"⟩, 95) := ⟨⟨by decide +kernel, by decide +kernel⟩, List.mem_of_getElem? (i := 1437) (by decide +kernel), List.mem_of_getElem? (i := 1860) (by decide +kernel), List.mem_of_getElem? (i := 1861) (by decide +kernel)⟩
theorem lw_p91 : lw_okq (⟨"ShapeReaderModel", "type", "(II)I"⟩, 95) := ⟨⟨by decide +kernel, by decide +kernel⟩, List.mem_of_getElem? (i := 1437) (by decide +kernel), List.mem_of_getElem? (i := 1864) (by decide +kernel), List.mem_of_getElem? (i := 1865) (by decide +kernel)⟩
theorem lw_p92 : lw_okq (⟨"ShapeReaderModel", "isAsked", "(II)Z"⟩, 95) := ⟨⟨by decide +kernel, by decide +kernel⟩, List.mem_of_getElem? (i := 1437) (by decide +kernel), List.mem_of_getElem? (i := 1868) (by decide +kernel), List.mem_of_getElem? (i := 1869) (by decide +kernel)⟩
theorem lw_p93 : lw_okq (⟨"ShapeReaderModel", "branches", "(II)Z"⟩, 95) := ⟨⟨by decide +kernel, by decide +kernel⟩, List.mem_of_getElem? (i := 1437) (by decide +kernel), List.mem_of_getElem? (i := 1872) (by decide +kernel), List.mem_of_getElem? (i := 1873) (by decide +kernel)⟩
theorem lw_p94 : lw_okq (⟨"ShapeReaderModel", "elseOf", "(I)Z"⟩, 95) := ⟨⟨by decide +kernel, by decide +kernel⟩, List.mem_of_getElem? (i := 1437) (by decide +kernel), List.mem_of_getElem? (i := 1876) (by decide +kernel), List.mem_of_getElem? (i := 1877) (by decide +kernel)⟩
theorem lw_p95 : lw_okq (⟨"ShapeReaderModel", "isLiteral", "()Z"⟩, 95) := ⟨⟨by decide +kernel, by decide +kernel⟩, List.mem_of_getElem? (i := 1437) (by decide +kernel), List.mem_of_getElem? (i := 1880) (by decide +kernel), List.mem_of_getElem? (i := 1881) (by decide +kernel)⟩
def lw_privs_6 : List (MethodName × Nat) := [(⟨"ShapeReaderModel", "isRecord", "()Z"⟩, 95), (⟨"ShapeReaderModel", "isName", "()Z"⟩, 95), (⟨"ShapeReaderModel", "sortHere", "()I"⟩, 95), (⟨"ShapeReaderModel", "isWas", "()Z"⟩, 95), (⟨"ShapeReaderModel", "isElse", "()Z"⟩, 95), (⟨"ShapeReaderModel", "isOr", "()Z"⟩, 95), (⟨"ShapeReaderModel", "isYes", "()Z"⟩, 95), (⟨"ShapeReaderModel", "isNo", "()Z"⟩, 95), (⟨"ShapeReaderModel", "recordOf", "(IJ)I"⟩, 95), (⟨"ShapeReaderModel", "field", "(I)Z"⟩, 95), (⟨"ShapeReaderModel", "fieldOf", "(IJ)I"⟩, 95), (⟨"ShapeReaderModel", "type", "(II)I"⟩, 95), (⟨"ShapeReaderModel", "isAsked", "(II)Z"⟩, 95), (⟨"ShapeReaderModel", "branches", "(II)Z"⟩, 95), (⟨"ShapeReaderModel", "elseOf", "(I)Z"⟩, 95), (⟨"ShapeReaderModel", "isLiteral", "()Z"⟩, 95)]
theorem lw_r6 : ∀ q ∈ lw_privs_6, lw_okq q := List.forall_mem_cons.mpr ⟨lw_p80, List.forall_mem_cons.mpr ⟨lw_p81, List.forall_mem_cons.mpr ⟨lw_p82, List.forall_mem_cons.mpr ⟨lw_p83, List.forall_mem_cons.mpr ⟨lw_p84, List.forall_mem_cons.mpr ⟨lw_p85, List.forall_mem_cons.mpr ⟨lw_p86, List.forall_mem_cons.mpr ⟨lw_p87, List.forall_mem_cons.mpr ⟨lw_p88, List.forall_mem_cons.mpr ⟨lw_p89, List.forall_mem_cons.mpr ⟨lw_p90, List.forall_mem_cons.mpr ⟨lw_p91, List.forall_mem_cons.mpr ⟨lw_p92, List.forall_mem_cons.mpr ⟨lw_p93, List.forall_mem_cons.mpr ⟨lw_p94, List.forall_mem_cons.mpr ⟨lw_p95, fun _ h => absurd h List.not_mem_nil⟩⟩⟩⟩⟩⟩⟩⟩⟩⟩⟩⟩⟩⟩⟩⟩
theorem lw_p96 : lw_okq (⟨"ShapeReaderModel", "fits", "(I)Z"⟩, 95) := ⟨⟨by decide +kernel, by decide +kernel⟩, List.mem_of_getElem? (i := 1437) (by decide +kernel), List.mem_of_getElem? (i := 1887) (by decide +kernel), List.mem_of_getElem? (i := 1888) (by decide +kernel)⟩
theorem lw_p97 : lw_okq (⟨"ShapeReaderModel", "bitsOf", "(I)J"⟩, 95) := ⟨⟨by decide +kernel, by decide +kernel⟩, List.mem_of_getElem? (i := 1437) (by decide +kernel), List.mem_of_getElem? (i := 1893) (by decide +kernel), List.mem_of_getElem? (i := 1894) (by decide +kernel)⟩
theorem lw_p98 : lw_okq (⟨"ShapeReaderModel", "ends", "(II)Z"⟩, 95) := ⟨⟨by decide +kernel, by decide +kernel⟩, List.mem_of_getElem? (i := 1437) (by decide +kernel), List.mem_of_getElem? (i := 1907) (by decide +kernel), List.mem_of_getElem? (i := 1908) (by decide +kernel)⟩
theorem lw_p99 : lw_okq (⟨"ShapeReaderModel", "takes", "()V"⟩, 95) := ⟨⟨by decide +kernel, by decide +kernel⟩, List.mem_of_getElem? (i := 1437) (by decide +kernel), List.mem_of_getElem? (i := 1911) (by decide +kernel), List.mem_of_getElem? (i := 1912) (by decide +kernel)⟩
theorem lw_p100 : lw_okq (⟨"ShapeReaderModel", "isPlanAt", "(I)Z"⟩, 95) := ⟨⟨by decide +kernel, by decide +kernel⟩, List.mem_of_getElem? (i := 1437) (by decide +kernel), List.mem_of_getElem? (i := 1922) (by decide +kernel), List.mem_of_getElem? (i := 1923) (by decide +kernel)⟩
theorem lw_p101 : lw_okq (⟨"ShapeReaderModel", "recordIn", "(I)I"⟩, 95) := ⟨⟨by decide +kernel, by decide +kernel⟩, List.mem_of_getElem? (i := 1437) (by decide +kernel), List.mem_of_getElem? (i := 1930) (by decide +kernel), List.mem_of_getElem? (i := 1931) (by decide +kernel)⟩
theorem lw_p102 : lw_okq (⟨"ShapeReaderModel", "rootType", "()I"⟩, 95) := ⟨⟨by decide +kernel, by decide +kernel⟩, List.mem_of_getElem? (i := 1437) (by decide +kernel), List.mem_of_getElem? (i := 1939) (by decide +kernel), List.mem_of_getElem? (i := 1940) (by decide +kernel)⟩
theorem lw_p103 : lw_okq (⟨"ShapeReaderModel", "value", "(IIIII)Z"⟩, 95) := ⟨⟨by decide +kernel, by decide +kernel⟩, List.mem_of_getElem? (i := 1437) (by decide +kernel), List.mem_of_getElem? (i := 1943) (by decide +kernel), List.mem_of_getElem? (i := 1944) (by decide +kernel)⟩
theorem lw_p104 : lw_okq (⟨"ShapeReaderModel", "branchFor", "(I)I"⟩, 95) := ⟨⟨by decide +kernel, by decide +kernel⟩, List.mem_of_getElem? (i := 1437) (by decide +kernel), List.mem_of_getElem? (i := 1947) (by decide +kernel), List.mem_of_getElem? (i := 1948) (by decide +kernel)⟩
theorem lw_p105 : lw_okq (⟨"ShapeReaderModel", "isValue", "()Z"⟩, 95) := ⟨⟨by decide +kernel, by decide +kernel⟩, List.mem_of_getElem? (i := 1437) (by decide +kernel), List.mem_of_getElem? (i := 1951) (by decide +kernel), List.mem_of_getElem? (i := 1952) (by decide +kernel)⟩
theorem lw_p106 : lw_okq (⟨"ShapeReaderModel", "laysNode", "(IIII)I"⟩, 95) := ⟨⟨by decide +kernel, by decide +kernel⟩, List.mem_of_getElem? (i := 1437) (by decide +kernel), List.mem_of_getElem? (i := 1955) (by decide +kernel), List.mem_of_getElem? (i := 1956) (by decide +kernel)⟩
theorem lw_p107 : lw_okq (⟨"ShapeReaderModel", "joins", "(II)V"⟩, 95) := ⟨⟨by decide +kernel, by decide +kernel⟩, List.mem_of_getElem? (i := 1437) (by decide +kernel), List.mem_of_getElem? (i := 1959) (by decide +kernel), List.mem_of_getElem? (i := 1960) (by decide +kernel)⟩
theorem lw_p108 : lw_okq (⟨"ShapeReaderModel", "items", "(IIII)Z"⟩, 95) := ⟨⟨by decide +kernel, by decide +kernel⟩, List.mem_of_getElem? (i := 1437) (by decide +kernel), List.mem_of_getElem? (i := 1963) (by decide +kernel), List.mem_of_getElem? (i := 1964) (by decide +kernel)⟩
theorem lw_p109 : lw_okq (⟨"ShapeReaderModel", "parts", "(IIII)Z"⟩, 95) := ⟨⟨by decide +kernel, by decide +kernel⟩, List.mem_of_getElem? (i := 1437) (by decide +kernel), List.mem_of_getElem? (i := 1967) (by decide +kernel), List.mem_of_getElem? (i := 1968) (by decide +kernel)⟩
theorem lw_p110 : lw_okq (⟨"ShapeReaderModel", "hasChild", "(II)Z"⟩, 95) := ⟨⟨by decide +kernel, by decide +kernel⟩, List.mem_of_getElem? (i := 1437) (by decide +kernel), List.mem_of_getElem? (i := 1971) (by decide +kernel), List.mem_of_getElem? (i := 1972) (by decide +kernel)⟩
theorem lw_p111 : lw_okq (⟨"ShapeReaderModel", "fills", "(III)V"⟩, 95) := ⟨⟨by decide +kernel, by decide +kernel⟩, List.mem_of_getElem? (i := 1437) (by decide +kernel), List.mem_of_getElem? (i := 1975) (by decide +kernel), List.mem_of_getElem? (i := 1976) (by decide +kernel)⟩
def lw_privs_7 : List (MethodName × Nat) := [(⟨"ShapeReaderModel", "fits", "(I)Z"⟩, 95), (⟨"ShapeReaderModel", "bitsOf", "(I)J"⟩, 95), (⟨"ShapeReaderModel", "ends", "(II)Z"⟩, 95), (⟨"ShapeReaderModel", "takes", "()V"⟩, 95), (⟨"ShapeReaderModel", "isPlanAt", "(I)Z"⟩, 95), (⟨"ShapeReaderModel", "recordIn", "(I)I"⟩, 95), (⟨"ShapeReaderModel", "rootType", "()I"⟩, 95), (⟨"ShapeReaderModel", "value", "(IIIII)Z"⟩, 95), (⟨"ShapeReaderModel", "branchFor", "(I)I"⟩, 95), (⟨"ShapeReaderModel", "isValue", "()Z"⟩, 95), (⟨"ShapeReaderModel", "laysNode", "(IIII)I"⟩, 95), (⟨"ShapeReaderModel", "joins", "(II)V"⟩, 95), (⟨"ShapeReaderModel", "items", "(IIII)Z"⟩, 95), (⟨"ShapeReaderModel", "parts", "(IIII)Z"⟩, 95), (⟨"ShapeReaderModel", "hasChild", "(II)Z"⟩, 95), (⟨"ShapeReaderModel", "fills", "(III)V"⟩, 95)]
theorem lw_r7 : ∀ q ∈ lw_privs_7, lw_okq q := List.forall_mem_cons.mpr ⟨lw_p96, List.forall_mem_cons.mpr ⟨lw_p97, List.forall_mem_cons.mpr ⟨lw_p98, List.forall_mem_cons.mpr ⟨lw_p99, List.forall_mem_cons.mpr ⟨lw_p100, List.forall_mem_cons.mpr ⟨lw_p101, List.forall_mem_cons.mpr ⟨lw_p102, List.forall_mem_cons.mpr ⟨lw_p103, List.forall_mem_cons.mpr ⟨lw_p104, List.forall_mem_cons.mpr ⟨lw_p105, List.forall_mem_cons.mpr ⟨lw_p106, List.forall_mem_cons.mpr ⟨lw_p107, List.forall_mem_cons.mpr ⟨lw_p108, List.forall_mem_cons.mpr ⟨lw_p109, List.forall_mem_cons.mpr ⟨lw_p110, List.forall_mem_cons.mpr ⟨lw_p111, fun _ h => absurd h List.not_mem_nil⟩⟩⟩⟩⟩⟩⟩⟩⟩⟩⟩⟩⟩⟩⟩⟩
theorem lw_p112 : lw_okq (⟨"ShapeReaderModel", "writesTree", "(I)V"⟩, 95) := ⟨⟨by decide +kernel, by decide +kernel⟩, List.mem_of_getElem? (i := 1437) (by decide +kernel), List.mem_of_getElem? (i := 1979) (by decide +kernel), List.mem_of_getElem? (i := 1980) (by decide +kernel)⟩
theorem lw_p113 : lw_okq (⟨"ShapeReaderModel", "writes", "(I)V"⟩, 95) := ⟨⟨by decide +kernel, by decide +kernel⟩, List.mem_of_getElem? (i := 1437) (by decide +kernel), List.mem_of_getElem? (i := 1983) (by decide +kernel), List.mem_of_getElem? (i := 1984) (by decide +kernel)⟩
theorem lw_p114 : lw_okq (⟨"ShapeReaderModel", "writesNumber", "(J)V"⟩, 95) := ⟨⟨by decide +kernel, by decide +kernel⟩, List.mem_of_getElem? (i := 1437) (by decide +kernel), List.mem_of_getElem? (i := 1987) (by decide +kernel), List.mem_of_getElem? (i := 1988) (by decide +kernel)⟩
theorem lw_p115 : lw_okq (⟨"ShapeReaderModel", "writesByte", "(J)V"⟩, 95) := ⟨⟨by decide +kernel, by decide +kernel⟩, List.mem_of_getElem? (i := 1437) (by decide +kernel), List.mem_of_getElem? (i := 1994) (by decide +kernel), List.mem_of_getElem? (i := 1995) (by decide +kernel)⟩
theorem lw_p116 : lw_okq (⟨"ShapeReaderModel", "writesText", "(I)V"⟩, 95) := ⟨⟨by decide +kernel, by decide +kernel⟩, List.mem_of_getElem? (i := 1437) (by decide +kernel), List.mem_of_getElem? (i := 1999) (by decide +kernel), List.mem_of_getElem? (i := 2000) (by decide +kernel)⟩
theorem lw_p117 : lw_okq (⟨"ShapeReaderModel", "becomes", "(II)V"⟩, 95) := ⟨⟨by decide +kernel, by decide +kernel⟩, List.mem_of_getElem? (i := 1437) (by decide +kernel), List.mem_of_getElem? (i := 2003) (by decide +kernel), List.mem_of_getElem? (i := 2004) (by decide +kernel)⟩
theorem lw_p118 : lw_okq (⟨"ShapeReaderModel", "isMessage", "(I)Z"⟩, 95) := ⟨⟨by decide +kernel, by decide +kernel⟩, List.mem_of_getElem? (i := 1437) (by decide +kernel), List.mem_of_getElem? (i := 2011) (by decide +kernel), List.mem_of_getElem? (i := 2012) (by decide +kernel)⟩
theorem lw_p119 : lw_okq (⟨"ShapeReaderModel", "isByte", "(II)Z"⟩, 95) := ⟨⟨by decide +kernel, by decide +kernel⟩, List.mem_of_getElem? (i := 1437) (by decide +kernel), List.mem_of_getElem? (i := 2019) (by decide +kernel), List.mem_of_getElem? (i := 2020) (by decide +kernel)⟩
theorem lw_p120 : lw_okq (⟨"ShapeReaderModel", "verdict", "(II)I"⟩, 95) := ⟨⟨by decide +kernel, by decide +kernel⟩, List.mem_of_getElem? (i := 1437) (by decide +kernel), List.mem_of_getElem? (i := 2035) (by decide +kernel), List.mem_of_getElem? (i := 2036) (by decide +kernel)⟩
theorem lw_p121 : lw_okq (⟨"ShapeReaderModel", "laysMisses", "(II)V"⟩, 95) := ⟨⟨by decide +kernel, by decide +kernel⟩, List.mem_of_getElem? (i := 1437) (by decide +kernel), List.mem_of_getElem? (i := 2039) (by decide +kernel), List.mem_of_getElem? (i := 2040) (by decide +kernel)⟩
theorem lw_p122 : lw_okq (⟨"ShapeReaderModel", "laysPairs", "(II)V"⟩, 95) := ⟨⟨by decide +kernel, by decide +kernel⟩, List.mem_of_getElem? (i := 1437) (by decide +kernel), List.mem_of_getElem? (i := 2043) (by decide +kernel), List.mem_of_getElem? (i := 2044) (by decide +kernel)⟩
theorem lw_p123 : lw_okq (⟨"ShapeReaderModel", "holds", "(II)Z"⟩, 95) := ⟨⟨by decide +kernel, by decide +kernel⟩, List.mem_of_getElem? (i := 1437) (by decide +kernel), List.mem_of_getElem? (i := 2047) (by decide +kernel), List.mem_of_getElem? (i := 2048) (by decide +kernel)⟩
theorem lw_p124 : lw_okq (⟨"ShapeReaderModel", "namesMay", "(II)Z"⟩, 95) := ⟨⟨by decide +kernel, by decide +kernel⟩, List.mem_of_getElem? (i := 1437) (by decide +kernel), List.mem_of_getElem? (i := 2051) (by decide +kernel), List.mem_of_getElem? (i := 2052) (by decide +kernel)⟩
theorem lw_p125 : lw_okq (⟨"ShapeReaderModel", "fieldFor", "(II)I"⟩, 95) := ⟨⟨by decide +kernel, by decide +kernel⟩, List.mem_of_getElem? (i := 1437) (by decide +kernel), List.mem_of_getElem? (i := 2055) (by decide +kernel), List.mem_of_getElem? (i := 2056) (by decide +kernel)⟩
theorem lw_p126 : lw_okq (⟨"ShapeReaderModel", "match", "(II)Z"⟩, 95) := ⟨⟨by decide +kernel, by decide +kernel⟩, List.mem_of_getElem? (i := 1437) (by decide +kernel), List.mem_of_getElem? (i := 2059) (by decide +kernel), List.mem_of_getElem? (i := 2060) (by decide +kernel)⟩
theorem lw_p127 : lw_okq (⟨"ShapeReaderModel", "chosen", "(II)I"⟩, 95) := ⟨⟨by decide +kernel, by decide +kernel⟩, List.mem_of_getElem? (i := 1437) (by decide +kernel), List.mem_of_getElem? (i := 2063) (by decide +kernel), List.mem_of_getElem? (i := 2064) (by decide +kernel)⟩
def lw_privs_8 : List (MethodName × Nat) := [(⟨"ShapeReaderModel", "writesTree", "(I)V"⟩, 95), (⟨"ShapeReaderModel", "writes", "(I)V"⟩, 95), (⟨"ShapeReaderModel", "writesNumber", "(J)V"⟩, 95), (⟨"ShapeReaderModel", "writesByte", "(J)V"⟩, 95), (⟨"ShapeReaderModel", "writesText", "(I)V"⟩, 95), (⟨"ShapeReaderModel", "becomes", "(II)V"⟩, 95), (⟨"ShapeReaderModel", "isMessage", "(I)Z"⟩, 95), (⟨"ShapeReaderModel", "isByte", "(II)Z"⟩, 95), (⟨"ShapeReaderModel", "verdict", "(II)I"⟩, 95), (⟨"ShapeReaderModel", "laysMisses", "(II)V"⟩, 95), (⟨"ShapeReaderModel", "laysPairs", "(II)V"⟩, 95), (⟨"ShapeReaderModel", "holds", "(II)Z"⟩, 95), (⟨"ShapeReaderModel", "namesMay", "(II)Z"⟩, 95), (⟨"ShapeReaderModel", "fieldFor", "(II)I"⟩, 95), (⟨"ShapeReaderModel", "match", "(II)Z"⟩, 95), (⟨"ShapeReaderModel", "chosen", "(II)I"⟩, 95)]
theorem lw_r8 : ∀ q ∈ lw_privs_8, lw_okq q := List.forall_mem_cons.mpr ⟨lw_p112, List.forall_mem_cons.mpr ⟨lw_p113, List.forall_mem_cons.mpr ⟨lw_p114, List.forall_mem_cons.mpr ⟨lw_p115, List.forall_mem_cons.mpr ⟨lw_p116, List.forall_mem_cons.mpr ⟨lw_p117, List.forall_mem_cons.mpr ⟨lw_p118, List.forall_mem_cons.mpr ⟨lw_p119, List.forall_mem_cons.mpr ⟨lw_p120, List.forall_mem_cons.mpr ⟨lw_p121, List.forall_mem_cons.mpr ⟨lw_p122, List.forall_mem_cons.mpr ⟨lw_p123, List.forall_mem_cons.mpr ⟨lw_p124, List.forall_mem_cons.mpr ⟨lw_p125, List.forall_mem_cons.mpr ⟨lw_p126, List.forall_mem_cons.mpr ⟨lw_p127, fun _ h => absurd h List.not_mem_nil⟩⟩⟩⟩⟩⟩⟩⟩⟩⟩⟩⟩⟩⟩⟩⟩
theorem lw_p128 : lw_okq (⟨"ShapeReaderModel", "looksAtRecords", "(II)V"⟩, 95) := ⟨⟨by decide +kernel, by decide +kernel⟩, List.mem_of_getElem? (i := 1437) (by decide +kernel), List.mem_of_getElem? (i := 2067) (by decide +kernel), List.mem_of_getElem? (i := 2068) (by decide +kernel)⟩
theorem lw_p129 : lw_okq (⟨"ShapeReaderModel", "enters", "(I)V"⟩, 95) := ⟨⟨by decide +kernel, by decide +kernel⟩, List.mem_of_getElem? (i := 1437) (by decide +kernel), List.mem_of_getElem? (i := 2071) (by decide +kernel), List.mem_of_getElem? (i := 2072) (by decide +kernel)⟩
theorem lw_p130 : lw_okq (⟨"ShapeReaderModel", "looksAt", "(II)V"⟩, 95) := ⟨⟨by decide +kernel, by decide +kernel⟩, List.mem_of_getElem? (i := 1437) (by decide +kernel), List.mem_of_getElem? (i := 2075) (by decide +kernel), List.mem_of_getElem? (i := 2076) (by decide +kernel)⟩
theorem lw_p131 : lw_okq (⟨"ShapeReaderModel", "misses", "(I)V"⟩, 95) := ⟨⟨by decide +kernel, by decide +kernel⟩, List.mem_of_getElem? (i := 1437) (by decide +kernel), List.mem_of_getElem? (i := 2079) (by decide +kernel), List.mem_of_getElem? (i := 2080) (by decide +kernel)⟩
theorem lw_p132 : lw_okq (⟨"ShapeReaderModel", "readsFor", "(II)I"⟩, 95) := ⟨⟨by decide +kernel, by decide +kernel⟩, List.mem_of_getElem? (i := 1437) (by decide +kernel), List.mem_of_getElem? (i := 2099) (by decide +kernel), List.mem_of_getElem? (i := 2100) (by decide +kernel)⟩
theorem lw_p133 : lw_okq (⟨"ShapeReaderModel", "uses", "(I)V"⟩, 95) := ⟨⟨by decide +kernel, by decide +kernel⟩, List.mem_of_getElem? (i := 1437) (by decide +kernel), List.mem_of_getElem? (i := 2103) (by decide +kernel), List.mem_of_getElem? (i := 2104) (by decide +kernel)⟩
theorem lw_p134 : lw_okq (⟨"ShapeReaderModel", "readsAll", "(II)I"⟩, 95) := ⟨⟨by decide +kernel, by decide +kernel⟩, List.mem_of_getElem? (i := 1437) (by decide +kernel), List.mem_of_getElem? (i := 2107) (by decide +kernel), List.mem_of_getElem? (i := 2108) (by decide +kernel)⟩
theorem lw_p135 : lw_okq (⟨"ShapeReaderModel", "reads", "(IIIII)Z"⟩, 95) := ⟨⟨by decide +kernel, by decide +kernel⟩, List.mem_of_getElem? (i := 1437) (by decide +kernel), List.mem_of_getElem? (i := 2111) (by decide +kernel), List.mem_of_getElem? (i := 2112) (by decide +kernel)⟩
theorem lw_p136 : lw_okq (⟨"ShapeReaderModel", "fails", "(II)Z"⟩, 95) := ⟨⟨by decide +kernel, by decide +kernel⟩, List.mem_of_getElem? (i := 1437) (by decide +kernel), List.mem_of_getElem? (i := 2115) (by decide +kernel), List.mem_of_getElem? (i := 2116) (by decide +kernel)⟩
theorem lw_p137 : lw_okq (⟨"ShapeReaderModel", "readsInt", "(IJJ)Z"⟩, 95) := ⟨⟨by decide +kernel, by decide +kernel⟩, List.mem_of_getElem? (i := 1437) (by decide +kernel), List.mem_of_getElem? (i := 2119) (by decide +kernel), List.mem_of_getElem? (i := 2120) (by decide +kernel)⟩
theorem lw_p138 : lw_okq (⟨"ShapeReaderModel", "readsNumber", "(I)Z"⟩, 95) := ⟨⟨by decide +kernel, by decide +kernel⟩, List.mem_of_getElem? (i := 1437) (by decide +kernel), List.mem_of_getElem? (i := 2123) (by decide +kernel), List.mem_of_getElem? (i := 2124) (by decide +kernel)⟩
theorem lw_p139 : lw_okq (⟨"ShapeReaderModel", "nextByte", "()I"⟩, 95) := ⟨⟨by decide +kernel, by decide +kernel⟩, List.mem_of_getElem? (i := 1437) (by decide +kernel), List.mem_of_getElem? (i := 2127) (by decide +kernel), List.mem_of_getElem? (i := 2128) (by decide +kernel)⟩
theorem lw_p140 : lw_okq (⟨"ShapeReaderModel", "readsItems", "(IIII)Z"⟩, 95) := ⟨⟨by decide +kernel, by decide +kernel⟩, List.mem_of_getElem? (i := 1437) (by decide +kernel), List.mem_of_getElem? (i := 2131) (by decide +kernel), List.mem_of_getElem? (i := 2132) (by decide +kernel)⟩
theorem lw_p141 : lw_okq (⟨"ShapeReaderModel", "readsRecord", "(IIII)Z"⟩, 95) := ⟨⟨by decide +kernel, by decide +kernel⟩, List.mem_of_getElem? (i := 1437) (by decide +kernel), List.mem_of_getElem? (i := 2136) (by decide +kernel), List.mem_of_getElem? (i := 2137) (by decide +kernel)⟩
theorem lw_p142 : lw_okq (⟨"ShapeReaderModel", "readsLeaf", "(III)Z"⟩, 95) := ⟨⟨by decide +kernel, by decide +kernel⟩, List.mem_of_getElem? (i := 1437) (by decide +kernel), List.mem_of_getElem? (i := 2140) (by decide +kernel), List.mem_of_getElem? (i := 2141) (by decide +kernel)⟩
theorem lw_p143 : lw_okq (⟨"ShapeReaderModel", "readsFlag", "(I)Z"⟩, 95) := ⟨⟨by decide +kernel, by decide +kernel⟩, List.mem_of_getElem? (i := 1437) (by decide +kernel), List.mem_of_getElem? (i := 2144) (by decide +kernel), List.mem_of_getElem? (i := 2145) (by decide +kernel)⟩
def lw_privs_9 : List (MethodName × Nat) := [(⟨"ShapeReaderModel", "looksAtRecords", "(II)V"⟩, 95), (⟨"ShapeReaderModel", "enters", "(I)V"⟩, 95), (⟨"ShapeReaderModel", "looksAt", "(II)V"⟩, 95), (⟨"ShapeReaderModel", "misses", "(I)V"⟩, 95), (⟨"ShapeReaderModel", "readsFor", "(II)I"⟩, 95), (⟨"ShapeReaderModel", "uses", "(I)V"⟩, 95), (⟨"ShapeReaderModel", "readsAll", "(II)I"⟩, 95), (⟨"ShapeReaderModel", "reads", "(IIIII)Z"⟩, 95), (⟨"ShapeReaderModel", "fails", "(II)Z"⟩, 95), (⟨"ShapeReaderModel", "readsInt", "(IJJ)Z"⟩, 95), (⟨"ShapeReaderModel", "readsNumber", "(I)Z"⟩, 95), (⟨"ShapeReaderModel", "nextByte", "()I"⟩, 95), (⟨"ShapeReaderModel", "readsItems", "(IIII)Z"⟩, 95), (⟨"ShapeReaderModel", "readsRecord", "(IIII)Z"⟩, 95), (⟨"ShapeReaderModel", "readsLeaf", "(III)Z"⟩, 95), (⟨"ShapeReaderModel", "readsFlag", "(I)Z"⟩, 95)]
theorem lw_r9 : ∀ q ∈ lw_privs_9, lw_okq q := List.forall_mem_cons.mpr ⟨lw_p128, List.forall_mem_cons.mpr ⟨lw_p129, List.forall_mem_cons.mpr ⟨lw_p130, List.forall_mem_cons.mpr ⟨lw_p131, List.forall_mem_cons.mpr ⟨lw_p132, List.forall_mem_cons.mpr ⟨lw_p133, List.forall_mem_cons.mpr ⟨lw_p134, List.forall_mem_cons.mpr ⟨lw_p135, List.forall_mem_cons.mpr ⟨lw_p136, List.forall_mem_cons.mpr ⟨lw_p137, List.forall_mem_cons.mpr ⟨lw_p138, List.forall_mem_cons.mpr ⟨lw_p139, List.forall_mem_cons.mpr ⟨lw_p140, List.forall_mem_cons.mpr ⟨lw_p141, List.forall_mem_cons.mpr ⟨lw_p142, List.forall_mem_cons.mpr ⟨lw_p143, fun _ h => absurd h List.not_mem_nil⟩⟩⟩⟩⟩⟩⟩⟩⟩⟩⟩⟩⟩⟩⟩⟩
theorem lw_p144 : lw_okq (⟨"ShapeReaderModel", "readsReal", "()Z"⟩, 95) := ⟨⟨by decide +kernel, by decide +kernel⟩, List.mem_of_getElem? (i := 1437) (by decide +kernel), List.mem_of_getElem? (i := 2148) (by decide +kernel), List.mem_of_getElem? (i := 2149) (by decide +kernel)⟩
theorem lw_p145 : lw_okq (⟨"ShapeReaderModel", "readsText", "(I)Z"⟩, 95) := ⟨⟨by decide +kernel, by decide +kernel⟩, List.mem_of_getElem? (i := 1437) (by decide +kernel), List.mem_of_getElem? (i := 2152) (by decide +kernel), List.mem_of_getElem? (i := 2153) (by decide +kernel)⟩
theorem lw_p146 : lw_okq (⟨"ShapeReaderModel", "tells", "(II)V"⟩, 95) := ⟨⟨by decide +kernel, by decide +kernel⟩, List.mem_of_getElem? (i := 1437) (by decide +kernel), List.mem_of_getElem? (i := 2160) (by decide +kernel), List.mem_of_getElem? (i := 2161) (by decide +kernel)⟩
theorem lw_p147 : lw_okq (⟨"ShapeReaderModel", "orders", "(I)V"⟩, 95) := ⟨⟨by decide +kernel, by decide +kernel⟩, List.mem_of_getElem? (i := 1437) (by decide +kernel), List.mem_of_getElem? (i := 2193) (by decide +kernel), List.mem_of_getElem? (i := 2194) (by decide +kernel)⟩
theorem lw_p148 : lw_okq (⟨"ShapeReaderModel", "messageSet", "()I"⟩, 95) := ⟨⟨by decide +kernel, by decide +kernel⟩, List.mem_of_getElem? (i := 1437) (by decide +kernel), List.mem_of_getElem? (i := 2205) (by decide +kernel), List.mem_of_getElem? (i := 2206) (by decide +kernel)⟩
def lw_privs_10 : List (MethodName × Nat) := [(⟨"ShapeReaderModel", "readsReal", "()Z"⟩, 95), (⟨"ShapeReaderModel", "readsText", "(I)Z"⟩, 95), (⟨"ShapeReaderModel", "tells", "(II)V"⟩, 95), (⟨"ShapeReaderModel", "orders", "(I)V"⟩, 95), (⟨"ShapeReaderModel", "messageSet", "()I"⟩, 95)]
theorem lw_r10 : ∀ q ∈ lw_privs_10, lw_okq q := List.forall_mem_cons.mpr ⟨lw_p144, List.forall_mem_cons.mpr ⟨lw_p145, List.forall_mem_cons.mpr ⟨lw_p146, List.forall_mem_cons.mpr ⟨lw_p147, List.forall_mem_cons.mpr ⟨lw_p148, fun _ h => absurd h List.not_mem_nil⟩⟩⟩⟩⟩
def lw_privs : List (MethodName × Nat) := lw_privs_1 ++ (lw_privs_2 ++ (lw_privs_3 ++ (lw_privs_4 ++ (lw_privs_5 ++ (lw_privs_6 ++ (lw_privs_7 ++ (lw_privs_8 ++ (lw_privs_9 ++ (lw_privs_10)))))))))
def lw_tbl : List Cond := k2_sels lw_privs ++ tables_1
theorem lw_privs_ok : ∀ q ∈ lw_privs, lw_okq q := by
  show ∀ q ∈ lw_privs_1 ++ (lw_privs_2 ++ (lw_privs_3 ++ (lw_privs_4 ++ (lw_privs_5 ++ (lw_privs_6 ++ (lw_privs_7 ++ (lw_privs_8 ++ (lw_privs_9 ++ (lw_privs_10))))))))), lw_okq q
  exact List.forall_mem_append.mpr ⟨lw_r1, List.forall_mem_append.mpr ⟨lw_r2, List.forall_mem_append.mpr ⟨lw_r3, List.forall_mem_append.mpr ⟨lw_r4, List.forall_mem_append.mpr ⟨lw_r5, List.forall_mem_append.mpr ⟨lw_r6, List.forall_mem_append.mpr ⟨lw_r7, List.forall_mem_append.mpr ⟨lw_r8, List.forall_mem_append.mpr ⟨lw_r9, lw_r10⟩⟩⟩⟩⟩⟩⟩⟩⟩
/-- the streams that the claim lets the run draw from -/
abbrev lw_cs : List Choice := [Jvm.Choice.named "NaN.bits", Jvm.Choice.named "NaN.copy"]
theorem lw_bits : nanBits ∈ lw_cs := by first | decide | exact List.mem_cons_self | simp [lw_cs, nanBits]
end
section
/-! ===== BEGIN words of one list among another's, by their places ===== -/
theorem goodIn_r {big : List Cond} (ws : List Cond) (ps : List Nat) (hp : ws = ps.filterMap (fun i => big[i]?)) (h : ws.all goodWord = true) : GoodIn big ws := by
  intro w hw
  have h1 := List.all_eq_true.mp h w hw
  rw [hp] at hw
  obtain ⟨i, -, hi⟩ := List.mem_filterMap.mp hw
  have hm : w ∈ big := by first | exact List.mem_of_getElem? hi | exact List.getElem?_mem hi
  exact ⟨hm, good_of_word h1⟩
theorem goodIn_app {big a b : List Cond} (ha : GoodIn big a) (hb : GoodIn big b) : GoodIn big (a ++ b) := fun w h => (List.mem_append.mp h).elim (ha w) (hb w)
theorem goodIn_ca {big a b : List Cond} {c : Cond} (ha : GoodIn big (c :: a)) (hb : GoodIn big b) : GoodIn big (c :: (a ++ b)) := fun w h => (List.mem_cons.mp h).elim (fun e => ha w (List.mem_cons.mpr (Or.inl e))) (fun h => (List.mem_append.mp h).elim (fun h => ha w (List.mem_cons.mpr (Or.inr h))) (hb w))
theorem goodIn_sub {big ws : List Cond} (hm : ∀ w ∈ ws, w ∈ big) (h : ws.all goodWord = true) : GoodIn big ws := fun w hw => ⟨hm w hw, good_of_word (List.all_eq_true.mp h w hw)⟩
/-! ===== END ===== -/

/-! ===== BEGIN exceptions that leave a method, and their catching by the caller (launches without stack traces) ===== -/
section VXA
/-! The laws vx_back, vx_callV, vx_callS, vx_callSW, vx_throw0, vx_throwS follow proofs of the library, with one case more: JvmDerived/Free/Laws.lean (Back.of_free), Shelf42/LK1.lean (callV, callS), Shelf/KitTraced.lean (throwNew0V, throwNewS). -/
/-- where a method has thrown q: the class by its name, the cell, what was written, the world -/
def vx_T (XC : String → State → State → Prop) (st : State) (q : Addr) (t : State) (mc ms : Nat) (free : Addr → Prop) : Prop :=
  ∃ (E : String) (ce : Cell) (L : List Loc), XC E st t ∧ t.heap[q]? = some ce ∧ ce.vm = .none ∧ st.vm.findClass E = some ce.cls ∧ st.WarmedH t.vm ∧ st.sameButNew ({ t with vm := st.vm } : State) L mc ms ∧ ∀ z ∈ L, free z.base
def vx_Q (Qc : Array Value → State → Outcome → State → Prop) (XC : String → State → State → Prop) (mc ms : Nat) (free : Addr → Prop) : Array Value → State → Outcome → State → Prop := fun a st o t =>
  (Qc a st o t ∧ ∃ L, FrameEnd st o t L mc ms ∧ ∀ q ∈ L, free q.base) ∨ ∃ q, o = .threw q ∧ vx_T XC st q t mc ms free
/-- a callee that returns or throws -/
def vx_Met (l : Launch) (y : MethodName) (ws : List Cond) (rm : Room) (Pc : Array Value → State → Prop) (Qc : Array Value → State → Outcome → State → Prop) (XC : String → State → State → Prop) (mc ms : Nat) (free : Addr → Prop) : Prop :=
  MetFree l y (headSpec ws rm) Pc (fun _ _ _ _ _ => True) (vx_Q Qc XC mc ms free)
def vx_Post (XC : String → State → State → Prop) (mc ms : Nat) (free : Addr → Prop) : Pt → Array Value → Addr → Pt → Prop := fun A a q B =>
  ∃ (g : JFrame) (mk : MethodId) (t : State) (L : List Loc) (E : String) (ce : Cell), B.U.heap = t.heap ∧ B.U.vm = t.vm ∧ XC E (A.U.calling g mk a) t ∧ t.heap[q]? = some ce ∧ ce.vm = .none ∧ A.U.vm.findClass E = some ce.cls ∧ B.locs = A.locs ++ L ∧ (∀ z ∈ L, free z.base) ∧ B.cells = A.cells + mc ∧ B.slots = A.slots + ms
def vx_Back (l : Launch) (R : Room) (p : Program) (e : Env) (below : List Frame) (s : State) (sargs : Array Value) (y : MethodName) (len W9 : Nat)
    (Pre : Pt → Array Value → Prop) (Post : Pt → Array Value → Option Value → Pt → Prop) (PostX : Pt → Array Value → Addr → Pt → Prop) : Prop :=
  ∀ (m : MethodId) (meth : Method) (c : Code) (A : Pt) (g : JFrame) (ig : Instr) (mk : MethodId) (a : Array Value),
    Stand p l e R s m sargs below meth c A.U A.locs A.cells A.slots → g.method = m → g.locals.size = c.maxLocals → decode c.code g.pc = .ok (ig, len) →
    2 * g.monitorRoom + (g.stack.map fun v => v.category).sum ≤ W9 → A.U.methodNamed? y = some mk → Pre A a →
    (∃ (v : Option Value) (B : Pt), Stand p l e R s m sargs below meth c B.U B.locs B.cells B.slots ∧ Post A a v B ∧
      Steps p.tables e below (doInvoke e (A.U.setTop g) [] mk a).1 (B.U.setTop { g with pc := g.pc + len, stack := v.toList ++ g.stack })) ∨
    (∃ (q : Addr) (B : Pt), Stand p l e R s m sargs below meth c B.U B.locs B.cells B.slots ∧ PostX A a q B ∧
      Steps p.tables e below (doInvoke e (A.U.setTop g) [] mk a).1 ((B.U.setTop g).pushFrame (.throwing q)))
section Payer
variable {l : Launch} {R : Room} {p : Program} {e : Env} {below : List Frame} {s : State} {sargs : Array Value} {y : MethodName} {len W9 : Nat}
theorem vx_back {ws : List Cond} {rm : Room} {Pc : Array Value → State → Prop} {Qc : Array Value → State → Outcome → State → Prop} {XC : String → State → State → Prop} {mc ms : Nat} {free : Addr → Prop} {bytes : ByteArray} {maxL : Nat} {ret : Option FieldType}
    (hM : vx_Met l y ws rm Pc Qc XC mc ms free) (hblind : FrameBlind Pc) (hrc : rm.cells = mc) (hrs : rm.slots = ms)
    (hframes : rm.frames + 1 ≤ R.frames) (hlocals : W9 + (maxL + 11) + rm.locals ≤ R.locals)
    (hws : ∀ w ∈ ws, ∀ a' U, s.WarmedH U.vm → w.before a' U = true) (hcode : Cond.code y bytes maxL ret ∈ ws) (hinit : ∀ a' U, s.WarmedH U.vm → (Cond.initialized y.cls).before a' U = true) :
    vx_Back l R p e below s sargs y len W9 (PreOf R mc ms Pc) (PostOf Qc mc ms free) (vx_Post XC mc ms free) := by
  intro m meth c A g ig mk a X hg hsize hdg hW hn hp
  have h1 : (headSpec ws rm).pre.before a A.U = true := atoms_intro fun w hw => hws w hw _ _ X.warmed
  have h2 : (Cond.code y bytes maxL ret).before a A.U = true := hws _ hcode _ _ X.warmed
  have h3 : (Cond.initialized y.cls).before a A.U = true := hinit _ _ X.warmed
  have h4 : A.cells + (headSpec ws rm).room.cells ≤ R.cells := by rw [show (headSpec ws rm).room.cells = mc from hrc]; exact hp.1
  have h5 : A.slots + (headSpec ws rm).room.slots ≤ R.slots := by rw [show (headSpec ws rm).room.slots = ms from hrs]; exact hp.2.1
  have hPc : Pc a (A.U.calling g mk a) := hblind _ _ _ _ hp.2.2
  obtain ⟨U, Ls, c0, s0⟩ := A
  dsimp only [Pt.U, Pt.locs, Pt.cells, Pt.slots] at h1 h2 h3 h4 h5 X hn hPc ⊢
  obtain ⟨methY, cY, hmY, hcY, -, hlY, -, -, -, -⟩ := Cond.code_spec hn h2
  obtain ⟨kY, hkY, -⟩ := className_of_methodNamed hn
  have hinitY : kY.init = .initialized := Cond.initialized_spec (findClass_of_methodNamed hn) hkY h3
  have h : At U g.method c below := by rw [hg]; exact X.here
  have hlocals9 : W9 + (maxL + 11) + (headSpec ws rm).room.locals ≤ R.locals := hlocals
  have happ : (headSpec ws rm).appliesLoose y e.platform (U.calling g mk a) = true :=
    Spec.appliesLoose_calling (g := g) h hdg hn hkY hinitY
      (X.room_calling (g := g) (R' := (headSpec ws rm).room) hsize hmY hcY hframes (by rw [hlY]; omega) h4 h5) h1
  obtain ⟨mid, hmid⟩ := h.above
  have hfr : (U.setTop g).frames = (.java g :: mid) ++ below := by rw [State.frames_setTop' g h.top, hmid]; rfl
  obtain ⟨o, s₂, hsteps, -, hend, hq⟩ := Steps.callFree hM p X.admits X.cas X.clock (acts := []) hfr happ hPc trivial
  have hq' : vx_Q Qc XC mc ms free a (U.calling g mk a) o s₂ := hq
  rw [State.frames_setTop' g h.top] at hend
  obtain ⟨g₀, hg0⟩ := Option.isSome_iff_exists.mp h.top
  obtain ⟨r, hr⟩ := State.topJava?_eq_some.mp hg0
  have hr' : (({ U with heap := s₂.heap, slotsUsed := s₂.slotsUsed } : State).setVm s₂.vm).frames = .java g₀ :: r := hr
  rcases hq' with ⟨hqc, L, hfe, hL⟩ | ⟨q, rfl, E, ce, L, hx, hce, hcv, hcl, hW₂, hsm, hL⟩
  · obtain ⟨⟨v, rfl⟩, hW₂, e2, q2, q3, q4, q5, q6⟩ := id hfe
    have e3 : s₂ = ({ (U.calling g mk a).setFrames s₂.frames with heap := s₂.heap, slotsUsed := s₂.slotsUsed } : State).setVm s₂.vm := by
      have : s₂ = ({ s₂ with vm := (U.calling g mk a).vm } : State).setVm s₂.vm := rfl
      rw [e2] at this
      exact this
    obtain ⟨c₂, i₂, len₂, hc₂, hd₂, hf₂⟩ := hend
    have hW' : U.WarmedH s₂.vm := hW₂
    have hcc : c₂ = c := by
      have h1 : s₂.code? g.method = U.code? g.method := by
        rw [State.code?_eq, State.code?_eq, hW'.alike.method?]
      exact Option.some.inj (hc₂.symm.trans (h1.trans h.code))
    subst hcc
    have hlen : len₂ = len := by rw [hdg] at hd₂; cases hd₂; rfl
    subst hlen
    have hs₂ : s₂ = (({ U with heap := s₂.heap, slotsUsed := s₂.slotsUsed } : State).setVm s₂.vm).setTop { g with pc := g.pc + len₂, stack := v.toList ++ g.stack } := by
      refine e3.trans ?_
      rw [hf₂, State.calling_eq h.top, State.setFrames_setFrames, State.setTop_of_frames _ hr', hr]
      rfl
    have hsame : U.sameButNew ({ U with heap := s₂.heap, slotsUsed := s₂.slotsUsed } : State) L mc ms := by
      refine ⟨?_, q2, q3, q4, q5, q6⟩
      obtain ⟨t, ht, -⟩ := State.frames_cons hr
      show ({ U with heap := s₂.heap, slotsUsed := s₂.slotsUsed } : State) = { U.setFrames U.frames with heap := s₂.heap, slotsUsed := s₂.slotsUsed }
      rw [State.setFrames_self ht]
    subst hg
    refine Or.inl ⟨v, ⟨(({ U with heap := s₂.heap, slotsUsed := s₂.slotsUsed } : State).setVm s₂.vm), Ls ++ L, c0 + mc, s0 + ms⟩,
      ⟨X.admits, X.cas, X.clock, X.frames, X.room, X.hears, X.method, X.code, (X.here.setHeapUsed s₂.heap s₂.slotsUsed).setVm hW'.alike, X.tail, State.WarmedH.trans X.warmed hW', X.limits, X.bytes, X.same.trans (hsame.setVm s.vm)⟩,
      ⟨g, mk, s₂, L, rfl, rfl, hqc, rfl, hL, rfl, rfl⟩, ?_⟩
    show Steps p.tables e below _ ((({ U with heap := s₂.heap, slotsUsed := s₂.slotsUsed } : State).setVm s₂.vm).setTop { g with pc := g.pc + len₂, stack := v.toList ++ g.stack })
    rw [← hs₂]
    exact hsteps
  · obtain ⟨e2, q2, q3, q4, q5, q6⟩ := id hsm
    have e3 : s₂ = ({ (U.calling g mk a).setFrames s₂.frames with heap := s₂.heap, slotsUsed := s₂.slotsUsed } : State).setVm s₂.vm := by
      have : s₂ = ({ s₂ with vm := (U.calling g mk a).vm } : State).setVm s₂.vm := rfl
      rw [e2] at this
      exact this
    have hf₂ : s₂.frames = .throwing q :: .java g :: U.frames.tail := hend
    have hW' : U.WarmedH s₂.vm := hW₂
    have hs₂ : s₂ = ((({ U with heap := s₂.heap, slotsUsed := s₂.slotsUsed } : State).setVm s₂.vm).setTop g).pushFrame (.throwing q) := by
      refine e3.trans ?_
      rw [hf₂, State.calling_eq h.top, State.setFrames_setFrames, State.pushFrame, State.frames_setTop _ hr', State.setTop_of_frames _ hr', State.setFrames_setFrames, hr]
      rfl
    have hsame : U.sameButNew ({ U with heap := s₂.heap, slotsUsed := s₂.slotsUsed } : State) L mc ms := by
      refine ⟨?_, q2, q3, q4, q5, q6⟩
      obtain ⟨t, ht, -⟩ := State.frames_cons hr
      show ({ U with heap := s₂.heap, slotsUsed := s₂.slotsUsed } : State) = { U.setFrames U.frames with heap := s₂.heap, slotsUsed := s₂.slotsUsed }
      rw [State.setFrames_self ht]
    subst hg
    refine Or.inr ⟨q, ⟨(({ U with heap := s₂.heap, slotsUsed := s₂.slotsUsed } : State).setVm s₂.vm), Ls ++ L, c0 + mc, s0 + ms⟩,
      ⟨X.admits, X.cas, X.clock, X.frames, X.room, X.hears, X.method, X.code, (X.here.setHeapUsed s₂.heap s₂.slotsUsed).setVm hW'.alike, X.tail, State.WarmedH.trans X.warmed hW', X.limits, X.bytes, X.same.trans (hsame.setVm s.vm)⟩,
      ⟨g, mk, s₂, L, E, ce, rfl, rfl, hx, hce, hcv, hcl, rfl, hL, rfl, rfl⟩, ?_⟩
    show Steps p.tables e below _ (((({ U with heap := s₂.heap, slotsUsed := s₂.slotsUsed } : State).setVm s₂.vm).setTop g).pushFrame (.throwing q))
    rw [← hs₂]
    exact hsteps
end Payer
section Calls
variable {p : Program} {l : Launch} {e : Env} {R : Room} {s : State} {m : MethodId} {args : Array Value} {below : List Frame} {meth : Method} {c : Code} {T : State} {locs : List Loc} {cells slots : Nat}
theorem vx_callV (X : Stand p l e R s m args below meth c T locs cells slots) (hexec : p.tables.exec = Jvm.exec) {own C : String} {index : Nat} {y : MethodName} {bytes : ByteArray} {maxL : Nat} {ret : Option FieldType}
    (hown : s.vm.findClass own = some m.cls) (hlink : (Cond.methodLink own index y).before args s = true) (hinst : (Cond.instanceMethod y).before args s = true) (hsel : (Cond.selects C y y).before args s = true)
    (hcode : (Cond.code y bytes maxL ret).before args s = true) (hy : y.cls ≠ "java/lang/invoke/MethodHandle" ∧ y.cls ≠ "java/lang/invoke/VarHandle")
    {W9 : Nat} {Pre : Pt → Array Value → Prop} {Post : Pt → Array Value → Option Value → Pt → Prop} {PostX : Pt → Array Value → Addr → Pt → Prop} (hK : vx_Back l R p e below s args y 3 W9 Pre Post PostX)
    {b : Addr} {cellB : Cell} (hcell : T.heap[b]? = some cellB) (hobj : cellB.vm.isStatics = false) (hcls : s.vm.findClass C = some cellB.cls)
    {g : JFrame} (hg : g.method = m) (hsize : g.locals.size = c.maxLocals) {argsL rest : List Value} (hlen : ∀ sig, parseMethodDescriptor y.desc = some sig → argsL.length = sig.parameters.length)
    (hstack : g.stack = argsL.reverse ++ .ref b :: rest) (hW : 2 * g.monitorRoom + (rest.map fun v => v.category).sum ≤ W9) (hdg : decode c.code g.pc = .ok (.invokevirtual index, 3))
    (hpre : ∀ vm₁, s.WarmedH vm₁ → Pre ⟨T.setVm vm₁, locs, cells, slots⟩ (Value.ref b :: argsL).toArray) :
    (∃ (v : Option Value) (vm₁ : Vm) (B : Pt), s.WarmedH vm₁ ∧ Stand p l e R s m args below meth c B.U B.locs B.cells B.slots ∧ Post ⟨T.setVm vm₁, locs, cells, slots⟩ (Value.ref b :: argsL).toArray v B ∧
      ∀ target, Steps p.tables e below (B.U.setTop { g with pc := g.pc + 3, stack := v.toList ++ rest }) target → Steps p.tables e below (T.setTop g) target) ∨
    (∃ (q : Addr) (vm₁ : Vm) (B : Pt), s.WarmedH vm₁ ∧ Stand p l e R s m args below meth c B.U B.locs B.cells B.slots ∧ PostX ⟨T.setVm vm₁, locs, cells, slots⟩ (Value.ref b :: argsL).toArray q B ∧
      Steps p.tables e below (T.setTop g) ((B.U.setTop { g with stack := rest }).pushFrame (.throwing q))) := by
  obtain ⟨mk, methM, hnamed, hmethM, hstM, habM⟩ := Cond.instanceMethod_spec hinst
  obtain ⟨methM', cM, hmethM', -, -, -, -, -, -, hsigM⟩ := Cond.code_spec hnamed hcode
  cases hmethM.symm.trans hmethM'
  obtain ⟨c2, r2, m2, q1, q2, q3, q4, kP, hkP, hkPi⟩ := Cond.selects_spec hsel
  cases hcls.symm.trans q1
  cases (State.methodFound?_of_named hnamed hy).symm.trans q2
  cases hnamed.symm.trans q3
  have hselP : selectMethod e.platform s.vm cellB.cls mk = .method mk := by rw [Launch.admits_selectMethod X.admits]; exact q4
  obtain ⟨vm₁, X₁, hstep₁⟩ := X.invokevirtual hexec hown hlink hnamed hmethM hstM hkP hkPi hy (a := b) (cell := cellB) hcell
    (fun z h => by rw [h] at hobj; cases hobj) hselP hmethM habM hkP hkPi (g := g) hg (argsL := argsL) (rest := rest) (hlen _ hsigM) hstack hdg
  rcases hK m meth c ⟨T.setVm vm₁, locs, cells, slots⟩ { g with stack := rest } (.invokevirtual index) mk (Value.ref b :: argsL).toArray X₁ hg hsize hdg hW (X₁.named hnamed) (hpre vm₁ X₁.warmed) with ⟨v, B, X', hpost, hsteps⟩ | ⟨q, B, X', hpost, hsteps⟩
  · exact Or.inl ⟨v, vm₁, B, X₁.warmed, X', hpost, fun target h => hstep₁ _ fun acts => by rw [doInvoke_state]; exact hsteps.trans h⟩
  · exact Or.inr ⟨q, vm₁, B, X₁.warmed, X', hpost, hstep₁ _ fun acts => by rw [doInvoke_state]; exact hsteps⟩
theorem vx_callS (X : Stand p l e R s m args below meth c T locs cells slots) (hexec : p.tables.exec = Jvm.exec) {own : String} {index : Nat} {y : MethodName} {bytes : ByteArray} {maxL : Nat} {ret : Option FieldType}
    (hown : s.vm.findClass own = some m.cls) (hlink : (Cond.methodLink own index y).before args s = true) (hstat : (Cond.static y).before args s = true) (hinit : (Cond.initialized y.cls).before args s = true)
    (hcode : (Cond.code y bytes maxL ret).before args s = true) (hy : y.cls ≠ "java/lang/invoke/MethodHandle" ∧ y.cls ≠ "java/lang/invoke/VarHandle")
    {W9 : Nat} {Pre : Pt → Array Value → Prop} {Post : Pt → Array Value → Option Value → Pt → Prop} {PostX : Pt → Array Value → Addr → Pt → Prop} (hK : vx_Back l R p e below s args y 3 W9 Pre Post PostX)
    {g : JFrame} (hg : g.method = m) (hsize : g.locals.size = c.maxLocals) {argsL rest : List Value} (hlen : ∀ sig, parseMethodDescriptor y.desc = some sig → argsL.length = sig.parameters.length)
    (hstack : g.stack = argsL.reverse ++ rest) (hW : 2 * g.monitorRoom + (rest.map fun v => v.category).sum ≤ W9) (hdg : decode c.code g.pc = .ok (.invokestatic index, 3))
    (hpre : ∀ vm₁, s.WarmedH vm₁ → Pre ⟨T.setVm vm₁, locs, cells, slots⟩ argsL.toArray) :
    (∃ (v : Option Value) (vm₁ : Vm) (B : Pt), s.WarmedH vm₁ ∧ Stand p l e R s m args below meth c B.U B.locs B.cells B.slots ∧ Post ⟨T.setVm vm₁, locs, cells, slots⟩ argsL.toArray v B ∧
      ∀ target, Steps p.tables e below (B.U.setTop { g with pc := g.pc + 3, stack := v.toList ++ rest }) target → Steps p.tables e below (T.setTop g) target) ∨
    (∃ (q : Addr) (vm₁ : Vm) (B : Pt), s.WarmedH vm₁ ∧ Stand p l e R s m args below meth c B.U B.locs B.cells B.slots ∧ PostX ⟨T.setVm vm₁, locs, cells, slots⟩ argsL.toArray q B ∧
      Steps p.tables e below (T.setTop g) ((B.U.setTop { g with stack := rest }).pushFrame (.throwing q))) := by
  obtain ⟨mk, hnamed⟩ := Cond.code_named hcode
  obtain ⟨methM, cM, hmethM, -, -, -, -, -, -, hsigM⟩ := Cond.code_spec hnamed hcode
  have hstatic : methM.isStatic = true := Cond.static_spec hnamed hmethM hstat
  obtain ⟨kP, hkP, -⟩ := className_of_methodNamed hnamed
  have hinitP : kP.init = .initialized := Cond.initialized_spec (findClass_of_methodNamed hnamed) hkP hinit
  obtain ⟨vm₁, X₁, hstep₁⟩ := X.invokestatic hexec hown hlink hnamed hmethM hstatic hkP hinitP hy (g := g) hg (argsL := argsL) (rest := rest) (hlen _ hsigM) hstack hdg
  rcases hK m meth c ⟨T.setVm vm₁, locs, cells, slots⟩ { g with stack := rest } (.invokestatic index) mk argsL.toArray X₁ hg hsize hdg hW (X₁.named hnamed) (hpre vm₁ X₁.warmed) with ⟨v, B, X', hpost, hsteps⟩ | ⟨q, B, X', hpost, hsteps⟩
  · exact Or.inl ⟨v, vm₁, B, X₁.warmed, X', hpost, fun target h => hstep₁ _ fun acts => by rw [doInvoke_state]; exact hsteps.trans h⟩
  · exact Or.inr ⟨q, vm₁, B, X₁.warmed, X', hpost, hstep₁ _ fun acts => by rw [doInvoke_state]; exact hsteps⟩
end Calls
theorem vx_cls {s : State} {T : State} {vm₁ : Vm} {E : String} {k : ClassId} (hW : s.WarmedH vm₁) (h : (T.setVm vm₁).vm.findClass E = some k) : s.vm.findClass E = some k := by
  have h1 : vm₁.findClass E = some k := h
  rw [hW.alike.findClass] at h1
  exact h1
/-- the method's frame g, with q thrown over it -/
def vx_W (p : Program) (l : Launch) (e : Env) (R : Room) (s : State) (m : MethodId) (args : Array Value) (below : List Frame) (meth : Method) (c : Code) (H : Heap) (locs : List Loc) (cells slots : Nat) (Q : State → Prop) (g : JFrame) (q : Addr) : Prop :=
  ∀ T : State, T.heap = H → Stand p l e R s m args below meth c T locs cells slots → ∃ t, Steps p.tables e below ((T.setTop g).pushFrame (.throwing q)) t ∧ Q t
def vx_Run (p : Program) (l : Launch) (e : Env) (R : Room) (s : State) (m : MethodId) (args : Array Value) (below : List Frame) (meth : Method) (c : Code) (H : Heap) (locs : List Loc) (cells slots mc ms : Nat) (g : JFrame) (rest : List Value) (Qa : State → Outcome → State → Prop) (XC : String → State → State → Prop) (free : Addr → Prop) : Prop :=
  ∀ T : State, T.heap = H → Stand p l e R s m args below meth c T locs cells slots →
    (∃ (v : Option Value) (st₀ t T' : State) (L : List Loc), st₀.heap = H ∧ Stand p l e R s m args below meth c T' (locs ++ L) (cells + mc) (slots + ms) ∧ (∀ q ∈ L, free q.base) ∧ T'.heap = t.heap ∧ T'.vm = t.vm ∧ Qa st₀ (.returned v) t ∧
      Goes p e below T g T' { g with pc := g.pc + 3, stack := v.toList ++ rest }) ∨
    (∃ (q : Addr) (st₀ t T' : State) (L : List Loc) (E : String) (ce : Cell), st₀.heap = H ∧ Stand p l e R s m args below meth c T' (locs ++ L) (cells + mc) (slots + ms) ∧ (∀ z ∈ L, free z.base) ∧ T'.heap = t.heap ∧ T'.vm = t.vm ∧ XC E st₀ t ∧ t.heap[q]? = some ce ∧ ce.vm = .none ∧ s.vm.findClass E = some ce.cls ∧
      Steps p.tables e below (T.setTop g) ((T'.setTop { g with stack := rest }).pushFrame (.throwing q)))
def vx_X {S : Type} (px : S → Prop) (B : String → S → State → Prop) (A : Nat → Prop) : String → State → State → Prop := fun E st t => ∃ u : S, px u ∧ B E u t ∧ va_F A st t
section Runs
variable {p : Program} {l : Launch} {e : Env} {R : Room} {s : State} {m : MethodId} {args : Array Value} {below : List Frame} {meth : Method} {c : Code} {H : Heap} {locs : List Loc} {cells slots : Nat}
variable {y : MethodName} {bytes cc : ByteArray} {maxL nL mc ms n index : Nat} {ret : Option FieldType} {ws : List Cond} {rm : Room} {Pc : Array Value → State → Prop} {Qc : Array Value → State → Outcome → State → Prop} {XC : String → State → State → Prop} {free : Addr → Prop} {Ts : List Cond} {own C : String} {b : Addr} {As rest : List Value} {g : JFrame}
theorem vx_callBack (cb : CallB R s args own index y bytes maxL ret ws rm mc ms n) (hM : vx_Met l y ws rm Pc Qc XC mc ms free) (hbl : FrameBlind Pc) : vx_Back l R p e below s args y 3 8 (PreOf R mc ms Pc) (PostOf Qc mc ms free) (vx_Post XC mc ms free) := by
  obtain ⟨hrc, hrs, hfr, hlo, hws, hcw, -, hini, -⟩ := cb
  exact vx_back (bytes := bytes) (maxL := maxL) (ret := ret) hM hbl hrc hrs hfr hlo hws hcw (fun a' U hW => word_at hW (Or.inl (by first | rfl | simp [Cond.onTables, Cond.keeps, Cond.steady])) hini)
theorem vx_runV (S : CallFix p m c cc nL s args Ts own) (hM : vx_Met l y ws rm Pc Qc XC mc ms free) (cw : CallW R s args own C index y bytes maxL ret ws rm mc ms n) (hp : PreV s H C b Pc As)
    (hg : g.method = m) (hn : As.length = n) (hsize : g.locals.size = nL) (hstack : g.stack = As.reverse ++ .ref b :: rest) (hW : 2 * g.monitorRoom + (rest.map fun v => v.category).sum ≤ 8) (hdg : decode cc g.pc = .ok (.invokevirtual index, 3)) (hf : cells + mc ≤ R.cells ∧ slots + ms ≤ R.slots) :
    vx_Run p l e R s m args below meth c H locs cells slots mc ms g rest (Qc (Value.ref b :: As).toArray) XC free := by
  have hK : vx_Back l R p e below s args y 3 8 (PreOf R mc ms Pc) (PostOf Qc mc ms free) (vx_Post XC mc ms free) := vx_callBack cw.1 hM hp.1
  obtain ⟨⟨-, -, -, -, -, -, hcode, -, hy, hlen, hl⟩, hin, hse⟩ := cw
  obtain ⟨hx, hb, hml, ho, -⟩ := S
  obtain ⟨-, ⟨cellB, hcB, hoB, hclB⟩, hPc⟩ := hp
  intro T hT X
  rcases vx_callV X hx (C := C) (bytes := bytes) (maxL := maxL) (ret := ret) ho hl hin hse hcode hy hK (by rw [hT]; exact hcB) hoB hclB hg (hsize.trans hml.symm) (argsL := As) (rest := rest) (fun sig h => hn.trans (hlen sig h)) hstack hW (by rw [hb]; exact hdg)
    (fun vm₁ hW₁ => ⟨hf.1, hf.2, hPc (T.setVm vm₁) hT hW₁⟩) with ⟨v, vm₁, ⟨U', l2, c2, s2⟩, hW₁, X', ⟨g', mk, t, L, e1, e2, hq, h1, hL, h2, h3⟩, st⟩ | ⟨q, vm₁, ⟨U', l2, c2, s2⟩, hW₁, X', ⟨g', mk, t, L, E, ce, e1, e2, hq, hce, hcv, hcl, h1, hL, h2, h3⟩, st⟩
  · dsimp only [Pt.U, Pt.locs, Pt.cells, Pt.slots] at X' e1 e2 h1 h2 h3 st
    subst h1; subst h2; subst h3
    exact Or.inl ⟨v, (T.setVm vm₁).calling g' mk (Value.ref b :: As).toArray, t, U', L, hT, X', hL, e1, e2, hq, st⟩
  · dsimp only [Pt.U, Pt.locs, Pt.cells, Pt.slots] at X' e1 e2 h1 h2 h3 st hcl
    subst h1; subst h2; subst h3
    exact Or.inr ⟨q, (T.setVm vm₁).calling g' mk (Value.ref b :: As).toArray, t, U', L, E, ce, hT, X', hL, e1, e2, hq, hce, hcv, vx_cls hW₁ hcl, st⟩
theorem vx_runS (S : CallFix p m c cc nL s args Ts own) (hM : vx_Met l y ws rm Pc Qc XC mc ms free) (cw : CallB R s args own index y bytes maxL ret ws rm mc ms n ∧ (Cond.static y).before args s = true) (hp : PreS s H Pc As)
    (hg : g.method = m) (hn : As.length = n) (hsize : g.locals.size = nL) (hstack : g.stack = As.reverse ++ rest) (hW : 2 * g.monitorRoom + (rest.map fun v => v.category).sum ≤ 8) (hdg : decode cc g.pc = .ok (.invokestatic index, 3)) (hf : cells + mc ≤ R.cells ∧ slots + ms ≤ R.slots) :
    vx_Run p l e R s m args below meth c H locs cells slots mc ms g rest (Qc As.toArray) XC free := by
  have hK : vx_Back l R p e below s args y 3 8 (PreOf R mc ms Pc) (PostOf Qc mc ms free) (vx_Post XC mc ms free) := vx_callBack cw.1 hM hp.1
  obtain ⟨⟨-, -, -, -, -, -, hcode, hini, hy, hlen, hl⟩, hstt⟩ := cw
  obtain ⟨hx, hb, hml, ho, -⟩ := S
  intro T hT X
  rcases vx_callS X hx (bytes := bytes) (maxL := maxL) (ret := ret) ho hl hstt hini hcode hy hK hg (hsize.trans hml.symm) (argsL := As) (rest := rest) (fun sig h => hn.trans (hlen sig h)) hstack hW (by rw [hb]; exact hdg)
    (fun vm₁ hW₁ => ⟨hf.1, hf.2, hp.2 (T.setVm vm₁) hT hW₁⟩) with ⟨v, vm₁, ⟨U', l2, c2, s2⟩, hW₁, X', ⟨g', mk, t, L, e1, e2, hq, h1, hL, h2, h3⟩, st⟩ | ⟨q, vm₁, ⟨U', l2, c2, s2⟩, hW₁, X', ⟨g', mk, t, L, E, ce, e1, e2, hq, hce, hcv, hcl, h1, hL, h2, h3⟩, st⟩
  · dsimp only [Pt.U, Pt.locs, Pt.cells, Pt.slots] at X' e1 e2 h1 h2 h3 st
    subst h1; subst h2; subst h3
    exact Or.inl ⟨v, (T.setVm vm₁).calling g' mk As.toArray, t, U', L, hT, X', hL, e1, e2, hq, st⟩
  · dsimp only [Pt.U, Pt.locs, Pt.cells, Pt.slots] at X' e1 e2 h1 h2 h3 st hcl
    subst h1; subst h2; subst h3
    exact Or.inr ⟨q, (T.setVm vm₁).calling g' mk As.toArray, t, U', L, E, ce, hT, X', hL, e1, e2, hq, hce, hcv, vx_cls hW₁ hcl, st⟩
end Runs
section Rows
variable {p : Program} {l : Launch} {e : Env} {R : Room} {s : State} {m : MethodId} {args : Array Value} {below : List Frame} {meth : Method} {c : Code} {H : Heap} {locs : List Loc} {cells slots : Nat} {Q : State → Prop}
variable {mc ms : Nat} {free : Addr → Prop} {A0 A1 : Nat → Prop} {H0 : Heap} {a : Array Value} {pc : Nat} {ls : Array Slot} {st0 rest : List Value}
theorem vx_keep {st₀ t T' : State} {L : List Loc} (h0 : st₀.heap = H) (e1 : T'.heap = t.heap) (hS : va_S A0 H0 H locs) (hA : ∀ q, q < H.size → A1 q → A0 q) (hf : ∀ q, free q → A0 q) (hL : ∀ q ∈ L, free q.base) (hF : va_F A1 st₀ t) :
    H.size ≤ T'.heap.size ∧ (∀ q : Nat, q < H.size → ¬ A1 q → T'.heap[q]? = H[q]?) ∧ va_S A0 H0 T'.heap (locs ++ L) := by
  obtain ⟨hz, hk⟩ := hF
  rw [h0] at hz hk
  exact ⟨by rw [e1]; exact hz, fun q h1 h2 => by rw [e1]; exact hk q h1 h2,
    ⟨Nat.le_trans hS.1 (by rw [e1]; exact hz), fun q h1 h2 => by rw [e1, hk q (Nat.lt_of_lt_of_le h1 hS.1) (fun z => h2 (hA q (Nat.lt_of_lt_of_le h1 hS.1) z))]; exact hS.2.1 q h1 h2, fun q hq => by
      rcases List.mem_append.mp hq with h | h
      · exact hS.2.2 q h
      · exact hf _ (hL q h)⟩⟩
theorem vx_calli {S SX : Type} {post : Int32 → S → Prop} {px : SX → Prop} {B : S → State → Prop} {BX : String → SX → State → Prop} {AX : Nat → Prop} (hr : vx_Run p l e R s m args below meth c H locs cells slots mc ms (F0 m pc ls st0) rest (va_Qi post B A1 a) (vx_X px BX AX) free) (hS : va_S A0 H0 H locs) (hA : ∀ q, q < H.size → A1 q → A0 q) (hf : ∀ q, free q → A0 q) (hAX : ∀ q, q < H.size → AX q → A0 q)
    (kx : ∀ (E : String) (ce : Cell) (q9 : Addr) (u : SX) (t : State) (H1 : Heap) (locs1 : List Loc), t.heap = H1 → s.vm.Alike t.vm → px u → BX E u t → H.size ≤ H1.size → (∀ q : Nat, q < H.size → ¬ AX q → H1[q]? = H[q]?) → va_S A0 H0 H1 locs1 → H1[q9]? = some ce → ce.vm = .none → s.vm.findClass E = some ce.cls → vx_W p l e R s m args below meth c H1 locs1 (cells + mc) (slots + ms) Q (F0 m pc ls rest) q9)
    (kk : ∀ (r : Int32) (u : S) (t : State) (H1 : Heap) (locs1 : List Loc), t.heap = H1 → s.vm.Alike t.vm → post r u → B u t → H.size ≤ H1.size → (∀ q : Nat, q < H.size → ¬ A1 q → H1[q]? = H[q]?) → va_S A0 H0 H1 locs1 → W p l e R s m args below meth c H1 locs1 (cells + mc) (slots + ms) Q (F0 m (pc + 3) ls (.int r :: rest))) : W p l e R s m args below meth c H locs cells slots Q (F0 m pc ls st0) := by
  intro T hT X
  rcases hr T hT X with ⟨v, st₀, t, T', L, h0, X', hL, e1, e2, ⟨⟨r, u, hv, hp, hb⟩, hF⟩, st⟩ | ⟨q, st₀, t, T', L, E, ce, h0, X', hL, e1, e2, ⟨u, hp, hb, hF⟩, hce, hcv, hcl, st⟩
  · cases hv
    obtain ⟨k1, k2, k3⟩ := vx_keep h0 e1 hS hA hf hL hF
    obtain ⟨t2, a1, b1⟩ := kk r u t T'.heap (locs ++ L) e1.symm (by rw [← e2]; exact X'.warmed.alike) hp hb k1 k2 k3 T' rfl X'
    exact ⟨t2, st t2 a1, b1⟩
  · obtain ⟨k1, k2, k3⟩ := vx_keep h0 e1 hS hAX hf hL hF
    obtain ⟨t2, a1, b1⟩ := kx E ce q u t T'.heap (locs ++ L) e1.symm (by rw [← e2]; exact X'.warmed.alike) hp hb k1 k2 k3 (by rw [e1]; exact hce) hcv hcl T' rfl X'
    exact ⟨t2, st.trans a1, b1⟩
theorem vx_calll {S SX : Type} {post : Int64 → S → Prop} {px : SX → Prop} {B : S → State → Prop} {BX : String → SX → State → Prop} {AX : Nat → Prop} (hr : vx_Run p l e R s m args below meth c H locs cells slots mc ms (F0 m pc ls st0) rest (va_Ql post B A1 a) (vx_X px BX AX) free) (hS : va_S A0 H0 H locs) (hA : ∀ q, q < H.size → A1 q → A0 q) (hf : ∀ q, free q → A0 q) (hAX : ∀ q, q < H.size → AX q → A0 q)
    (kx : ∀ (E : String) (ce : Cell) (q9 : Addr) (u : SX) (t : State) (H1 : Heap) (locs1 : List Loc), t.heap = H1 → s.vm.Alike t.vm → px u → BX E u t → H.size ≤ H1.size → (∀ q : Nat, q < H.size → ¬ AX q → H1[q]? = H[q]?) → va_S A0 H0 H1 locs1 → H1[q9]? = some ce → ce.vm = .none → s.vm.findClass E = some ce.cls → vx_W p l e R s m args below meth c H1 locs1 (cells + mc) (slots + ms) Q (F0 m pc ls rest) q9)
    (kk : ∀ (r : Int64) (u : S) (t : State) (H1 : Heap) (locs1 : List Loc), t.heap = H1 → s.vm.Alike t.vm → post r u → B u t → H.size ≤ H1.size → (∀ q : Nat, q < H.size → ¬ A1 q → H1[q]? = H[q]?) → va_S A0 H0 H1 locs1 → W p l e R s m args below meth c H1 locs1 (cells + mc) (slots + ms) Q (F0 m (pc + 3) ls (.long r :: rest))) : W p l e R s m args below meth c H locs cells slots Q (F0 m pc ls st0) := by
  intro T hT X
  rcases hr T hT X with ⟨v, st₀, t, T', L, h0, X', hL, e1, e2, ⟨⟨r, u, hv, hp, hb⟩, hF⟩, st⟩ | ⟨q, st₀, t, T', L, E, ce, h0, X', hL, e1, e2, ⟨u, hp, hb, hF⟩, hce, hcv, hcl, st⟩
  · cases hv
    obtain ⟨k1, k2, k3⟩ := vx_keep h0 e1 hS hA hf hL hF
    obtain ⟨t2, a1, b1⟩ := kk r u t T'.heap (locs ++ L) e1.symm (by rw [← e2]; exact X'.warmed.alike) hp hb k1 k2 k3 T' rfl X'
    exact ⟨t2, st t2 a1, b1⟩
  · obtain ⟨k1, k2, k3⟩ := vx_keep h0 e1 hS hAX hf hL hF
    obtain ⟨t2, a1, b1⟩ := kx E ce q u t T'.heap (locs ++ L) e1.symm (by rw [← e2]; exact X'.warmed.alike) hp hb k1 k2 k3 (by rw [e1]; exact hce) hcv hcl T' rfl X'
    exact ⟨t2, st.trans a1, b1⟩
theorem vx_callf {S SX : Type} {post : UInt32 → S → Prop} {px : SX → Prop} {B : S → State → Prop} {BX : String → SX → State → Prop} {AX : Nat → Prop} (hr : vx_Run p l e R s m args below meth c H locs cells slots mc ms (F0 m pc ls st0) rest (va_Qf post B A1 a) (vx_X px BX AX) free) (hS : va_S A0 H0 H locs) (hA : ∀ q, q < H.size → A1 q → A0 q) (hf : ∀ q, free q → A0 q) (hAX : ∀ q, q < H.size → AX q → A0 q)
    (kx : ∀ (E : String) (ce : Cell) (q9 : Addr) (u : SX) (t : State) (H1 : Heap) (locs1 : List Loc), t.heap = H1 → s.vm.Alike t.vm → px u → BX E u t → H.size ≤ H1.size → (∀ q : Nat, q < H.size → ¬ AX q → H1[q]? = H[q]?) → va_S A0 H0 H1 locs1 → H1[q9]? = some ce → ce.vm = .none → s.vm.findClass E = some ce.cls → vx_W p l e R s m args below meth c H1 locs1 (cells + mc) (slots + ms) Q (F0 m pc ls rest) q9)
    (kk : ∀ (r : UInt32) (u : S) (t : State) (H1 : Heap) (locs1 : List Loc), t.heap = H1 → s.vm.Alike t.vm → post r u → B u t → H.size ≤ H1.size → (∀ q : Nat, q < H.size → ¬ A1 q → H1[q]? = H[q]?) → va_S A0 H0 H1 locs1 → W p l e R s m args below meth c H1 locs1 (cells + mc) (slots + ms) Q (F0 m (pc + 3) ls (.float r :: rest))) : W p l e R s m args below meth c H locs cells slots Q (F0 m pc ls st0) := by
  intro T hT X
  rcases hr T hT X with ⟨v, st₀, t, T', L, h0, X', hL, e1, e2, ⟨⟨r, u, hv, hp, hb⟩, hF⟩, st⟩ | ⟨q, st₀, t, T', L, E, ce, h0, X', hL, e1, e2, ⟨u, hp, hb, hF⟩, hce, hcv, hcl, st⟩
  · cases hv
    obtain ⟨k1, k2, k3⟩ := vx_keep h0 e1 hS hA hf hL hF
    obtain ⟨t2, a1, b1⟩ := kk r u t T'.heap (locs ++ L) e1.symm (by rw [← e2]; exact X'.warmed.alike) hp hb k1 k2 k3 T' rfl X'
    exact ⟨t2, st t2 a1, b1⟩
  · obtain ⟨k1, k2, k3⟩ := vx_keep h0 e1 hS hAX hf hL hF
    obtain ⟨t2, a1, b1⟩ := kx E ce q u t T'.heap (locs ++ L) e1.symm (by rw [← e2]; exact X'.warmed.alike) hp hb k1 k2 k3 (by rw [e1]; exact hce) hcv hcl T' rfl X'
    exact ⟨t2, st.trans a1, b1⟩
theorem vx_calld {S SX : Type} {post : UInt64 → S → Prop} {px : SX → Prop} {B : S → State → Prop} {BX : String → SX → State → Prop} {AX : Nat → Prop} (hr : vx_Run p l e R s m args below meth c H locs cells slots mc ms (F0 m pc ls st0) rest (va_Qd post B A1 a) (vx_X px BX AX) free) (hS : va_S A0 H0 H locs) (hA : ∀ q, q < H.size → A1 q → A0 q) (hf : ∀ q, free q → A0 q) (hAX : ∀ q, q < H.size → AX q → A0 q)
    (kx : ∀ (E : String) (ce : Cell) (q9 : Addr) (u : SX) (t : State) (H1 : Heap) (locs1 : List Loc), t.heap = H1 → s.vm.Alike t.vm → px u → BX E u t → H.size ≤ H1.size → (∀ q : Nat, q < H.size → ¬ AX q → H1[q]? = H[q]?) → va_S A0 H0 H1 locs1 → H1[q9]? = some ce → ce.vm = .none → s.vm.findClass E = some ce.cls → vx_W p l e R s m args below meth c H1 locs1 (cells + mc) (slots + ms) Q (F0 m pc ls rest) q9)
    (kk : ∀ (r : UInt64) (u : S) (t : State) (H1 : Heap) (locs1 : List Loc), t.heap = H1 → s.vm.Alike t.vm → post r u → B u t → H.size ≤ H1.size → (∀ q : Nat, q < H.size → ¬ A1 q → H1[q]? = H[q]?) → va_S A0 H0 H1 locs1 → W p l e R s m args below meth c H1 locs1 (cells + mc) (slots + ms) Q (F0 m (pc + 3) ls (.double r :: rest))) : W p l e R s m args below meth c H locs cells slots Q (F0 m pc ls st0) := by
  intro T hT X
  rcases hr T hT X with ⟨v, st₀, t, T', L, h0, X', hL, e1, e2, ⟨⟨r, u, hv, hp, hb⟩, hF⟩, st⟩ | ⟨q, st₀, t, T', L, E, ce, h0, X', hL, e1, e2, ⟨u, hp, hb, hF⟩, hce, hcv, hcl, st⟩
  · cases hv
    obtain ⟨k1, k2, k3⟩ := vx_keep h0 e1 hS hA hf hL hF
    obtain ⟨t2, a1, b1⟩ := kk r u t T'.heap (locs ++ L) e1.symm (by rw [← e2]; exact X'.warmed.alike) hp hb k1 k2 k3 T' rfl X'
    exact ⟨t2, st t2 a1, b1⟩
  · obtain ⟨k1, k2, k3⟩ := vx_keep h0 e1 hS hAX hf hL hF
    obtain ⟨t2, a1, b1⟩ := kx E ce q u t T'.heap (locs ++ L) e1.symm (by rw [← e2]; exact X'.warmed.alike) hp hb k1 k2 k3 (by rw [e1]; exact hce) hcv hcl T' rfl X'
    exact ⟨t2, st.trans a1, b1⟩
theorem vx_callv {S SX : Type} {post : S → Prop} {px : SX → Prop} {B : S → State → Prop} {BX : String → SX → State → Prop} {AX : Nat → Prop} (hr : vx_Run p l e R s m args below meth c H locs cells slots mc ms (F0 m pc ls st0) rest (va_Qv post B A1 a) (vx_X px BX AX) free) (hS : va_S A0 H0 H locs) (hA : ∀ q, q < H.size → A1 q → A0 q) (hf : ∀ q, free q → A0 q) (hAX : ∀ q, q < H.size → AX q → A0 q)
    (kx : ∀ (E : String) (ce : Cell) (q9 : Addr) (u : SX) (t : State) (H1 : Heap) (locs1 : List Loc), t.heap = H1 → s.vm.Alike t.vm → px u → BX E u t → H.size ≤ H1.size → (∀ q : Nat, q < H.size → ¬ AX q → H1[q]? = H[q]?) → va_S A0 H0 H1 locs1 → H1[q9]? = some ce → ce.vm = .none → s.vm.findClass E = some ce.cls → vx_W p l e R s m args below meth c H1 locs1 (cells + mc) (slots + ms) Q (F0 m pc ls rest) q9)
    (kk : ∀ (u : S) (t : State) (H1 : Heap) (locs1 : List Loc), t.heap = H1 → s.vm.Alike t.vm → post u → B u t → H.size ≤ H1.size → (∀ q : Nat, q < H.size → ¬ A1 q → H1[q]? = H[q]?) → va_S A0 H0 H1 locs1 → W p l e R s m args below meth c H1 locs1 (cells + mc) (slots + ms) Q (F0 m (pc + 3) ls (rest))) : W p l e R s m args below meth c H locs cells slots Q (F0 m pc ls st0) := by
  intro T hT X
  rcases hr T hT X with ⟨v, st₀, t, T', L, h0, X', hL, e1, e2, ⟨⟨u, hv, hp, hb⟩, hF⟩, st⟩ | ⟨q, st₀, t, T', L, E, ce, h0, X', hL, e1, e2, ⟨u, hp, hb, hF⟩, hce, hcv, hcl, st⟩
  · cases hv
    obtain ⟨k1, k2, k3⟩ := vx_keep h0 e1 hS hA hf hL hF
    obtain ⟨t2, a1, b1⟩ := kk u t T'.heap (locs ++ L) e1.symm (by rw [← e2]; exact X'.warmed.alike) hp hb k1 k2 k3 T' rfl X'
    exact ⟨t2, st t2 a1, b1⟩
  · obtain ⟨k1, k2, k3⟩ := vx_keep h0 e1 hS hAX hf hL hF
    obtain ⟨t2, a1, b1⟩ := kx E ce q u t T'.heap (locs ++ L) e1.symm (by rw [← e2]; exact X'.warmed.alike) hp hb k1 k2 k3 (by rw [e1]; exact hce) hcv hcl T' rfl X'
    exact ⟨t2, st.trans a1, b1⟩
/-- caught by the row x of this method's table; the rows ahead don't take it -/
theorem vx_catch {own name : String} {E : String} {ce : Cell} {q : Addr} (hown : s.vm.findClass own = some m.cls) (pre : List ExceptionTableEntry) (x : ExceptionTableEntry) (suf : List ExceptionTableEntry) (hsplit : c.exceptionTable.toList = pre ++ x :: suf)
    (hpass : ∀ z ∈ pre, covers z pc = false ∨ (z.catchType ≠ 0 ∧ ∃ nm : String, (Cond.classLink own z.catchType nm).before args s = true ∧ va_Nc E nm s)) (hx : covers x pc = true) (h0 : x.catchType ≠ 0)
    (hlink : (Cond.classLink own x.catchType name).before args s = true) (hcast : (Cond.castable E name).before args s = true) (hcell : H[q]? = some ce) (hv : ce.vm = .none) (hcl : s.vm.findClass E = some ce.cls)
    (kk : W p l e R s m args below meth c H locs cells slots Q (F0 m x.handlerPc ls [.ref q])) : vx_W p l e R s m args below meth c H locs cells slots Q (F0 m pc ls rest) q := by
  intro T hT X
  have hpl : e.platform.magicAccessors = ({} : Platform).magicAccessors := by rw [X.admits.platform]
  obtain ⟨c3, c4, hc3, hc4, hasg⟩ := Cond.castable_spec hcast
  cases Option.some.inj (hc3.symm.trans hcl)
  obtain ⟨c5, hc5, hcl5⟩ := Cond.classLink_spec hown hlink e.platform hpl
  cases Option.some.inj (hc4.symm.trans hc5)
  obtain ⟨vm', X', st⟩ := X.thenCaughtThrough q (g := F0 m pc ls rest) rfl (Steps.refl _) (by rw [hT]; exact hcell) (by rw [hv]; rfl) (by obtain ⟨k9, h9, -⟩ := Vm.findClass_spec hcl; exact ⟨k9, h9⟩) pre x suf hsplit
    (fun z hz => by
      rcases hpass z hz with h | ⟨hz0, nm, hl1, hn1⟩
      · exact Or.inl h
      · obtain ⟨c6, hc6, hcl6⟩ := Cond.classLink_spec hown hl1 e.platform hpl
        obtain ⟨a8, b8, h1, h2, h3⟩ := hn1
        cases Option.some.inj (h1.symm.trans hcl)
        cases Option.some.inj (h2.symm.trans hc6)
        exact Or.inr ⟨hz0, _, hcl6, h3⟩) hx (Or.inr ⟨h0, c4, hcl5, hasg⟩)
  obtain ⟨t, a1, b1⟩ := kk (T.setVm vm') hT X'
  exact ⟨t, st.trans a1, b1⟩
end Rows
section Ends
variable {p : Program} {l : Launch} {e : Env} {R : Room} {s : State} {m : MethodId} {args : Array Value} {below : List Frame} {meth : Method} {c : Code} {H : Heap} {locs : List Loc} {cells slots : Nat} {Q : State → Prop}
variable {mc ms : Nat} {free : Addr → Prop} {A0 A1 : Nat → Prop} {H0 : Heap} {a : Array Value} {ls : Array Slot} {st0 rest : List Value}
variable {Qc : Array Value → State → Outcome → State → Prop} {XC : String → State → State → Prop}
/-- what a body that may throw owes at its end -/
def vx_MQ (below : List Frame) (Qc : Array Value → State → Outcome → State → Prop) (XC : String → State → State → Prop) (a : Array Value) (s : State) (mc ms : Nat) (free : Addr → Prop) : State → Prop := fun t =>
  ∃ o, t.status = .running ∧ Ended t below o ∧ vx_Q Qc XC mc ms free a s o t
theorem vx_ret {g : JFrame} {mc ms : Nat} (k : W p l e R s m args below meth c H locs cells slots (MQ below Qc args s mc ms free) g) : W p l e R s m args below meth c H locs cells slots (vx_MQ below Qc XC args s mc ms free) g := by
  intro T hT X
  obtain ⟨t, a1, o, b1, b2, b3, b4⟩ := k T hT X
  exact ⟨t, a1, o, b1, b2, Or.inl ⟨b3, b4⟩⟩
/-- not caught here: it goes on to the caller -/
theorem vx_widen {g : JFrame} {q : Addr} {k n : Nat} (h1 : cells ≤ k) (h2 : slots ≤ n) (kk : vx_W p l e R s m args below meth c H locs k n Q g q) : vx_W p l e R s m args below meth c H locs cells slots Q g q := fun T hT X => kk T hT (stand_widen X h1 h2)
theorem vx_out {pc : Nat} {E : String} {ce : Cell} {q : Addr} {mc ms : Nat} (hout : ∀ x ∈ c.exceptionTable.toList, covers x pc = false) (hlocks : meth.locks = false) (hcell : H[q]? = some ce) (hv : ce.vm = .none) (hcl : s.vm.findClass E = some ce.cls)
    (hx : ∀ t : State, t.heap = H → s.vm.Alike t.vm → XC E s t) (hf : ∀ z ∈ locs, free z.base) (hc : cells ≤ mc) (hs : slots ≤ ms) :
    vx_W p l e R s m args below meth c H locs cells slots (vx_MQ below Qc XC args s mc ms free) (F0 m pc ls rest) q := by
  intro T hT X
  obtain ⟨st1, hrun, hend, hW, hsm⟩ := X.leaveThrown q (g := F0 m pc ls rest) rfl rfl rfl hout hlocks
  have hcell9 : (T.setFrames (.throwing q :: below)).heap[q]? = some ce := by
    show T.heap[q]? = some ce
    rw [hT]; exact hcell
  exact ⟨_, st1, .threw q, hrun, hend, Or.inr ⟨q, rfl, E, ce, locs, hx _ hT hW.alike, hcell9, hv, hcl, hW, hsm.mono hc hs, hf⟩⟩
theorem vx_frame {U : State} {k n : Nat} (h : s.sameButNew ({ U with vm := s.vm } : State) locs k n) : s.heap.size ≤ U.heap.size ∧ ∀ q : Nat, q < s.heap.size → (∀ z ∈ locs, z.base ≠ q) → U.heap[q]? = s.heap[q]? := by
  obtain ⟨-, h2, -, -, -, h6⟩ := h
  refine ⟨h2, fun q hq hz => ?_⟩
  obtain ⟨c9, e1, e2, e3, e4⟩ := h6 q _ (Array.getElem?_eq_getElem hq)
  have hs : c9.slots = (s.heap[q]).slots := Array.ext_getElem? fun i => e4 i fun hm => hz _ hm rfl
  have h9 : c9 = s.heap[q] := by
    rw [hs] at e2
    exact e2
  have e5 : U.heap[q]? = some c9 := e1
  rw [e5, h9, Array.getElem?_eq_getElem hq]
/-- the words of a throw but the four that speak of the heap -/
def vx_no (w : Cond) : Bool := decide (w ≠ .isRef (.static Bundle.tN "UNASSIGNED_STACK" Bundle.steD)) && decide (w ≠ .isRef (.static Bundle.tN "SUPPRESSED_SENTINEL" Bundle.listD)) && decide (w ≠ .laysStatic Bundle.tN "UNASSIGNED_STACK" Bundle.steD) && decide (w ≠ .laysStatic Bundle.tN "SUPPRESSED_SENTINEL" Bundle.listD)
def vx_at0 (own : String) (ic : Nat) (X : String) (names : List String) : List Cond := (Bundle.ownAtoms0 own ic X names).filter vx_no
def vx_atS (own : String) (ic : Nat) (X : String) (names : List String) : List Cond := (Bundle.ownAtoms own ic X names).filter vx_no
/-- a word that the tables alone decide, or a good one -/
def vx_ot (w : Cond) : Bool := w.onTables || goodWord w
theorem vx_ot_at {args a' : Array Value} {s U : State} {w : Cond} (hW : s.WarmedH U.vm) (hvm : s.vm = U.vm) (hg : vx_ot w = true) (h : w.before args s = true) : w.before a' U = true := by
  simp only [vx_ot, Bool.or_eq_true] at hg
  rcases hg with hg | hg
  · exact va_tabs hg hvm h
  · exact word_at hW (good_of_word hg) h
/-- a list's words: the good ones out of the method's own list, the others by premises of their own -/
theorem vx_hat {args : Array Value} {s : State} {L B : List Cond} (h1 : ∀ w ∈ L.filter goodWord, w.before args s = true) (h2 : ∀ w ∈ L.filter (fun w => !goodWord w), w ∈ B) (h3 : ∀ w ∈ B, w.before args s = true) : ∀ w ∈ L, w.before args s = true := by
  intro w hw
  by_cases g : goodWord w = true
  · exact h1 w (List.mem_filter.mpr ⟨hw, g⟩)
  · refine h3 w (h2 w (List.mem_filter.mpr ⟨hw, ?_⟩))
    show (!goodWord w) = true
    cases hgw : goodWord w
    · rfl
    · exact absurd hgw g
theorem vx_c {args : Array Value} {s : State} {w : Cond} {B : List Cond} (h : w.before args s = true) (t : ∀ w ∈ B, w.before args s = true) : ∀ w' ∈ w :: B, w'.before args s = true := fun w' h' => (List.mem_cons.mp h').elim (fun e => by rw [e]; exact h) (t w')
theorem vx_n {args : Array Value} {s : State} : ∀ w ∈ ([] : List Cond), w.before args s = true := fun _ h => nomatch h
theorem vx_own {args : Array Value} {s : State} {L : List Cond} (h1 : ∀ w ∈ L.filter vx_no, w.before args s = true)
    (hU : (Cond.isRef (.static Bundle.tN "UNASSIGNED_STACK" Bundle.steD)).before args s = true) (hN : (Cond.isRef (.static Bundle.tN "SUPPRESSED_SENTINEL" Bundle.listD)).before args s = true)
    (lU : (Cond.laysStatic Bundle.tN "UNASSIGNED_STACK" Bundle.steD).before args s = true) (lN : (Cond.laysStatic Bundle.tN "SUPPRESSED_SENTINEL" Bundle.listD).before args s = true) : ∀ w ∈ L, w.before args s = true := by
  intro w hw
  by_cases e1 : w = .isRef (.static Bundle.tN "UNASSIGNED_STACK" Bundle.steD)
  · rw [e1]; exact hU
  · by_cases e2 : w = .isRef (.static Bundle.tN "SUPPRESSED_SENTINEL" Bundle.listD)
    · rw [e2]; exact hN
    · by_cases e3 : w = .laysStatic Bundle.tN "UNASSIGNED_STACK" Bundle.steD
      · rw [e3]; exact lU
      · by_cases e4 : w = .laysStatic Bundle.tN "SUPPRESSED_SENTINEL" Bundle.listD
        · rw [e4]; exact lN
        · exact h1 w (List.mem_filter.mpr ⟨hw, by unfold vx_no; rw [decide_eq_true e1, decide_eq_true e2, decide_eq_true e3, decide_eq_true e4]; rfl⟩)
/-- where a static field lies, its class's statics cell in H -/
def vx_L (C n d : String) (A : Nat → Prop) (U : State) (H : Heap) : Prop := ∃ (c : ClassId) (k : Class) (i : Nat) (f : Field) (a : Nat) (cell : Cell), U.vm.findClass C = some c ∧ U.fieldFound? C n d = some (c, k, i, f) ∧ f.isStatic = true ∧ k.statics = some a ∧ H[a]? = some cell ∧ cell.vm.isStatics = true ∧ cell.cls = c ∧ f.slot < cell.slots.size ∧ k.staticTypes[f.slot]? = some f.type ∧ ¬ A a
theorem vx_L.moved {C n d : String} {A : Nat → Prop} {u U : State} {H : Heap} (hvm : u.vm.Alike U.vm) (h : vx_L C n d A u H) : vx_L C n d A U H := by
  obtain ⟨c, k, i, f, a, cell, h1, h2, h3, h4, h5, h6, h7, h8, h9, h10⟩ := h
  obtain ⟨k', hi', he⟩ := State.fieldFound?_setVm hvm h2
  exact ⟨c, k', i, f, a, cell, by rw [hvm.findClass]; exact h1, hi', h3, by rw [he]; exact h4, h5, h6, h7, h8, by rw [he]; exact h9, h10⟩
theorem vx_L.kept {C n d : String} {A : Nat → Prop} {U : State} {H H1 : Heap} (h : vx_L C n d A U H) (hq : ∀ a : Nat, a < H.size → ¬ A a → H1[a]? = H[a]?) : vx_L C n d A U H1 := by
  obtain ⟨c, k, i, f, a, cell, h1, h2, h3, h4, h5, h6, h7, h8, h9, h10⟩ := h
  exact ⟨c, k, i, f, a, cell, h1, h2, h3, h4, by rw [hq a (Array.getElem?_eq_some_iff.mp h5).1 h10]; exact h5, h6, h7, h8, h9, h10⟩
theorem vx_L.narrow {C n d : String} {A B : Nat → Prop} {U : State} {H : Heap} (h : vx_L C n d A U H) (hAB : ∀ q, B q → A q) : vx_L C n d B U H := by
  obtain ⟨c, k, i, f, a, cell, h1, h2, h3, h4, h5, h6, h7, h8, h9, h10⟩ := h
  exact ⟨c, k, i, f, a, cell, h1, h2, h3, h4, h5, h6, h7, h8, h9, fun z => h10 (hAB _ z)⟩
theorem vx_L.word {C n d : String} {A : Nat → Prop} {s : State} {args : Array Value} (h : vx_L C n d A s s.heap) : (Cond.laysStatic C n d).before args s = true := by
  obtain ⟨c, k, i, f, a, cell, h1, h2, h3, h4, h5, h6, h7, h8, h9, -⟩ := h
  show (Cond.laysStatic C n d).holds args s none s [] = true
  exact Cond.laysStatic_of h1 h2 h3 h4 h5 h6 h7 h8 h9
/-- .. and what it holds: null or some reference -/
def vx_Zq (C n d : String) (A : Nat → Prop) (U : State) (H : Heap) : Prop := va_Zq C n d A U H ∧ vx_L C n d A U H
theorem vx_Zq.moved {C n d : String} {A : Nat → Prop} {u U : State} {H : Heap} (hvm : u.vm.Alike U.vm) (h : vx_Zq C n d A u H) : vx_Zq C n d A U H := ⟨va_Zq.moved hvm h.1, vx_L.moved hvm h.2⟩
theorem vx_Zq.kept {C n d : String} {A : Nat → Prop} {U : State} {H H1 : Heap} (h : vx_Zq C n d A U H) (hq : ∀ a : Nat, a < H.size → ¬ A a → H1[a]? = H[a]?) : vx_Zq C n d A U H1 := ⟨va_Zq.kept h.1 hq, vx_L.kept h.2 hq⟩
theorem vx_Zq.narrow {C n d : String} {A B : Nat → Prop} {U : State} {H : Heap} (h : vx_Zq C n d A U H) (hAB : ∀ q, B q → A q) : vx_Zq C n d B U H := ⟨va_Zq.narrow h.1 hAB, vx_L.narrow h.2 hAB⟩
theorem vx_Zqof {args : Array Value} {s : State} {C n d : String} {A : Nat → Prop} (hl : (Cond.laysStatic C n d).before args s = true) (hini : (Cond.initialized C).before args s = true) (h : (Cond.isRef (.static C n d)).before args s = true) (hA : ∀ a : Nat, a < s.heap.size → ¬ A a) : vx_Zq C n d A s s.heap := by
  refine ⟨va_Zqof hl hini h hA, ?_⟩
  obtain ⟨c, k, i, f, a, cell, h1, h2, h3, h4, h5, h6, h7, h8, h9⟩ := Cond.laysStatic_spec hl
  exact ⟨c, k, i, f, a, cell, h1, h2, h3, h4, h5, h6, h7, h8, h9, hA a (Array.getElem?_eq_some_iff.mp h5).1⟩
theorem vx_isRef {C n d : String} {v : Value} {A : Nat → Prop} {s : State} {args : Array Value} (h : va_Z C n d v A s s.heap) (hv : v.isRef = true) : (Cond.isRef (.static C n d)).before args s = true := by
  obtain ⟨cf, kf, fi, f, a, cell, h1, h2, h3, h4, h5, h6, h7, -⟩ := h
  have he : (Term.static C n d).eval args s none [] s = some v := by
    simp [Term.eval, State.fieldNamed?, h1, h2, h4, h5, h6, h7]
  simp only [Cond.before, Cond.holds, Cond.value, he]
  cases v <;> simp_all [Value.isRef]
theorem vx_isRefq {C n d : String} {A : Nat → Prop} {s : State} {args : Array Value} (h : va_Zq C n d A s s.heap) : (Cond.isRef (.static C n d)).before args s = true := by
  rcases h with h | ⟨t, h⟩
  · exact vx_isRef h rfl
  · exact vx_isRef h rfl
/-- the same frame, seen from here: as if the method were called anew in this heap -/
theorem vx_rebase {T : State} (X : Stand p l e R s m args below meth c T locs cells slots) {R' : Room} (hf : R'.frames ≤ R.frames) (hl : R'.locals ≤ R.locals) (hc : cells + R'.cells ≤ R.cells) (hs : slots + R'.slots ≤ R.slots) :
    Stand p l e R' ((T.setVm s.vm).setFrames (.invoking m args :: below)) m args below meth c T [] 0 0 := by
  have htop : (T.setVm s.vm).topJava?.isSome := X.here.top
  have hF : ((T.setVm s.vm).setFrames (.invoking m args :: below)).frames = .invoking m args :: below := State.frames_setFrames _ (State.cur_lt_of_top htop)
  obtain ⟨g₀, hg0⟩ := Option.isSome_iff_exists.mp htop
  obtain ⟨r, hr⟩ := State.topJava?_eq_some.mp hg0
  have hl9 : e.platform.stackLimits (T.setVm s.vm).me = e.platform.stackLimits s.me := X.limits
  have hb9 : (T.setVm s.vm).me.stackBytes = s.me.stackBytes := X.bytes
  refine ⟨X.admits, X.cas, X.clock, hF, ?_, X.hears, X.method, X.code, X.here, X.tail, X.warmed, ?_, ?_, ?_⟩
  · have h := X.room
    have hU : ((T.setVm s.vm).setFrames (.invoking m args :: below)).localsInUse = s.localsInUse := by
      rw [State.localsInUse_invoking hF (meth := meth) (c := c) X.method X.code, State.localsInUse_invoking X.frames X.method X.code]
    simp only [State.hasRoom, Bool.and_eq_true, decide_eq_true_eq] at h ⊢
    obtain ⟨⟨⟨⟨h1, h2, h3, h4, h5, h6⟩, h7⟩, h8⟩, h9⟩ := h
    rw [X.frames, List.length_cons] at h2 h3
    have q1 := X.heapSize
    have q2 := X.used
    simp only [hF, hU, List.length_cons, State.stackLimits_setFrames, State.stackBytes_setFrames, hl9, hb9]
    refine ⟨⟨⟨⟨by omega, by omega, by omega, by omega, by omega, h6⟩, ?_⟩, ?_⟩, X.book⟩
    · show T.heap.size + R'.cells ≤ e.platform.maxCells
      omega
    · show T.slotsUsed + R'.slots ≤ e.platform.maxSlots
      omega
  · rw [State.stackLimits_setFrames]; rfl
  · rw [State.stackBytes_setFrames]; rfl
  · refine ⟨?_, Nat.le_refl _, Nat.le_refl _, ?_, ?_, fun a c9 h9 => ⟨c9, h9, rfl, rfl, fun _ _ => rfl⟩⟩
    · obtain ⟨t, ht, -⟩ := State.frames_cons hr
      show T.setVm s.vm = { ((T.setVm s.vm).setFrames (.invoking m args :: below)).setFrames (T.setVm s.vm).frames with heap := T.heap, slotsUsed := T.slotsUsed }
      rw [State.setFrames_setFrames, State.setFrames_self ht]
      rfl
    · show T.slotsUsed = T.slotsUsed + ((T.heap.toList.drop T.heap.size).map (·.slots.size)).sum
      rw [List.drop_eq_nil_of_le (Nat.le_of_eq Array.length_toList)]
      rfl
    · show ((T.heap.toList.drop T.heap.size).map (·.slots.size)).sum ≤ 0
      rw [List.drop_eq_nil_of_le (Nat.le_of_eq Array.length_toList)]
      exact Nat.le_refl _
/-- 'throw new E()': new; dup; invokespecial; athrow -/
theorem vx_throw0 {cc : ByteArray} {pc : Nat} (hexec : p.tables.exec = Jvm.exec) (hb : c.code = cc) (hl : l.stackTraces = false) {own cls : String} {names : List String} {ik ic mc ms : Nat} {A : Nat → Prop}
    (hown : s.vm.findClass own = some m.cls) (hcls : Bundle.fit cls = true) (hnames : ∀ n ∈ names, Bundle.fit n = true)
    (hk : (Cond.classLink own ik cls).before args s = true) (hini : (Cond.initialized cls).before args s = true) (hat : ∀ w ∈ vx_at0 own ic cls names, w.before args s = true)
    (hgood : ∀ w ∈ Cond.classLink own ik cls :: Cond.initialized cls :: vx_at0 own ic cls names, vx_ot w = true)
    (hU : vx_Zq Bundle.tN "UNASSIGNED_STACK" Bundle.steD A s s.heap) (hN : vx_Zq Bundle.tN "SUPPRESSED_SENTINEL" Bundle.listD A s s.heap) (hS : va_S A s.heap H locs) (hsize : ls.size = c.maxLocals)
    (d0 : decode cc pc = .ok (.new ik, 3)) (d3 : decode cc (pc + 3) = .ok (.dup, 1)) (d4 : decode cc (pc + 4) = .ok (.invokespecial ic, 3)) (d7 : decode cc (pc + 7) = .ok (.athrow, 1))
    (hout : ∀ x ∈ c.exceptionTable.toList, covers x (pc + 7) = false)
    (hRframes : names.length + 3 < R.frames) (hRlocals : (rest.map fun v => v.category).sum + (13 * (names.length + 1) + 42) ≤ R.locals) (hRcells : cells + 1 ≤ R.cells) (hRslots : slots + 6 ≤ R.slots) (hlocks : meth.locks = false)
    (hx : ∀ t : State, s.vm.Alike t.vm → H.size ≤ t.heap.size → (∀ q : Nat, q < H.size → t.heap[q]? = H[q]?) → XC cls s t)
    (hf : ∀ z ∈ locs, free z.base) (hc : cells + 1 ≤ mc) (hs : slots + 6 ≤ ms) :
    W p l e R s m args below meth c H locs cells slots (vx_MQ below Qc XC args s mc ms free) (F0 m pc ls rest) := by
  intro T hT X
  have htr : e.platform.stackTraces = false := (show e.platform.stackTraces = l.stackTraces by rw [X.admits.platform]).trans hl
  have Y := vx_rebase X (R' := { frames := R.frames, locals := R.locals, cells := 1, slots := 6 }) (Nat.le_refl _) (Nat.le_refl _) hRcells hRslots
  obtain ⟨s', hA⟩ : ∃ z, z = (T.setVm s.vm).setFrames (.invoking m args :: below) := ⟨_, rfl⟩
  rw [← hA] at Y
  have hvm : s'.vm = s.vm := by rw [hA]; rfl
  have hhp : s'.heap = H := by rw [hA]; exact hT
  have hW0 : s.WarmedH s'.vm := by rw [hvm]; exact State.WarmedH.refl s
  have hat' : ∀ w ∈ vx_at0 own ic cls names, w.before args s' = true := fun w hw => vx_ot_at hW0 hvm.symm (hgood w (List.mem_cons_of_mem _ (List.mem_cons_of_mem _ hw))) (hat w hw)
  have hk' : (Cond.classLink own ik cls).before args s' = true := vx_ot_at hW0 hvm.symm (hgood _ List.mem_cons_self) hk
  have hini' : (Cond.initialized cls).before args s' = true := vx_ot_at hW0 hvm.symm (hgood _ (List.mem_cons_of_mem _ List.mem_cons_self)) hini
  have hU' : vx_Zq Bundle.tN "UNASSIGNED_STACK" Bundle.steD A s' s'.heap := by rw [hhp]; exact vx_Zq.moved hW0.alike (hU.kept hS.2.1)
  have hN' : vx_Zq Bundle.tN "SUPPRESSED_SENTINEL" Bundle.listD A s' s'.heap := by rw [hhp]; exact vx_Zq.moved hW0.alike (hN.kept hS.2.1)
  have h : ∀ w ∈ Bundle.ownAtoms0 own ic cls names, w.before args s' = true := vx_own hat' (vx_isRefq hU'.1) (vx_isRefq hN'.1) hU'.2.word hN'.2.word
  have hown' : s'.vm.findClass own = some m.cls := by rw [hvm]; exact hown
  have hins : (Cond.instantiable cls 6).before args s' = true := h _ (by simp [Bundle.ownAtoms0])
  obtain ⟨vm₁, cX, kX, hfX, hkX, -, -, X₁, st1⟩ := Y.newCold hexec (own := own) (C := cls) (index := ik) (n := 6) hown' hk' hins hini'
    (g := F0 m pc ls rest) rfl (by rw [hb]; exact d0) (Nat.le_refl _) (Nat.le_refl _)
  generalize hT1 : (T.setVm vm₁).pushCell { cls := cX, slots := kX.instanceTypes.map defaultValue, vm := .none } = T1 at X₁ st1
  have hcat : (Value.ref T.heap.size).category = 1 := rfl
  have hcellA : T1.heap[T.heap.size]? = some (freshCell cX kX) := by rw [← hT1]; exact State.heap_pushCell_size _ _
  have d3' : decode c.code (pc + 3) = .ok (.dup, 1) := by rw [hb]; exact d3
  obtain ⟨U, hsteps, hrun, hend, hW, hsame, ce, hce, hO⟩ := X₁.ctorThrow0 hexec htr (own := own) (cls := cls) (names := names) (ic := ic) hown' hcls hnames h (fun x hx => nomatch hx) hfX hkX hcellA (by rw [hhp, hT]; exact Nat.le_refl _)
    (g := { method := m, pc := pc + 4, locals := ls, stack := .ref T.heap.size :: .ref T.heap.size :: rest, locked := none }) rfl hsize rfl rfl (rest := rest) rfl
    (by rw [hb]; exact d4) (by rw [hb]; exact d7) hout hRframes (by simp only [List.map_cons, List.sum_cons, hcat]; omega) hlocks
  obtain ⟨f1, f2⟩ := vx_frame hsame
  rw [hhp] at f1 f2
  have hWs : s.WarmedH U.vm := State.WarmedH.trans hW0 hW
  have hcl : s.vm.findClass cls = some ce.cls := by
    have h9 := hO.cls
    rw [hvm] at h9
    exact h9
  have hall : s.sameButNew ({ U with vm := s.vm } : State) locs mc ms := by
    subst hA
    obtain ⟨e1, e2⟩ := hsame
    rw [State.setFrames_setFrames] at e1
    have h2 : (T.setVm s.vm).sameButNew ({ U with vm := s.vm } : State) [] (0 + 1) (0 + 6) := ⟨e1, e2⟩
    have h3 := X.same.trans h2
    rw [List.append_nil] at h3
    exact h3.mono hc hs
  refine ⟨U, ?_, .threw T.heap.size, hrun, hend, Or.inr ⟨T.heap.size, rfl, cls, ce, locs, hx U hWs.alike f1 (fun q hq => f2 q hq (fun z hz => nomatch hz)), hce, hO.vm, hcl, hWs, hall, hf⟩⟩
  refine st1 _ ?_
  show Steps p.tables e below (T1.setTop { method := m, pc := pc + 3, locals := ls, stack := .ref T.heap.size :: rest, locked := none }) _
  jvm_step X₁.here [X₁.here.top, hexec, d3', Value.category]
  exact hsteps
/-- 'throw new E("text")': new; dup; ldc; invokespecial; athrow -/
theorem vx_throwS {cc : ByteArray} {pc : Nat} (hexec : p.tables.exec = Jvm.exec) (hb : c.code = cc) (hl : l.stackTraces = false) {own cls text : String} {names : List String} {ik is ic mc ms sa : Nat} {A : Nat → Prop}
    (hown : s.vm.findClass own = some m.cls) (hcls : Bundle.fit cls = true) (hnames : ∀ n ∈ names, Bundle.fit n = true)
    (hk : (Cond.classLink own ik cls).before args s = true) (hini : (Cond.initialized cls).before args s = true) (hstr : vk_R own is text sa s) (hat : ∀ w ∈ vx_atS own ic cls names, w.before args s = true)
    (hgood : ∀ w ∈ Cond.classLink own ik cls :: Cond.initialized cls :: vx_atS own ic cls names, vx_ot w = true)
    (hU : vx_Zq Bundle.tN "UNASSIGNED_STACK" Bundle.steD A s s.heap) (hN : vx_Zq Bundle.tN "SUPPRESSED_SENTINEL" Bundle.listD A s s.heap) (hS : va_S A s.heap H locs) (hsize : ls.size = c.maxLocals)
    (d0 : decode cc pc = .ok (.new ik, 3)) (d3 : decode cc (pc + 3) = .ok (.dup, 1)) (d4 : decode cc (pc + 4) = .ok (.ldc is, 2)) (d6 : decode cc (pc + 6) = .ok (.invokespecial ic, 3)) (d9 : decode cc (pc + 9) = .ok (.athrow, 1))
    (hout : ∀ x ∈ c.exceptionTable.toList, covers x (pc + 9) = false)
    (hRframes : names.length + 3 < R.frames) (hRlocals : (rest.map fun v => v.category).sum + (13 * (names.length + 1) + 43) ≤ R.locals) (hRcells : cells + 1 ≤ R.cells) (hRslots : slots + 6 ≤ R.slots) (hlocks : meth.locks = false)
    (hx : ∀ t : State, s.vm.Alike t.vm → H.size ≤ t.heap.size → (∀ q : Nat, q < H.size → t.heap[q]? = H[q]?) → XC cls s t)
    (hf : ∀ z ∈ locs, free z.base) (hc : cells + 1 ≤ mc) (hs : slots + 6 ≤ ms) :
    W p l e R s m args below meth c H locs cells slots (vx_MQ below Qc XC args s mc ms free) (F0 m pc ls rest) := by
  intro T hT X
  have htr : e.platform.stackTraces = false := (show e.platform.stackTraces = l.stackTraces by rw [X.admits.platform]).trans hl
  have Y := vx_rebase X (R' := { frames := R.frames, locals := R.locals, cells := 1, slots := 6 }) (Nat.le_refl _) (Nat.le_refl _) hRcells hRslots
  obtain ⟨s', hA⟩ : ∃ z, z = (T.setVm s.vm).setFrames (.invoking m args :: below) := ⟨_, rfl⟩
  rw [← hA] at Y
  have hvm : s'.vm = s.vm := by rw [hA]; rfl
  have hhp : s'.heap = H := by rw [hA]; exact hT
  have hW0 : s.WarmedH s'.vm := by rw [hvm]; exact State.WarmedH.refl s
  have hat' : ∀ w ∈ vx_atS own ic cls names, w.before args s' = true := fun w hw => vx_ot_at hW0 hvm.symm (hgood w (List.mem_cons_of_mem _ (List.mem_cons_of_mem _ hw))) (hat w hw)
  have hk' : (Cond.classLink own ik cls).before args s' = true := vx_ot_at hW0 hvm.symm (hgood _ List.mem_cons_self) hk
  have hini' : (Cond.initialized cls).before args s' = true := vx_ot_at hW0 hvm.symm (hgood _ (List.mem_cons_of_mem _ List.mem_cons_self)) hini
  have hU' : vx_Zq Bundle.tN "UNASSIGNED_STACK" Bundle.steD A s' s'.heap := by rw [hhp]; exact vx_Zq.moved hW0.alike (hU.kept hS.2.1)
  have hN' : vx_Zq Bundle.tN "SUPPRESSED_SENTINEL" Bundle.listD A s' s'.heap := by rw [hhp]; exact vx_Zq.moved hW0.alike (hN.kept hS.2.1)
  have h : ∀ w ∈ Bundle.ownAtoms own ic cls names, w.before args s' = true := vx_own hat' (vx_isRefq hU'.1) (vx_isRefq hN'.1) hU'.2.word hN'.2.word
  have hown' : s'.vm.findClass own = some m.cls := by rw [hvm]; exact hown
  have hins : (Cond.instantiable cls 6).before args s' = true := h _ (by simp [Bundle.ownAtoms])
  obtain ⟨vm₁, cX, kX, hfX, hkX, -, -, X₁, st1⟩ := Y.newCold hexec (own := own) (C := cls) (index := ik) (n := 6) hown' hk' hins hini'
    (g := F0 m pc ls rest) rfl (by rw [hb]; exact d0) (Nat.le_refl _) (Nat.le_refl _)
  generalize hT1 : (T.setVm vm₁).pushCell { cls := cX, slots := kX.instanceTypes.map defaultValue, vm := .none } = T1 at X₁ st1
  have hcat : (Value.ref T.heap.size).category = 1 := rfl
  have hcellA : T1.heap[T.heap.size]? = some (freshCell cX kX) := by rw [← hT1]; exact State.heap_pushCell_size _ _
  have d3' : decode c.code (pc + 3) = .ok (.dup, 1) := by rw [hb]; exact d3
  have d4' : decode c.code (pc + 4) = .ok (.ldc is, 2) := by rw [hb]; exact d4
  have hstr' : vk_R own is text sa s' := vk_R.warm hW0 hstr
  obtain ⟨U, hsteps, hrun, hend, hW, hsame, ce, hce, hO⟩ := X₁.ctorThrowS hexec htr (own := own) (cls := cls) (names := names) (ic := ic) hown' hcls hnames h (fun x hx => nomatch hx) hfX hkX hcellA (by rw [hhp, hT]; exact Nat.le_refl _) (msg := .ref sa) rfl
    (g := { method := m, pc := pc + 6, locals := ls, stack := .ref sa :: .ref T.heap.size :: .ref T.heap.size :: rest, locked := none }) rfl hsize rfl rfl (rest := rest) rfl
    (by rw [hb]; exact d6) (by rw [hb]; exact d9) hout hRframes (by simp only [List.map_cons, List.sum_cons, hcat]; omega) hlocks
  obtain ⟨f1, f2⟩ := vx_frame hsame
  rw [hhp] at f1 f2
  have hWs : s.WarmedH U.vm := State.WarmedH.trans hW0 hW
  have hcl : s.vm.findClass cls = some ce.cls := by
    have h9 := hO.cls
    rw [hvm] at h9
    exact h9
  have hall : s.sameButNew ({ U with vm := s.vm } : State) locs mc ms := by
    subst hA
    obtain ⟨e1, e2⟩ := hsame
    rw [State.setFrames_setFrames] at e1
    have h2 : (T.setVm s.vm).sameButNew ({ U with vm := s.vm } : State) [] (0 + 1) (0 + 6) := ⟨e1, e2⟩
    have h3 := X.same.trans h2
    rw [List.append_nil] at h3
    exact h3.mono hc hs
  refine ⟨U, ?_, .threw T.heap.size, hrun, hend, Or.inr ⟨T.heap.size, rfl, cls, ce, locs, hx U hWs.alike f1 (fun q hq => f2 q hq (fun z hz => nomatch hz)), hce, hO.vm, hcl, hWs, hall, hf⟩⟩
  refine st1 _ ?_
  show Steps p.tables e below (T1.setTop { method := m, pc := pc + 3, locals := ls, stack := .ref T.heap.size :: rest, locked := none }) _
  jvm_step X₁.here [X₁.here.top, hexec, d3', Value.category]
  exact X₁.ldcString hexec (own := own) (text := text) (index := is) (a := sa) hown' hstr'.1 hstr'.2
    (g := { method := m, pc := pc + 4, locals := ls, stack := .ref T.heap.size :: .ref T.heap.size :: rest, locked := none }) rfl d4' _ hsteps
/-- 'throw new E("text")', the text by a wide index -/
theorem vx_throwSW {cc : ByteArray} {pc : Nat} (hexec : p.tables.exec = Jvm.exec) (hb : c.code = cc) (hl : l.stackTraces = false) {own cls text : String} {names : List String} {ik is ic mc ms sa : Nat} {A : Nat → Prop}
    (hown : s.vm.findClass own = some m.cls) (hcls : Bundle.fit cls = true) (hnames : ∀ n ∈ names, Bundle.fit n = true)
    (hk : (Cond.classLink own ik cls).before args s = true) (hini : (Cond.initialized cls).before args s = true) (hstr : vk_R own is text sa s) (hat : ∀ w ∈ vx_atS own ic cls names, w.before args s = true)
    (hgood : ∀ w ∈ Cond.classLink own ik cls :: Cond.initialized cls :: vx_atS own ic cls names, vx_ot w = true)
    (hU : vx_Zq Bundle.tN "UNASSIGNED_STACK" Bundle.steD A s s.heap) (hN : vx_Zq Bundle.tN "SUPPRESSED_SENTINEL" Bundle.listD A s s.heap) (hS : va_S A s.heap H locs) (hsize : ls.size = c.maxLocals)
    (d0 : decode cc pc = .ok (.new ik, 3)) (d3 : decode cc (pc + 3) = .ok (.dup, 1)) (d4 : decode cc (pc + 4) = .ok (.ldc_w is, 3)) (d7 : decode cc (pc + 7) = .ok (.invokespecial ic, 3)) (d10 : decode cc (pc + 10) = .ok (.athrow, 1))
    (hout : ∀ x ∈ c.exceptionTable.toList, covers x (pc + 10) = false)
    (hRframes : names.length + 3 < R.frames) (hRlocals : (rest.map fun v => v.category).sum + (13 * (names.length + 1) + 43) ≤ R.locals) (hRcells : cells + 1 ≤ R.cells) (hRslots : slots + 6 ≤ R.slots) (hlocks : meth.locks = false)
    (hx : ∀ t : State, s.vm.Alike t.vm → H.size ≤ t.heap.size → (∀ q : Nat, q < H.size → t.heap[q]? = H[q]?) → XC cls s t)
    (hf : ∀ z ∈ locs, free z.base) (hc : cells + 1 ≤ mc) (hs : slots + 6 ≤ ms) :
    W p l e R s m args below meth c H locs cells slots (vx_MQ below Qc XC args s mc ms free) (F0 m pc ls rest) := by
  intro T hT X
  have htr : e.platform.stackTraces = false := (show e.platform.stackTraces = l.stackTraces by rw [X.admits.platform]).trans hl
  have Y := vx_rebase X (R' := { frames := R.frames, locals := R.locals, cells := 1, slots := 6 }) (Nat.le_refl _) (Nat.le_refl _) hRcells hRslots
  obtain ⟨s', hA⟩ : ∃ z, z = (T.setVm s.vm).setFrames (.invoking m args :: below) := ⟨_, rfl⟩
  rw [← hA] at Y
  have hvm : s'.vm = s.vm := by rw [hA]; rfl
  have hhp : s'.heap = H := by rw [hA]; exact hT
  have hW0 : s.WarmedH s'.vm := by rw [hvm]; exact State.WarmedH.refl s
  have hat' : ∀ w ∈ vx_atS own ic cls names, w.before args s' = true := fun w hw => vx_ot_at hW0 hvm.symm (hgood w (List.mem_cons_of_mem _ (List.mem_cons_of_mem _ hw))) (hat w hw)
  have hk' : (Cond.classLink own ik cls).before args s' = true := vx_ot_at hW0 hvm.symm (hgood _ List.mem_cons_self) hk
  have hini' : (Cond.initialized cls).before args s' = true := vx_ot_at hW0 hvm.symm (hgood _ (List.mem_cons_of_mem _ List.mem_cons_self)) hini
  have hU' : vx_Zq Bundle.tN "UNASSIGNED_STACK" Bundle.steD A s' s'.heap := by rw [hhp]; exact vx_Zq.moved hW0.alike (hU.kept hS.2.1)
  have hN' : vx_Zq Bundle.tN "SUPPRESSED_SENTINEL" Bundle.listD A s' s'.heap := by rw [hhp]; exact vx_Zq.moved hW0.alike (hN.kept hS.2.1)
  have h : ∀ w ∈ Bundle.ownAtoms own ic cls names, w.before args s' = true := vx_own hat' (vx_isRefq hU'.1) (vx_isRefq hN'.1) hU'.2.word hN'.2.word
  have hown' : s'.vm.findClass own = some m.cls := by rw [hvm]; exact hown
  have hins : (Cond.instantiable cls 6).before args s' = true := h _ (by simp [Bundle.ownAtoms])
  obtain ⟨vm₁, cX, kX, hfX, hkX, -, -, X₁, st1⟩ := Y.newCold hexec (own := own) (C := cls) (index := ik) (n := 6) hown' hk' hins hini'
    (g := F0 m pc ls rest) rfl (by rw [hb]; exact d0) (Nat.le_refl _) (Nat.le_refl _)
  generalize hT1 : (T.setVm vm₁).pushCell { cls := cX, slots := kX.instanceTypes.map defaultValue, vm := .none } = T1 at X₁ st1
  have hcat : (Value.ref T.heap.size).category = 1 := rfl
  have hcellA : T1.heap[T.heap.size]? = some (freshCell cX kX) := by rw [← hT1]; exact State.heap_pushCell_size _ _
  have d3' : decode c.code (pc + 3) = .ok (.dup, 1) := by rw [hb]; exact d3
  have d4' : decode c.code (pc + 4) = .ok (.ldc_w is, 3) := by rw [hb]; exact d4
  have hstr' : vk_R own is text sa s' := vk_R.warm hW0 hstr
  obtain ⟨U, hsteps, hrun, hend, hW, hsame, ce, hce, hO⟩ := X₁.ctorThrowS hexec htr (own := own) (cls := cls) (names := names) (ic := ic) hown' hcls hnames h (fun x hx => nomatch hx) hfX hkX hcellA (by rw [hhp, hT]; exact Nat.le_refl _) (msg := .ref sa) rfl
    (g := { method := m, pc := pc + 7, locals := ls, stack := .ref sa :: .ref T.heap.size :: .ref T.heap.size :: rest, locked := none }) rfl hsize rfl rfl (rest := rest) rfl
    (by rw [hb]; exact d7) (by rw [hb]; exact d10) hout hRframes (by simp only [List.map_cons, List.sum_cons, hcat]; omega) hlocks
  obtain ⟨f1, f2⟩ := vx_frame hsame
  rw [hhp] at f1 f2
  have hWs : s.WarmedH U.vm := State.WarmedH.trans hW0 hW
  have hcl : s.vm.findClass cls = some ce.cls := by
    have h9 := hO.cls
    rw [hvm] at h9
    exact h9
  have hall : s.sameButNew ({ U with vm := s.vm } : State) locs mc ms := by
    subst hA
    obtain ⟨e1, e2⟩ := hsame
    rw [State.setFrames_setFrames] at e1
    have h2 : (T.setVm s.vm).sameButNew ({ U with vm := s.vm } : State) [] (0 + 1) (0 + 6) := ⟨e1, e2⟩
    have h3 := X.same.trans h2
    rw [List.append_nil] at h3
    exact h3.mono hc hs
  refine ⟨U, ?_, .threw T.heap.size, hrun, hend, Or.inr ⟨T.heap.size, rfl, cls, ce, locs, hx U hWs.alike f1 (fun q hq => f2 q hq (fun z hz => nomatch hz)), hce, hO.vm, hcl, hWs, hall, hf⟩⟩
  refine st1 _ ?_
  show Steps p.tables e below (T1.setTop { method := m, pc := pc + 3, locals := ls, stack := .ref T.heap.size :: rest, locked := none }) _
  jvm_step X₁.here [X₁.here.top, hexec, d3', Value.category]
  exact X₁.ldcStringW hexec (own := own) (text := text) (index := is) (a := sa) hown' hstr'.1 hstr'.2
    (g := { method := m, pc := pc + 4, locals := ls, stack := .ref T.heap.size :: .ref T.heap.size :: rest, locked := none }) rfl d4' _ hsteps
end Ends
section Bodies
variable {l : Launch}
theorem vx_ofW {y : MethodName} {ws ws' : List Cond} {rm : Room} {Pc : Array Value → State → Prop} {Qc : Array Value → State → Outcome → State → Prop} {XC : String → State → State → Prop} {mc ms : Nat} {free : Addr → Prop} {cc : ByteArray} {maxL : Nat} {ret : Option FieldType}
    (hy : plainName y.cls = true) (hw : ws = Cond.code y cc maxL ret :: ws')
    (body : ∀ p e s m args below meth c s₁, BodyLoose p l y (headSpec ws rm) cc maxL ret e s m args below meth c s₁ → c.maxLocals = maxL → (∀ x ∈ c.exceptionTable.toList, False) → Pc args s →
      W p l e (headSpec ws rm).room s m args below meth c s.heap [] 0 0 (vx_MQ below Qc XC args s mc ms free) (entryFrame m args maxL)) : vx_Met l y ws rm Pc Qc XC mc ms free := by
  refine MetFree.of_bodyS (code := cc) (maxLocals := maxL) (ret := ret) hy ?_ ?_
  · intro args s m h hn
    obtain ⟨meth, c, h1, h2, h3, h4, h5, h6, -, -⟩ := Cond.code_spec hn (atoms_spec (ws := ws) h _ (by rw [hw]; exact List.mem_cons_self))
    exact ⟨meth, c, h1, h2, h3, h4, h5, h6⟩
  · intro p e s m args below meth c s₁ B hml hP _
    have hh0 : s₁.heap = s.heap := by rw [B.state]; rfl
    have ht : ∀ x ∈ c.exceptionTable.toList, False := by
      obtain ⟨meth9, c9, h1, h2, -, -, -, -, h7, -⟩ := Cond.code_spec B.named (atoms_spec (ws := ws) B.pre _ (by rw [hw]; exact List.mem_cons_self))
      cases Option.some.inj (h1.symm.trans B.method)
      cases Option.some.inj (h2.symm.trans (Stand.of_body B).code)
      intro x hx
      rw [Array.isEmpty_iff.mp h7] at hx
      cases hx
    obtain ⟨t, a1, o, b1, b2, b3⟩ := body p e s m args below meth c s₁ B hml ht hP s₁ hh0 (Stand.of_body B)
    exact ⟨t, o, a1, b1, b2, b3⟩
/-- the table of a body with handlers -/
theorem vx_table {p : Program} {x y : MethodName} {S : Spec} {cc bytes : ByteArray} {maxL maxL' : Nat} {ret ret' : Option FieldType} {e : Env} {s s₁ : State} {m : MethodId} {args : Array Value} {below : List Frame} {meth : Method} {c : Code} {hh : List (Nat × Nat × Nat × Nat)}
    (B : BodyLoose p l y S cc maxL ret e s m args below meth c s₁) (h : (Cond.codeWith y bytes maxL' ret' hh).before args s = true) : c.exceptionTable.toList = tableOf hh := by
  obtain ⟨m9, meth9, c9, hn9, h1, h2, -, -, h6, -⟩ := Cond.codeWith_spec h
  cases Option.some.inj (hn9.symm.trans B.named)
  cases Option.some.inj (h1.symm.trans B.method)
  cases Option.some.inj (h2.symm.trans (Stand.of_body B).code)
  rw [← h6, table_eq]
end Bodies
end VXA
/-! ===== END ===== -/
/-! ===== BEGIN a static call of a method with an exception table ===== -/
section VXS
variable {p : Program} {l : Launch} {e : Env} {R : Room} {s : State} {m : MethodId} {args : Array Value} {below : List Frame} {meth : Method} {c : Code} {T : State} {H : Heap} {locs : List Loc} {cells slots : Nat}
abbrev vx_CSW (R : Room) (s : State) (args : Array Value) (own : String) (index : Nat) (y : MethodName) (bytes : ByteArray) (maxL : Nat) (ret : Option FieldType) (hh : List (Nat × Nat × Nat × Nat)) (ws : List Cond) (rm : Room) (mc ms n : Nat) : Prop :=
  (rm.cells = mc ∧ rm.slots = ms ∧ rm.frames + 1 ≤ R.frames ∧ 8 + (maxL + 11) + rm.locals ≤ R.locals ∧ (∀ w ∈ ws, ∀ (a' : Array Value) (U : State), s.WarmedH U.vm → w.before a' U = true) ∧ Cond.codeWith y bytes maxL ret hh ∈ ws) ∧
  (Cond.codeWith y bytes maxL ret hh).before args s = true ∧ (Cond.initialized y.cls).before args s = true ∧ (y.cls ≠ "java/lang/invoke/MethodHandle" ∧ y.cls ≠ "java/lang/invoke/VarHandle") ∧
  (∀ sig, parseMethodDescriptor y.desc = some sig → n = sig.parameters.length) ∧ (Cond.methodLink own index y).before args s = true ∧ (Cond.static y).before args s = true
theorem vx_cwSW {own : String} {index maxL mc ms : Nat} {y : MethodName} {bytes : ByteArray} {ret : Option FieldType} {hh : List (Nat × Nat × Nat × Nat)} {Ts ws ws' : List Cond} {rm : Room} (n : Nat) (ht : ∀ w ∈ Ts, w.before args s = true) (hT : GoodIn Ts (va_wsS own index y ws)) (hw : ws = Cond.codeWith y bytes maxL ret hh :: ws') (hrc : rm.cells = mc) (hrs : rm.slots = ms)
    (hd : y.cls ≠ "java/lang/invoke/MethodHandle" ∧ y.cls ≠ "java/lang/invoke/VarHandle" ∧ (parseMethodDescriptor y.desc).map (fun d => d.parameters.length) = some n) (hR : rm.frames + 1 ≤ R.frames ∧ 8 + (maxL + 11) + rm.locals ≤ R.locals) :
    vx_CSW R s args own index y bytes maxL ret hh ws rm mc ms n := by
  have ok : ∀ w ∈ va_wsS own index y ws, w.before args s = true := fun w h => ht w (hT w h).1
  have hG : GoodIn Ts ws := fun w h => hT w (by unfold va_wsS; exact List.mem_append_right _ h)
  have hc : Cond.codeWith y bytes maxL ret hh ∈ ws := by rw [hw]; exact List.mem_cons_self
  refine ⟨⟨hrc, hrs, hR.1, hR.2, pay_in ht hG, hc⟩, ht _ (hG _ hc).1, ok _ (by simp [va_wsS]), ⟨hd.1, hd.2.1⟩, fun sig h => ?_, ok _ (by simp [va_wsS]), ok _ (by simp [va_wsS])⟩
  have h2 := hd.2.2
  rw [h] at h2
  exact (Option.some.inj h2).symm
theorem vx_callSW (X : Stand p l e R s m args below meth c T locs cells slots) (hexec : p.tables.exec = Jvm.exec) {own : String} {index : Nat} {y : MethodName} {bytes : ByteArray} {maxL : Nat} {ret : Option FieldType} {hh : List (Nat × Nat × Nat × Nat)}
    (hown : s.vm.findClass own = some m.cls) (hlink : (Cond.methodLink own index y).before args s = true) (hstat : (Cond.static y).before args s = true) (hinit : (Cond.initialized y.cls).before args s = true)
    (hcode : (Cond.codeWith y bytes maxL ret hh).before args s = true) (hy : y.cls ≠ "java/lang/invoke/MethodHandle" ∧ y.cls ≠ "java/lang/invoke/VarHandle")
    {W9 : Nat} {Pre : Pt → Array Value → Prop} {Post : Pt → Array Value → Option Value → Pt → Prop} (hK : Back l R p e below s args y 3 W9 Pre Post)
    {g : JFrame} (hg : g.method = m) (hsize : g.locals.size = c.maxLocals) {argsL rest : List Value} (hlen : ∀ sig, parseMethodDescriptor y.desc = some sig → argsL.length = sig.parameters.length)
    (hstack : g.stack = argsL.reverse ++ rest) (hW : 2 * g.monitorRoom + (rest.map fun v => v.category).sum ≤ W9) (hdg : decode c.code g.pc = .ok (.invokestatic index, 3))
    (hpre : ∀ vm₁, s.WarmedH vm₁ → Pre ⟨T.setVm vm₁, locs, cells, slots⟩ argsL.toArray) :
    ∃ (v : Option Value) (vm₁ : Vm) (B : Pt), s.WarmedH vm₁ ∧ Stand p l e R s m args below meth c B.U B.locs B.cells B.slots ∧ Post ⟨T.setVm vm₁, locs, cells, slots⟩ argsL.toArray v B ∧
      ∀ target, Steps p.tables e below (B.U.setTop { g with pc := g.pc + 3, stack := v.toList ++ rest }) target → Steps p.tables e below (T.setTop g) target := by
  obtain ⟨mk, methM, cM, hnamed, hmethM, -, -, -, -, -, -, hsigM⟩ := Cond.codeWith_spec hcode
  have hstatic : methM.isStatic = true := Cond.static_spec hnamed hmethM hstat
  obtain ⟨kP, hkP, -⟩ := className_of_methodNamed hnamed
  have hinitP : kP.init = .initialized := Cond.initialized_spec (findClass_of_methodNamed hnamed) hkP hinit
  obtain ⟨vm₁, X₁, hstep₁⟩ := X.invokestatic hexec hown hlink hnamed hmethM hstatic hkP hinitP hy (g := g) hg (argsL := argsL) (rest := rest) (hlen _ hsigM) hstack hdg
  obtain ⟨v, B, X', hpost, hsteps⟩ := hK m meth c ⟨T.setVm vm₁, locs, cells, slots⟩ { g with stack := rest } (.invokestatic index) mk argsL.toArray X₁ hg hsize hdg hW (X₁.named hnamed) (hpre vm₁ X₁.warmed)
  exact ⟨v, vm₁, B, X₁.warmed, X', hpost, fun target h => hstep₁ _ fun acts => by rw [doInvoke_state]; exact hsteps.trans h⟩
theorem vx_runSW {y : MethodName} {bytes cc : ByteArray} {maxL nL mc ms n index : Nat} {ret : Option FieldType} {hh : List (Nat × Nat × Nat × Nat)} {ws : List Cond} {rm : Room} {Pc : Array Value → State → Prop} {Qc : Array Value → State → Outcome → State → Prop} {free : Addr → Prop} {Ts : List Cond} {own : String} {As rest : List Value} {g : JFrame}
    (S : CallFix p m c cc nL s args Ts own) (hM : Met l y ws rm Pc Qc mc ms free) (cw : vx_CSW R s args own index y bytes maxL ret hh ws rm mc ms n) (hp : PreS s H Pc As)
    (hg : g.method = m) (hn : As.length = n) (hsize : g.locals.size = nL) (hstack : g.stack = As.reverse ++ rest) (hW : 2 * g.monitorRoom + (rest.map fun v => v.category).sum ≤ 8) (hdg : decode cc g.pc = .ok (.invokestatic index, 3)) (hf : cells + mc ≤ R.cells ∧ slots + ms ≤ R.slots) :
    va_Run p l e R s m args below meth c H locs cells slots mc ms g rest (Qc As.toArray) (free) := by
  obtain ⟨⟨hrc, hrs, hfr, hlo, hws, hcw⟩, hcode, hini, hy, hlen, hl, hstt⟩ := cw
  have hK : Back l R p e below s args y 3 8 (PreOf R mc ms Pc) (PostOf Qc mc ms free) := va_backW (hh := hh) (bytes := bytes) (maxL := maxL) (ret := ret) hM hp.1 hrc hrs hfr hlo hws hcw (fun a' U hW => word_at hW (Or.inl (by first | rfl | simp [Cond.onTables, Cond.keeps, Cond.steady])) hini)
  obtain ⟨hx, hb, hml, ho, -⟩ := S
  intro T hT X
  obtain ⟨v, vm₁, ⟨U', l2, c2, s2⟩, hW₁, X', ⟨g', mk, t, L, e1, e2, hq, h1, hL, h2, h3⟩, st⟩ := vx_callSW X hx (hh := hh) (bytes := bytes) (maxL := maxL) (ret := ret) ho hl hstt hini hcode hy hK hg (hsize.trans hml.symm) (argsL := As) (rest := rest) (fun sig h => hn.trans (hlen sig h)) hstack hW (by rw [hb]; exact hdg)
    (fun vm₁ hW₁ => ⟨hf.1, hf.2, hp.2 (T.setVm vm₁) hT hW₁⟩)
  dsimp only [Pt.U, Pt.locs, Pt.cells, Pt.slots] at X' e1 e2 h1 h2 h3 st
  subst h1; subst h2; subst h3
  exact ⟨v, (T.setVm vm₁).calling g' mk As.toArray, t, U', L, hT, X', hL, e1, e2, hq, st⟩
/-- not caught here, past rows that name other classes: it goes on to the caller -/
theorem vx_outP {p : Program} {l : Launch} {e : Env} {R : Room} {s : State} {m : MethodId} {args : Array Value} {below : List Frame} {meth : Method} {c : Code} {H : Heap} {locs : List Loc} {cells slots : Nat} {free : Addr → Prop} {ls : Array Slot} {rest : List Value} {Qc : Array Value → State → Outcome → State → Prop} {XC : String → State → State → Prop}
    {pc : Nat} {own E : String} {ce : Cell} {q : Addr} {mc ms : Nat} (hown : s.vm.findClass own = some m.cls) (hlocks : meth.locks = false)
    (hpass : ∀ z ∈ c.exceptionTable.toList, covers z pc = false ∨ (z.catchType ≠ 0 ∧ ∃ nm : String, (Cond.classLink own z.catchType nm).before args s = true ∧ va_Nc E nm s)) (hcell : H[q]? = some ce) (hv : ce.vm = .none) (hcl : s.vm.findClass E = some ce.cls)
    (hx : ∀ t : State, t.heap = H → s.vm.Alike t.vm → XC E s t) (hf : ∀ z ∈ locs, free z.base) (hc : cells ≤ mc) (hs : slots ≤ ms) :
    vx_W p l e R s m args below meth c H locs cells slots (vx_MQ below Qc XC args s mc ms free) (F0 m pc ls rest) q := by
  intro T hT X
  have hpl : e.platform.magicAccessors = ({} : Platform).magicAccessors := by rw [X.admits.platform]
  obtain ⟨vm', hW', X', st⟩ := X.outThrough hlocks q (g := F0 m pc ls rest) rfl rfl rfl (cell := ce) (by rw [hT]; exact hcell) (by rw [hv]; rfl)
    (by obtain ⟨k9, h9, -⟩ := Vm.findClass_spec hcl; exact ⟨k9, h9⟩) (fun z hz => by
      rcases hpass z hz with h | ⟨hz0, nm, hl1, hn1⟩
      · exact Or.inl h
      · obtain ⟨c6, hc6, hcl6⟩ := Cond.classLink_spec hown hl1 e.platform hpl
        obtain ⟨a8, b8, h1, h2, h3⟩ := hn1
        cases Option.some.inj (h1.symm.trans hcl)
        cases Option.some.inj (h2.symm.trans hc6)
        exact Or.inr ⟨hz0, _, hcl6, h3⟩)
  obtain ⟨g₀, hfr⟩ := X'.frames_eq
  have hcell9 : ((T.setVm vm').setFrames (.throwing q :: below)).heap[q]? = some ce := by
    show T.heap[q]? = some ce
    rw [hT]; exact hcell
  have hend : Ended ((T.setVm vm').setFrames (.throwing q :: below)) below (.threw q) := State.frames_setFrames _ (State.cur_lt_of_frames hfr)
  refine ⟨(T.setVm vm').setFrames (.throwing q :: below), ?_, .threw q, X'.here.running, hend, Or.inr ⟨q, rfl, E, ce, locs, hx _ hT (X'.ends _).1.alike, hcell9, hv, hcl, (X'.ends _).1, (X'.ends _).2.mono hc hs, hf⟩⟩
  rw [X.pushThrowing_eq]
  exact st
/-- a thing of a world lies in the heap -/
theorem vx_lt {D : va_G} {cl : List vw_C} {ws : va_W} {H1 : Heap} (h : va_P D cl ws H1) {k : Nat} {q : Nat × va_E} (hk : ws[k]? = some q) : q.1 < H1.size := (h k q hk).lt
end VXS
/-! ===== END ===== -/
/-! ===== BEGIN methods with a table of their own: called by a name, returning or throwing ===== -/
section VXH
/-! vx_backW, vx_callVX, vx_callSX, vx_callVW, vx_runVW, vx_runVX, vx_runSX, vx_ofWH follow the same proofs as their sisters above (Free/Laws.lean, Shelf42/LK1.lean); vx_outP calls Shelf42/NT130.lean (outThrough). -/
section
variable {l : Launch} {R : Room} {p : Program} {e : Env} {below : List Frame} {s : State} {sargs : Array Value} {y : MethodName} {len W9 : Nat}
theorem vx_backW {ws : List Cond} {rm : Room} {Pc : Array Value → State → Prop} {Qc : Array Value → State → Outcome → State → Prop} {XC : String → State → State → Prop} {mc ms : Nat} {free : Addr → Prop} {bytes : ByteArray} {maxL : Nat} {ret : Option FieldType} {hh : List (Nat × Nat × Nat × Nat)}
    (hM : vx_Met l y ws rm Pc Qc XC mc ms free) (hblind : FrameBlind Pc) (hrc : rm.cells = mc) (hrs : rm.slots = ms)
    (hframes : rm.frames + 1 ≤ R.frames) (hlocals : W9 + (maxL + 11) + rm.locals ≤ R.locals)
    (hws : ∀ w ∈ ws, ∀ a' U, s.WarmedH U.vm → w.before a' U = true) (hcode : Cond.codeWith y bytes maxL ret hh ∈ ws) (hinit : ∀ a' U, s.WarmedH U.vm → (Cond.initialized y.cls).before a' U = true) :
    vx_Back l R p e below s sargs y len W9 (PreOf R mc ms Pc) (PostOf Qc mc ms free) (vx_Post XC mc ms free) := by
  intro m meth c A g ig mk a X hg hsize hdg hW hn hp
  have h1 : (headSpec ws rm).pre.before a A.U = true := atoms_intro fun w hw => hws w hw _ _ X.warmed
  have h2 : (Cond.codeWith y bytes maxL ret hh).before a A.U = true := hws _ hcode _ _ X.warmed
  have h3 : (Cond.initialized y.cls).before a A.U = true := hinit _ _ X.warmed
  have h4 : A.cells + (headSpec ws rm).room.cells ≤ R.cells := by rw [show (headSpec ws rm).room.cells = mc from hrc]; exact hp.1
  have h5 : A.slots + (headSpec ws rm).room.slots ≤ R.slots := by rw [show (headSpec ws rm).room.slots = ms from hrs]; exact hp.2.1
  have hPc : Pc a (A.U.calling g mk a) := hblind _ _ _ _ hp.2.2
  obtain ⟨U, Ls, c0, s0⟩ := A
  dsimp only [Pt.U, Pt.locs, Pt.cells, Pt.slots] at h1 h2 h3 h4 h5 X hn hPc ⊢
  obtain ⟨m9, methY, cY, hn9, hmY, hcY, -, hlY, -⟩ := Cond.codeWith_spec h2
  cases Option.some.inj (hn9.symm.trans hn)
  obtain ⟨kY, hkY, -⟩ := className_of_methodNamed hn
  have hinitY : kY.init = .initialized := Cond.initialized_spec (findClass_of_methodNamed hn) hkY h3
  have h : At U g.method c below := by rw [hg]; exact X.here
  have hlocals9 : W9 + (maxL + 11) + (headSpec ws rm).room.locals ≤ R.locals := hlocals
  have happ : (headSpec ws rm).appliesLoose y e.platform (U.calling g mk a) = true :=
    Spec.appliesLoose_calling (g := g) h hdg hn hkY hinitY
      (X.room_calling (g := g) (R' := (headSpec ws rm).room) hsize hmY hcY hframes (by rw [hlY]; omega) h4 h5) h1
  obtain ⟨mid, hmid⟩ := h.above
  have hfr : (U.setTop g).frames = (.java g :: mid) ++ below := by rw [State.frames_setTop' g h.top, hmid]; rfl
  obtain ⟨o, s₂, hsteps, -, hend, hq⟩ := Steps.callFree hM p X.admits X.cas X.clock (acts := []) hfr happ hPc trivial
  have hq' : vx_Q Qc XC mc ms free a (U.calling g mk a) o s₂ := hq
  rw [State.frames_setTop' g h.top] at hend
  obtain ⟨g₀, hg0⟩ := Option.isSome_iff_exists.mp h.top
  obtain ⟨r, hr⟩ := State.topJava?_eq_some.mp hg0
  have hr' : (({ U with heap := s₂.heap, slotsUsed := s₂.slotsUsed } : State).setVm s₂.vm).frames = .java g₀ :: r := hr
  rcases hq' with ⟨hqc, L, hfe, hL⟩ | ⟨q, rfl, E, ce, L, hx, hce, hcv, hcl, hW₂, hsm, hL⟩
  · obtain ⟨⟨v, rfl⟩, hW₂, e2, q2, q3, q4, q5, q6⟩ := id hfe
    have e3 : s₂ = ({ (U.calling g mk a).setFrames s₂.frames with heap := s₂.heap, slotsUsed := s₂.slotsUsed } : State).setVm s₂.vm := by
      have : s₂ = ({ s₂ with vm := (U.calling g mk a).vm } : State).setVm s₂.vm := rfl
      rw [e2] at this
      exact this
    obtain ⟨c₂, i₂, len₂, hc₂, hd₂, hf₂⟩ := hend
    have hW' : U.WarmedH s₂.vm := hW₂
    have hcc : c₂ = c := by
      have h1 : s₂.code? g.method = U.code? g.method := by
        rw [State.code?_eq, State.code?_eq, hW'.alike.method?]
      exact Option.some.inj (hc₂.symm.trans (h1.trans h.code))
    subst hcc
    have hlen : len₂ = len := by rw [hdg] at hd₂; cases hd₂; rfl
    subst hlen
    have hs₂ : s₂ = (({ U with heap := s₂.heap, slotsUsed := s₂.slotsUsed } : State).setVm s₂.vm).setTop { g with pc := g.pc + len₂, stack := v.toList ++ g.stack } := by
      refine e3.trans ?_
      rw [hf₂, State.calling_eq h.top, State.setFrames_setFrames, State.setTop_of_frames _ hr', hr]
      rfl
    have hsame : U.sameButNew ({ U with heap := s₂.heap, slotsUsed := s₂.slotsUsed } : State) L mc ms := by
      refine ⟨?_, q2, q3, q4, q5, q6⟩
      obtain ⟨t, ht, -⟩ := State.frames_cons hr
      show ({ U with heap := s₂.heap, slotsUsed := s₂.slotsUsed } : State) = { U.setFrames U.frames with heap := s₂.heap, slotsUsed := s₂.slotsUsed }
      rw [State.setFrames_self ht]
    subst hg
    refine Or.inl ⟨v, ⟨(({ U with heap := s₂.heap, slotsUsed := s₂.slotsUsed } : State).setVm s₂.vm), Ls ++ L, c0 + mc, s0 + ms⟩,
      ⟨X.admits, X.cas, X.clock, X.frames, X.room, X.hears, X.method, X.code, (X.here.setHeapUsed s₂.heap s₂.slotsUsed).setVm hW'.alike, X.tail, State.WarmedH.trans X.warmed hW', X.limits, X.bytes, X.same.trans (hsame.setVm s.vm)⟩,
      ⟨g, mk, s₂, L, rfl, rfl, hqc, rfl, hL, rfl, rfl⟩, ?_⟩
    show Steps p.tables e below _ ((({ U with heap := s₂.heap, slotsUsed := s₂.slotsUsed } : State).setVm s₂.vm).setTop { g with pc := g.pc + len₂, stack := v.toList ++ g.stack })
    rw [← hs₂]
    exact hsteps
  · obtain ⟨e2, q2, q3, q4, q5, q6⟩ := id hsm
    have e3 : s₂ = ({ (U.calling g mk a).setFrames s₂.frames with heap := s₂.heap, slotsUsed := s₂.slotsUsed } : State).setVm s₂.vm := by
      have : s₂ = ({ s₂ with vm := (U.calling g mk a).vm } : State).setVm s₂.vm := rfl
      rw [e2] at this
      exact this
    have hf₂ : s₂.frames = .throwing q :: .java g :: U.frames.tail := hend
    have hW' : U.WarmedH s₂.vm := hW₂
    have hs₂ : s₂ = ((({ U with heap := s₂.heap, slotsUsed := s₂.slotsUsed } : State).setVm s₂.vm).setTop g).pushFrame (.throwing q) := by
      refine e3.trans ?_
      rw [hf₂, State.calling_eq h.top, State.setFrames_setFrames, State.pushFrame, State.frames_setTop _ hr', State.setTop_of_frames _ hr', State.setFrames_setFrames, hr]
      rfl
    have hsame : U.sameButNew ({ U with heap := s₂.heap, slotsUsed := s₂.slotsUsed } : State) L mc ms := by
      refine ⟨?_, q2, q3, q4, q5, q6⟩
      obtain ⟨t, ht, -⟩ := State.frames_cons hr
      show ({ U with heap := s₂.heap, slotsUsed := s₂.slotsUsed } : State) = { U.setFrames U.frames with heap := s₂.heap, slotsUsed := s₂.slotsUsed }
      rw [State.setFrames_self ht]
    subst hg
    refine Or.inr ⟨q, ⟨(({ U with heap := s₂.heap, slotsUsed := s₂.slotsUsed } : State).setVm s₂.vm), Ls ++ L, c0 + mc, s0 + ms⟩,
      ⟨X.admits, X.cas, X.clock, X.frames, X.room, X.hears, X.method, X.code, (X.here.setHeapUsed s₂.heap s₂.slotsUsed).setVm hW'.alike, X.tail, State.WarmedH.trans X.warmed hW', X.limits, X.bytes, X.same.trans (hsame.setVm s.vm)⟩,
      ⟨g, mk, s₂, L, E, ce, rfl, rfl, hx, hce, hcv, hcl, rfl, hL, rfl, rfl⟩, ?_⟩
    show Steps p.tables e below _ (((({ U with heap := s₂.heap, slotsUsed := s₂.slotsUsed } : State).setVm s₂.vm).setTop g).pushFrame (.throwing q))
    rw [← hs₂]
    exact hsteps
end
variable {p : Program} {l : Launch} {e : Env} {R : Room} {s : State} {m : MethodId} {args : Array Value} {below : List Frame} {meth : Method} {c : Code} {T : State} {H : Heap} {locs : List Loc} {cells slots : Nat}
theorem vx_callVX (X : Stand p l e R s m args below meth c T locs cells slots) (hexec : p.tables.exec = Jvm.exec) {own C : String} {index : Nat} {y : MethodName} {bytes : ByteArray} {maxL : Nat} {ret : Option FieldType} {hh : List (Nat × Nat × Nat × Nat)}
    (hown : s.vm.findClass own = some m.cls) (hlink : (Cond.methodLink own index y).before args s = true) (hinst : (Cond.instanceMethod y).before args s = true) (hsel : (Cond.selects C y y).before args s = true)
    (hcode : (Cond.codeWith y bytes maxL ret hh).before args s = true) (hy : y.cls ≠ "java/lang/invoke/MethodHandle" ∧ y.cls ≠ "java/lang/invoke/VarHandle")
    {W9 : Nat} {Pre : Pt → Array Value → Prop} {Post : Pt → Array Value → Option Value → Pt → Prop} {PostX : Pt → Array Value → Addr → Pt → Prop} (hK : vx_Back l R p e below s args y 3 W9 Pre Post PostX)
    {b : Addr} {cellB : Cell} (hcell : T.heap[b]? = some cellB) (hobj : cellB.vm.isStatics = false) (hcls : s.vm.findClass C = some cellB.cls)
    {g : JFrame} (hg : g.method = m) (hsize : g.locals.size = c.maxLocals) {argsL rest : List Value} (hlen : ∀ sig, parseMethodDescriptor y.desc = some sig → argsL.length = sig.parameters.length)
    (hstack : g.stack = argsL.reverse ++ .ref b :: rest) (hW : 2 * g.monitorRoom + (rest.map fun v => v.category).sum ≤ W9) (hdg : decode c.code g.pc = .ok (.invokevirtual index, 3))
    (hpre : ∀ vm₁, s.WarmedH vm₁ → Pre ⟨T.setVm vm₁, locs, cells, slots⟩ (Value.ref b :: argsL).toArray) :
    (∃ (v : Option Value) (vm₁ : Vm) (B : Pt), s.WarmedH vm₁ ∧ Stand p l e R s m args below meth c B.U B.locs B.cells B.slots ∧ Post ⟨T.setVm vm₁, locs, cells, slots⟩ (Value.ref b :: argsL).toArray v B ∧
      ∀ target, Steps p.tables e below (B.U.setTop { g with pc := g.pc + 3, stack := v.toList ++ rest }) target → Steps p.tables e below (T.setTop g) target) ∨
    (∃ (q : Addr) (vm₁ : Vm) (B : Pt), s.WarmedH vm₁ ∧ Stand p l e R s m args below meth c B.U B.locs B.cells B.slots ∧ PostX ⟨T.setVm vm₁, locs, cells, slots⟩ (Value.ref b :: argsL).toArray q B ∧
      Steps p.tables e below (T.setTop g) ((B.U.setTop { g with stack := rest }).pushFrame (.throwing q))) := by
  obtain ⟨mk, methM, hnamed, hmethM, hstM, habM⟩ := Cond.instanceMethod_spec hinst
  obtain ⟨m8, methM', cM, hn8, hmethM', -, -, -, -, -, -, hsigM⟩ := Cond.codeWith_spec hcode
  cases Option.some.inj (hn8.symm.trans hnamed)
  cases hmethM.symm.trans hmethM'
  obtain ⟨c2, r2, m2, q1, q2, q3, q4, kP, hkP, hkPi⟩ := Cond.selects_spec hsel
  cases hcls.symm.trans q1
  cases (State.methodFound?_of_named hnamed hy).symm.trans q2
  cases hnamed.symm.trans q3
  have hselP : selectMethod e.platform s.vm cellB.cls mk = .method mk := by rw [Launch.admits_selectMethod X.admits]; exact q4
  obtain ⟨vm₁, X₁, hstep₁⟩ := X.invokevirtual hexec hown hlink hnamed hmethM hstM hkP hkPi hy (a := b) (cell := cellB) hcell
    (fun z h => by rw [h] at hobj; cases hobj) hselP hmethM habM hkP hkPi (g := g) hg (argsL := argsL) (rest := rest) (hlen _ hsigM) hstack hdg
  rcases hK m meth c ⟨T.setVm vm₁, locs, cells, slots⟩ { g with stack := rest } (.invokevirtual index) mk (Value.ref b :: argsL).toArray X₁ hg hsize hdg hW (X₁.named hnamed) (hpre vm₁ X₁.warmed) with ⟨v, B, X', hpost, hsteps⟩ | ⟨q, B, X', hpost, hsteps⟩
  · exact Or.inl ⟨v, vm₁, B, X₁.warmed, X', hpost, fun target h => hstep₁ _ fun acts => by rw [doInvoke_state]; exact hsteps.trans h⟩
  · exact Or.inr ⟨q, vm₁, B, X₁.warmed, X', hpost, hstep₁ _ fun acts => by rw [doInvoke_state]; exact hsteps⟩
theorem vx_callSX (X : Stand p l e R s m args below meth c T locs cells slots) (hexec : p.tables.exec = Jvm.exec) {own : String} {index : Nat} {y : MethodName} {bytes : ByteArray} {maxL : Nat} {ret : Option FieldType} {hh : List (Nat × Nat × Nat × Nat)}
    (hown : s.vm.findClass own = some m.cls) (hlink : (Cond.methodLink own index y).before args s = true) (hstat : (Cond.static y).before args s = true) (hinit : (Cond.initialized y.cls).before args s = true)
    (hcode : (Cond.codeWith y bytes maxL ret hh).before args s = true) (hy : y.cls ≠ "java/lang/invoke/MethodHandle" ∧ y.cls ≠ "java/lang/invoke/VarHandle")
    {W9 : Nat} {Pre : Pt → Array Value → Prop} {Post : Pt → Array Value → Option Value → Pt → Prop} {PostX : Pt → Array Value → Addr → Pt → Prop} (hK : vx_Back l R p e below s args y 3 W9 Pre Post PostX)
    {g : JFrame} (hg : g.method = m) (hsize : g.locals.size = c.maxLocals) {argsL rest : List Value} (hlen : ∀ sig, parseMethodDescriptor y.desc = some sig → argsL.length = sig.parameters.length)
    (hstack : g.stack = argsL.reverse ++ rest) (hW : 2 * g.monitorRoom + (rest.map fun v => v.category).sum ≤ W9) (hdg : decode c.code g.pc = .ok (.invokestatic index, 3))
    (hpre : ∀ vm₁, s.WarmedH vm₁ → Pre ⟨T.setVm vm₁, locs, cells, slots⟩ argsL.toArray) :
    (∃ (v : Option Value) (vm₁ : Vm) (B : Pt), s.WarmedH vm₁ ∧ Stand p l e R s m args below meth c B.U B.locs B.cells B.slots ∧ Post ⟨T.setVm vm₁, locs, cells, slots⟩ argsL.toArray v B ∧
      ∀ target, Steps p.tables e below (B.U.setTop { g with pc := g.pc + 3, stack := v.toList ++ rest }) target → Steps p.tables e below (T.setTop g) target) ∨
    (∃ (q : Addr) (vm₁ : Vm) (B : Pt), s.WarmedH vm₁ ∧ Stand p l e R s m args below meth c B.U B.locs B.cells B.slots ∧ PostX ⟨T.setVm vm₁, locs, cells, slots⟩ argsL.toArray q B ∧
      Steps p.tables e below (T.setTop g) ((B.U.setTop { g with stack := rest }).pushFrame (.throwing q))) := by
  obtain ⟨mk, methM, cM, hnamed, hmethM, -, -, -, -, -, -, hsigM⟩ := Cond.codeWith_spec hcode
  have hstatic : methM.isStatic = true := Cond.static_spec hnamed hmethM hstat
  obtain ⟨kP, hkP, -⟩ := className_of_methodNamed hnamed
  have hinitP : kP.init = .initialized := Cond.initialized_spec (findClass_of_methodNamed hnamed) hkP hinit
  obtain ⟨vm₁, X₁, hstep₁⟩ := X.invokestatic hexec hown hlink hnamed hmethM hstatic hkP hinitP hy (g := g) hg (argsL := argsL) (rest := rest) (hlen _ hsigM) hstack hdg
  rcases hK m meth c ⟨T.setVm vm₁, locs, cells, slots⟩ { g with stack := rest } (.invokestatic index) mk argsL.toArray X₁ hg hsize hdg hW (X₁.named hnamed) (hpre vm₁ X₁.warmed) with ⟨v, B, X', hpost, hsteps⟩ | ⟨q, B, X', hpost, hsteps⟩
  · exact Or.inl ⟨v, vm₁, B, X₁.warmed, X', hpost, fun target h => hstep₁ _ fun acts => by rw [doInvoke_state]; exact hsteps.trans h⟩
  · exact Or.inr ⟨q, vm₁, B, X₁.warmed, X', hpost, hstep₁ _ fun acts => by rw [doInvoke_state]; exact hsteps⟩
theorem vx_callVW (X : Stand p l e R s m args below meth c T locs cells slots) (hexec : p.tables.exec = Jvm.exec) {own C : String} {index : Nat} {y : MethodName} {bytes : ByteArray} {maxL : Nat} {ret : Option FieldType} {hh : List (Nat × Nat × Nat × Nat)}
    (hown : s.vm.findClass own = some m.cls) (hlink : (Cond.methodLink own index y).before args s = true) (hinst : (Cond.instanceMethod y).before args s = true) (hsel : (Cond.selects C y y).before args s = true)
    (hcode : (Cond.codeWith y bytes maxL ret hh).before args s = true) (hy : y.cls ≠ "java/lang/invoke/MethodHandle" ∧ y.cls ≠ "java/lang/invoke/VarHandle")
    {W9 : Nat} {Pre : Pt → Array Value → Prop} {Post : Pt → Array Value → Option Value → Pt → Prop} (hK : Back l R p e below s args y 3 W9 Pre Post)
    {b : Addr} {cellB : Cell} (hcell : T.heap[b]? = some cellB) (hobj : cellB.vm.isStatics = false) (hcls : s.vm.findClass C = some cellB.cls)
    {g : JFrame} (hg : g.method = m) (hsize : g.locals.size = c.maxLocals) {argsL rest : List Value} (hlen : ∀ sig, parseMethodDescriptor y.desc = some sig → argsL.length = sig.parameters.length)
    (hstack : g.stack = argsL.reverse ++ .ref b :: rest) (hW : 2 * g.monitorRoom + (rest.map fun v => v.category).sum ≤ W9) (hdg : decode c.code g.pc = .ok (.invokevirtual index, 3))
    (hpre : ∀ vm₁, s.WarmedH vm₁ → Pre ⟨T.setVm vm₁, locs, cells, slots⟩ (Value.ref b :: argsL).toArray) :
    ∃ (v : Option Value) (vm₁ : Vm) (B : Pt), s.WarmedH vm₁ ∧ Stand p l e R s m args below meth c B.U B.locs B.cells B.slots ∧ Post ⟨T.setVm vm₁, locs, cells, slots⟩ (Value.ref b :: argsL).toArray v B ∧
      ∀ target, Steps p.tables e below (B.U.setTop { g with pc := g.pc + 3, stack := v.toList ++ rest }) target → Steps p.tables e below (T.setTop g) target := by
  obtain ⟨mk, methM, hnamed, hmethM, hstM, habM⟩ := Cond.instanceMethod_spec hinst
  obtain ⟨m8, methM', cM, hn8, hmethM', -, -, -, -, -, -, hsigM⟩ := Cond.codeWith_spec hcode
  cases Option.some.inj (hn8.symm.trans hnamed)
  cases hmethM.symm.trans hmethM'
  obtain ⟨c2, r2, m2, q1, q2, q3, q4, kP, hkP, hkPi⟩ := Cond.selects_spec hsel
  cases hcls.symm.trans q1
  cases (State.methodFound?_of_named hnamed hy).symm.trans q2
  cases hnamed.symm.trans q3
  have hselP : selectMethod e.platform s.vm cellB.cls mk = .method mk := by rw [Launch.admits_selectMethod X.admits]; exact q4
  obtain ⟨vm₁, X₁, hstep₁⟩ := X.invokevirtual hexec hown hlink hnamed hmethM hstM hkP hkPi hy (a := b) (cell := cellB) hcell
    (fun z h => by rw [h] at hobj; cases hobj) hselP hmethM habM hkP hkPi (g := g) hg (argsL := argsL) (rest := rest) (hlen _ hsigM) hstack hdg
  obtain ⟨v, B, X', hpost, hsteps⟩ := hK m meth c ⟨T.setVm vm₁, locs, cells, slots⟩ { g with stack := rest } (.invokevirtual index) mk (Value.ref b :: argsL).toArray X₁ hg hsize hdg hW (X₁.named hnamed) (hpre vm₁ X₁.warmed)
  exact ⟨v, vm₁, B, X₁.warmed, X', hpost, fun target h => hstep₁ _ fun acts => by rw [doInvoke_state]; exact hsteps.trans h⟩
abbrev vx_CVW (R : Room) (s : State) (args : Array Value) (own C : String) (index : Nat) (y : MethodName) (bytes : ByteArray) (maxL : Nat) (ret : Option FieldType) (hh : List (Nat × Nat × Nat × Nat)) (ws : List Cond) (rm : Room) (mc ms n : Nat) : Prop :=
  (rm.cells = mc ∧ rm.slots = ms ∧ rm.frames + 1 ≤ R.frames ∧ 8 + (maxL + 11) + rm.locals ≤ R.locals ∧ (∀ w ∈ ws, ∀ (a' : Array Value) (U : State), s.WarmedH U.vm → w.before a' U = true) ∧ Cond.codeWith y bytes maxL ret hh ∈ ws) ∧
  (Cond.codeWith y bytes maxL ret hh).before args s = true ∧ (Cond.initialized y.cls).before args s = true ∧ (y.cls ≠ "java/lang/invoke/MethodHandle" ∧ y.cls ≠ "java/lang/invoke/VarHandle") ∧
  (∀ sig, parseMethodDescriptor y.desc = some sig → n = sig.parameters.length) ∧ (Cond.methodLink own index y).before args s = true ∧ (Cond.instanceMethod y).before args s = true ∧ (Cond.selects C y y).before args s = true
theorem vx_cwVW {own C : String} {index maxL mc ms : Nat} {y : MethodName} {bytes : ByteArray} {ret : Option FieldType} {hh : List (Nat × Nat × Nat × Nat)} {Ts ws ws' : List Cond} {rm : Room} (n : Nat) (ht : ∀ w ∈ Ts, w.before args s = true) (hT : GoodIn Ts (wsV own index C y ws)) (hw : ws = Cond.codeWith y bytes maxL ret hh :: ws') (hrc : rm.cells = mc) (hrs : rm.slots = ms)
    (hd : y.cls = C ∧ y.cls ≠ "java/lang/invoke/MethodHandle" ∧ y.cls ≠ "java/lang/invoke/VarHandle" ∧ (parseMethodDescriptor y.desc).map (fun d => d.parameters.length) = some n) (hR : rm.frames + 1 ≤ R.frames ∧ 8 + (maxL + 11) + rm.locals ≤ R.locals) :
    vx_CVW R s args own C index y bytes maxL ret hh ws rm mc ms n := by
  obtain ⟨hC, hd⟩ := hd
  subst hC
  have ok : ∀ w ∈ wsV own index y.cls y ws, w.before args s = true := fun w h => ht w (hT w h).1
  have hG : GoodIn Ts ws := fun w h => hT w (by unfold wsV; exact List.mem_append_right _ h)
  have hc : Cond.codeWith y bytes maxL ret hh ∈ ws := by rw [hw]; exact List.mem_cons_self
  refine ⟨⟨hrc, hrs, hR.1, hR.2, pay_in ht hG, hc⟩, ht _ (hG _ hc).1, ok _ (by simp [wsV]), ⟨hd.1, hd.2.1⟩, fun sig h => ?_, ok _ (by simp [wsV]), ok _ (by simp [wsV]), ok _ (by simp [wsV])⟩
  have h2 := hd.2.2
  rw [h] at h2
  exact (Option.some.inj h2).symm
theorem vx_runVW {y : MethodName} {bytes cc : ByteArray} {maxL nL mc ms n index : Nat} {ret : Option FieldType} {hh : List (Nat × Nat × Nat × Nat)} {ws : List Cond} {rm : Room} {Pc : Array Value → State → Prop} {Qc : Array Value → State → Outcome → State → Prop} {free : Addr → Prop} {Ts : List Cond} {own C : String} {b : Addr} {As rest : List Value} {g : JFrame}
    (S : CallFix p m c cc nL s args Ts own) (hM : Met l y ws rm Pc Qc mc ms free) (cw : vx_CVW R s args own C index y bytes maxL ret hh ws rm mc ms n) (hp : PreV s H C b Pc As)
    (hg : g.method = m) (hn : As.length = n) (hsize : g.locals.size = nL) (hstack : g.stack = As.reverse ++ .ref b :: rest) (hW : 2 * g.monitorRoom + (rest.map fun v => v.category).sum ≤ 8) (hdg : decode cc g.pc = .ok (.invokevirtual index, 3)) (hf : cells + mc ≤ R.cells ∧ slots + ms ≤ R.slots) :
    va_Run p l e R s m args below meth c H locs cells slots mc ms g rest (Qc (Value.ref b :: As).toArray) free := by
  obtain ⟨⟨hrc, hrs, hfr, hlo, hws, hcw⟩, hcode, hini, hy, hlen, hl, hin, hse⟩ := cw
  have hK : Back l R p e below s args y 3 8 (PreOf R mc ms Pc) (PostOf Qc mc ms free) := va_backW (hh := hh) (bytes := bytes) (maxL := maxL) (ret := ret) hM hp.1 hrc hrs hfr hlo hws hcw (fun a' U hW => word_at hW (Or.inl (by first | rfl | simp [Cond.onTables, Cond.keeps, Cond.steady])) hini)
  obtain ⟨hx, hb, hml, ho, -⟩ := S
  obtain ⟨-, ⟨cellB, hcB, hoB, hclB⟩, hPc⟩ := hp
  intro T hT X
  obtain ⟨v, vm₁, ⟨U', l2, c2, s2⟩, hW₁, X', ⟨g', mk, t, L, e1, e2, hq, h1, hL, h2, h3⟩, st⟩ := vx_callVW X hx (C := C) (hh := hh) (bytes := bytes) (maxL := maxL) (ret := ret) ho hl hin hse hcode hy hK (by rw [hT]; exact hcB) hoB hclB hg (hsize.trans hml.symm) (argsL := As) (rest := rest) (fun sig h => hn.trans (hlen sig h)) hstack hW (by rw [hb]; exact hdg)
    (fun vm₁ hW₁ => ⟨hf.1, hf.2, hPc (T.setVm vm₁) hT hW₁⟩)
  dsimp only [Pt.U, Pt.locs, Pt.cells, Pt.slots] at X' e1 e2 h1 h2 h3 st
  subst h1; subst h2; subst h3
  exact ⟨v, (T.setVm vm₁).calling g' mk (Value.ref b :: As).toArray, t, U', L, hT, X', hL, e1, e2, hq, st⟩
section
variable {y : MethodName} {bytes cc : ByteArray} {maxL nL mc ms n index : Nat} {ret : Option FieldType} {ws : List Cond} {rm : Room} {Pc : Array Value → State → Prop} {Qc : Array Value → State → Outcome → State → Prop} {XC : String → State → State → Prop} {free : Addr → Prop} {Ts : List Cond} {own C : String} {b : Addr} {As rest : List Value} {g : JFrame}
theorem vx_runVX {hh : List (Nat × Nat × Nat × Nat)} (S : CallFix p m c cc nL s args Ts own) (hM : vx_Met l y ws rm Pc Qc XC mc ms free) (cw : vx_CVW R s args own C index y bytes maxL ret hh ws rm mc ms n) (hp : PreV s H C b Pc As)
    (hg : g.method = m) (hn : As.length = n) (hsize : g.locals.size = nL) (hstack : g.stack = As.reverse ++ .ref b :: rest) (hW : 2 * g.monitorRoom + (rest.map fun v => v.category).sum ≤ 8) (hdg : decode cc g.pc = .ok (.invokevirtual index, 3)) (hf : cells + mc ≤ R.cells ∧ slots + ms ≤ R.slots) :
    vx_Run p l e R s m args below meth c H locs cells slots mc ms g rest (Qc (Value.ref b :: As).toArray) XC free := by
  obtain ⟨⟨hrc, hrs, hfr, hlo, hws, hcw⟩, hcode, hini, hy, hlen, hl, hin, hse⟩ := cw
  have hK : vx_Back l R p e below s args y 3 8 (PreOf R mc ms Pc) (PostOf Qc mc ms free) (vx_Post XC mc ms free) := vx_backW (hh := hh) (bytes := bytes) (maxL := maxL) (ret := ret) hM hp.1 hrc hrs hfr hlo hws hcw (fun a' U hW => word_at hW (Or.inl (by first | rfl | simp [Cond.onTables, Cond.keeps, Cond.steady])) hini)
  obtain ⟨hx, hb, hml, ho, -⟩ := S
  obtain ⟨-, ⟨cellB, hcB, hoB, hclB⟩, hPc⟩ := hp
  intro T hT X
  rcases vx_callVX X hx (C := C) (hh := hh) (bytes := bytes) (maxL := maxL) (ret := ret) ho hl hin hse hcode hy hK (by rw [hT]; exact hcB) hoB hclB hg (hsize.trans hml.symm) (argsL := As) (rest := rest) (fun sig h => hn.trans (hlen sig h)) hstack hW (by rw [hb]; exact hdg)
    (fun vm₁ hW₁ => ⟨hf.1, hf.2, hPc (T.setVm vm₁) hT hW₁⟩) with ⟨v, vm₁, ⟨U', l2, c2, s2⟩, hW₁, X', ⟨g', mk, t, L, e1, e2, hq, h1, hL, h2, h3⟩, st⟩ | ⟨q, vm₁, ⟨U', l2, c2, s2⟩, hW₁, X', ⟨g', mk, t, L, E, ce, e1, e2, hq, hce, hcv, hcl, h1, hL, h2, h3⟩, st⟩
  · dsimp only [Pt.U, Pt.locs, Pt.cells, Pt.slots] at X' e1 e2 h1 h2 h3 st
    subst h1; subst h2; subst h3
    exact Or.inl ⟨v, (T.setVm vm₁).calling g' mk (Value.ref b :: As).toArray, t, U', L, hT, X', hL, e1, e2, hq, st⟩
  · dsimp only [Pt.U, Pt.locs, Pt.cells, Pt.slots] at X' e1 e2 h1 h2 h3 st hcl
    subst h1; subst h2; subst h3
    exact Or.inr ⟨q, (T.setVm vm₁).calling g' mk (Value.ref b :: As).toArray, t, U', L, E, ce, hT, X', hL, e1, e2, hq, hce, hcv, vx_cls hW₁ hcl, st⟩
theorem vx_runSX {hh : List (Nat × Nat × Nat × Nat)} (S : CallFix p m c cc nL s args Ts own) (hM : vx_Met l y ws rm Pc Qc XC mc ms free) (cw : vx_CSW R s args own index y bytes maxL ret hh ws rm mc ms n) (hp : PreS s H Pc As)
    (hg : g.method = m) (hn : As.length = n) (hsize : g.locals.size = nL) (hstack : g.stack = As.reverse ++ rest) (hW : 2 * g.monitorRoom + (rest.map fun v => v.category).sum ≤ 8) (hdg : decode cc g.pc = .ok (.invokestatic index, 3)) (hf : cells + mc ≤ R.cells ∧ slots + ms ≤ R.slots) :
    vx_Run p l e R s m args below meth c H locs cells slots mc ms g rest (Qc As.toArray) XC free := by
  obtain ⟨⟨hrc, hrs, hfr, hlo, hws, hcw⟩, hcode, hini, hy, hlen, hl, hstt⟩ := cw
  have hK : vx_Back l R p e below s args y 3 8 (PreOf R mc ms Pc) (PostOf Qc mc ms free) (vx_Post XC mc ms free) := vx_backW (hh := hh) (bytes := bytes) (maxL := maxL) (ret := ret) hM hp.1 hrc hrs hfr hlo hws hcw (fun a' U hW => word_at hW (Or.inl (by first | rfl | simp [Cond.onTables, Cond.keeps, Cond.steady])) hini)
  obtain ⟨hx, hb, hml, ho, -⟩ := S
  intro T hT X
  rcases vx_callSX X hx (hh := hh) (bytes := bytes) (maxL := maxL) (ret := ret) ho hl hstt hini hcode hy hK hg (hsize.trans hml.symm) (argsL := As) (rest := rest) (fun sig h => hn.trans (hlen sig h)) hstack hW (by rw [hb]; exact hdg)
    (fun vm₁ hW₁ => ⟨hf.1, hf.2, hp.2 (T.setVm vm₁) hT hW₁⟩) with ⟨v, vm₁, ⟨U', l2, c2, s2⟩, hW₁, X', ⟨g', mk, t, L, e1, e2, hq, h1, hL, h2, h3⟩, st⟩ | ⟨q, vm₁, ⟨U', l2, c2, s2⟩, hW₁, X', ⟨g', mk, t, L, E, ce, e1, e2, hq, hce, hcv, hcl, h1, hL, h2, h3⟩, st⟩
  · dsimp only [Pt.U, Pt.locs, Pt.cells, Pt.slots] at X' e1 e2 h1 h2 h3 st
    subst h1; subst h2; subst h3
    exact Or.inl ⟨v, (T.setVm vm₁).calling g' mk As.toArray, t, U', L, hT, X', hL, e1, e2, hq, st⟩
  · dsimp only [Pt.U, Pt.locs, Pt.cells, Pt.slots] at X' e1 e2 h1 h2 h3 st hcl
    subst h1; subst h2; subst h3
    exact Or.inr ⟨q, (T.setVm vm₁).calling g' mk As.toArray, t, U', L, E, ce, hT, X', hL, e1, e2, hq, hce, hcv, vx_cls hW₁ hcl, st⟩
end
end VXH
theorem vx_ofWH {l : Launch} {y : MethodName} {ws ws' : List Cond} {rm : Room} {Pc : Array Value → State → Prop} {Qc : Array Value → State → Outcome → State → Prop} {XC : String → State → State → Prop} {mc ms : Nat} {free : Addr → Prop} {cc : ByteArray} {maxL : Nat} {ret : Option FieldType} {hh : List (Nat × Nat × Nat × Nat)}
    (hy : plainName y.cls = true) (hw : ws = Cond.codeWith y cc maxL ret hh :: ws')
    (body : ∀ p e s m args below meth c s₁, BodyLoose p l y (headSpec ws rm) cc maxL ret e s m args below meth c s₁ → c.maxLocals = maxL → Pc args s →
      W p l e (headSpec ws rm).room s m args below meth c s.heap [] 0 0 (vx_MQ below Qc XC args s mc ms free) (entryFrame m args maxL)) : vx_Met l y ws rm Pc Qc XC mc ms free := by
  refine MetFree.of_bodyS (code := cc) (maxLocals := maxL) (ret := ret) hy ?_ ?_
  · intro args s m h hn
    obtain ⟨m9, meth, c, hn9, h1, h2, h3, h4, -, h5, h6, -⟩ := Cond.codeWith_spec (atoms_spec (ws := ws) h _ (by rw [hw]; exact List.mem_cons_self))
    cases hn.symm.trans hn9
    exact ⟨meth, c, h1, h2, h3, h4, h5, h6⟩
  · intro p e s m args below meth c s₁ B hml hP _
    have hh0 : s₁.heap = s.heap := by rw [B.state]; rfl
    obtain ⟨t, a1, o, b1, b2, b3⟩ := body p e s m args below meth c s₁ B hml hP s₁ hh0 (Stand.of_body B)
    exact ⟨t, o, a1, b1, b2, b3⟩
/-! ===== END ===== -/

/-! ===== BEGIN printed: names, fields, word lists, decode rows ===== -/
def RX0 : String := "ShapeReader$Matcher"
def TX0 : u_T := fun k => match k with
  | 0 => ("ShapeReader$Matcher", "shapes", "LShapeReader$Shapes;", true)
  | 1 => ("ShapeReader$Matcher", "relations", "[J", true)
  | 2 => ("ShapeReader$Matcher", "related", "J", false)
  | 3 => ("ShapeReader$Matcher", "verdicts", "[I", true)
  | 4 => ("ShapeReader$Matcher", "relation", "J", false)
  | 5 => ("ShapeReader$Matcher", "missPair", "I", false)
  | 6 => ("ShapeReader$Matcher", "missCount", "I", false)
  | 7 => ("ShapeReader$Matcher", "missKinds", "[I", true)
  | 8 => ("ShapeReader$Matcher", "missSizes", "[I", true)
  | 9 => ("ShapeReader$Matcher", "missPaths", "[I", true)
  | 10 => ("ShapeReader$Matcher", "path", "[I", true)
  | 11 => ("ShapeReader$Matcher", "steps", "I", false)
  | _ => ("ShapeReader$Matcher", "seen", "J", false)
def tyX0 : Nat → FieldType := fun k => match k with
  | 0 => .object "ShapeReader$Shapes"
  | 1 => .array .long
  | 2 => .long
  | 3 => .array .int
  | 4 => .long
  | 5 => .int
  | 6 => .int
  | 7 => .array .int
  | 8 => .array .int
  | 9 => .array .int
  | 10 => .array .int
  | 11 => .int
  | _ => .long
abbrev wsX00 : List Cond := u_ws RX0 TX0 13
theorem nmX0 : ∀ a, a < 13 → ∀ b, b < 13 → a ≠ b → (TX0 a).2.1 ≠ (TX0 b).2.1 := by decide +kernel
theorem tyX0_ok : ∀ k, k < 13 → parseFieldDescriptor (TX0 k).2.2.1 = some (tyX0 k) := by decide +kernel
abbrev cX0_init : ByteArray := prog_2_method_1_code
def yX0_init : MethodName := ⟨RX0, "<init>", "(LShapeReader$Shapes;)V"⟩
abbrev cX0_clear : ByteArray := prog_2_method_2_code
def yX0_clear : MethodName := ⟨RX0, "clear", "()V"⟩
abbrev cX0_pairOf : ByteArray := prog_2_method_3_code
def yX0_pairOf : MethodName := ⟨RX0, "pairOf", "(II)I"⟩
abbrev cX0_bitOf : ByteArray := prog_2_method_4_code
def yX0_bitOf : MethodName := ⟨RX0, "bitOf", "(II)J"⟩
abbrev cX0_turnTo : ByteArray := prog_2_method_5_code
def yX0_turnTo : MethodName := ⟨RX0, "turnTo", "(II)V"⟩
abbrev cX0_relate : ByteArray := prog_2_method_6_code
def yX0_relate : MethodName := ⟨RX0, "relate", "(II)V"⟩
abbrev cX0_mayPair : ByteArray := prog_2_method_7_code
def yX0_mayPair : MethodName := ⟨RX0, "mayPair", "(II)Z"⟩
abbrev cX0_fieldsFit : ByteArray := prog_2_method_8_code
def yX0_fieldsFit : MethodName := ⟨RX0, "fieldsFit", "(II)Z"⟩
abbrev cX0_fits : ByteArray := prog_2_method_9_code
def yX0_fits : MethodName := ⟨RX0, "fits", "(II)Z"⟩
abbrev cX0_fitsWithin : ByteArray := prog_2_method_10_code
def yX0_fitsWithin : MethodName := ⟨RX0, "fitsWithin", "(III)Z"⟩
abbrev cX0_plainFits : ByteArray := prog_2_method_11_code
def yX0_plainFits : MethodName := ⟨RX0, "plainFits", "(II)Z"⟩
abbrev cX0_chosen : ByteArray := prog_2_method_12_code
def yX0_chosen : MethodName := ⟨RX0, "chosen", "(II)I"⟩
abbrev cX0_chosenWithin : ByteArray := prog_2_method_13_code
def yX0_chosenWithin : MethodName := ⟨RX0, "chosenWithin", "(III)I"⟩
abbrev cX0_rootsFit : ByteArray := prog_2_method_14_code
def yX0_rootsFit : MethodName := ⟨RX0, "rootsFit", "()Z"⟩
abbrev cX0_verdict : ByteArray := prog_2_method_15_code
def yX0_verdict : MethodName := ⟨RX0, "verdict", "(II)I"⟩
abbrev cX0_findMisses : ByteArray := prog_2_method_16_code
def yX0_findMisses : MethodName := ⟨RX0, "findMisses", "(II)V"⟩
abbrev cX0_collectMisses : ByteArray := prog_2_method_17_code
def yX0_collectMisses : MethodName := ⟨RX0, "collectMisses", "(II)V"⟩
abbrev cX0_walk : ByteArray := prog_2_method_18_code
def yX0_walk : MethodName := ⟨RX0, "walk", "(III)V"⟩
abbrev cX0_walkBranches : ByteArray := prog_2_method_19_code
def yX0_walkBranches : MethodName := ⟨RX0, "walkBranches", "(III)V"⟩
abbrev cX0_walkFields : ByteArray := prog_2_method_20_code
def yX0_walkFields : MethodName := ⟨RX0, "walkFields", "(III)V"⟩
abbrev cX0_step : ByteArray := prog_2_method_21_code
def yX0_step : MethodName := ⟨RX0, "step", "(I)V"⟩
abbrev cX0_addMiss : ByteArray := prog_2_method_22_code
def yX0_addMiss : MethodName := ⟨RX0, "addMiss", "(I)V"⟩
abbrev cX0_isMiss : ByteArray := prog_2_method_23_code
def yX0_isMiss : MethodName := ⟨RX0, "isMiss", "(I)Z"⟩
abbrev cX0_missKind : ByteArray := prog_2_method_24_code
def yX0_missKind : MethodName := ⟨RX0, "missKind", "(I)I"⟩
abbrev cX0_missSteps : ByteArray := prog_2_method_25_code
def yX0_missSteps : MethodName := ⟨RX0, "missSteps", "(I)I"⟩
abbrev cX0_stepOfMiss : ByteArray := prog_2_method_26_code
def yX0_stepOfMiss : MethodName := ⟨RX0, "stepOfMiss", "(II)I"⟩
def RX1 : String := "ShapeReader$Messages"
def TX1 : u_T := fun k => match k with
  | 0 => ("ShapeReader$Messages", "bytes", "[B", true)
  | 1 => ("ShapeReader$Messages", "sizes", "[I", true)
  | _ => ("ShapeReader$Messages", "plansUsed", "[I", true)
def tyX1 : Nat → FieldType := fun k => match k with
  | 0 => .array .byte
  | 1 => .array .int
  | _ => .array .int
abbrev wsX10 : List Cond := u_ws RX1 TX1 3
theorem nmX1 : ∀ a, a < 3 → ∀ b, b < 3 → a ≠ b → (TX1 a).2.1 ≠ (TX1 b).2.1 := by decide +kernel
theorem tyX1_ok : ∀ k, k < 3 → parseFieldDescriptor (TX1 k).2.2.1 = some (tyX1 k) := by decide +kernel
abbrev cX1_init : ByteArray := prog_3_method_1_code
def yX1_init : MethodName := ⟨RX1, "<init>", "()V"⟩
abbrev cX1_clear : ByteArray := prog_3_method_2_code
def yX1_clear : MethodName := ⟨RX1, "clear", "()V"⟩
abbrev cX1_isNumber : ByteArray := prog_3_method_3_code
def yX1_isNumber : MethodName := ⟨RX1, "isNumber", "(I)Z"⟩
abbrev cX1_isWritten : ByteArray := prog_3_method_4_code
def yX1_isWritten : MethodName := ⟨RX1, "isWritten", "(I)Z"⟩
abbrev cX1_hasByte : ByteArray := prog_3_method_5_code
def yX1_hasByte : MethodName := ⟨RX1, "hasByte", "(II)Z"⟩
abbrev cX1_sizeOf : ByteArray := prog_3_method_6_code
def yX1_sizeOf : MethodName := ⟨RX1, "sizeOf", "(I)I"⟩
abbrev cX1_planOf : ByteArray := prog_3_method_7_code
def yX1_planOf : MethodName := ⟨RX1, "planOf", "(I)I"⟩
abbrev cX1_byteOf : ByteArray := prog_3_method_8_code
def yX1_byteOf : MethodName := ⟨RX1, "byteOf", "(II)I"⟩
abbrev cX1_change : ByteArray := prog_3_method_9_code
def yX1_change : MethodName := ⟨RX1, "change", "(III)I"⟩
abbrev cX1_shorten : ByteArray := prog_3_method_10_code
def yX1_shorten : MethodName := ⟨RX1, "shorten", "(II)I"⟩
abbrev cX1_store : ByteArray := prog_3_method_11_code
def yX1_store : MethodName := ⟨RX1, "store", "(IILShapeReader$Packer;)V"⟩
abbrev cX1_writtenBits : ByteArray := prog_3_method_12_code
def yX1_writtenBits : MethodName := ⟨RX1, "writtenBits", "()I"⟩
def RX2 : String := "ShapeReader$Packer"
def TX2 : u_T := fun k => match k with
  | 0 => ("ShapeReader$Packer", "shapes", "LShapeReader$Shapes;", true)
  | 1 => ("ShapeReader$Packer", "bytes", "[B", true)
  | _ => ("ShapeReader$Packer", "size", "I", false)
def tyX2 : Nat → FieldType := fun k => match k with
  | 0 => .object "ShapeReader$Shapes"
  | 1 => .array .byte
  | _ => .int
abbrev wsX20 : List Cond := u_ws RX2 TX2 3
theorem nmX2 : ∀ a, a < 3 → ∀ b, b < 3 → a ≠ b → (TX2 a).2.1 ≠ (TX2 b).2.1 := by decide +kernel
theorem tyX2_ok : ∀ k, k < 3 → parseFieldDescriptor (TX2 k).2.2.1 = some (tyX2 k) := by decide +kernel
abbrev cX2_init : ByteArray := prog_4_method_1_code
def yX2_init : MethodName := ⟨RX2, "<init>", "(LShapeReader$Shapes;)V"⟩
abbrev cX2_pack : ByteArray := prog_4_method_2_code
def yX2_pack : MethodName := ⟨RX2, "pack", "(LShapeReader$Tree;I)V"⟩
abbrev cX2_packValue : ByteArray := prog_4_method_3_code
def yX2_packValue : MethodName := ⟨RX2, "packValue", "(LShapeReader$Tree;III)V"⟩
abbrev cX2_packBranch : ByteArray := prog_4_method_4_code
def yX2_packBranch : MethodName := ⟨RX2, "packBranch", "(II)I"⟩
abbrev cX2_packFields : ByteArray := prog_4_method_5_code
def yX2_packFields : MethodName := ⟨RX2, "packFields", "(LShapeReader$Tree;III)V"⟩
abbrev cX2_packElse : ByteArray := prog_4_method_6_code
def yX2_packElse : MethodName := ⟨RX2, "packElse", "(III)V"⟩
abbrev cX2_packPlain : ByteArray := prog_4_method_7_code
def yX2_packPlain : MethodName := ⟨RX2, "packPlain", "(IJ)V"⟩
abbrev cX2_packLetters : ByteArray := prog_4_method_8_code
def yX2_packLetters : MethodName := ⟨RX2, "packLetters", "(J)V"⟩
abbrev cX2_putNumber : ByteArray := prog_4_method_9_code
def yX2_putNumber : MethodName := ⟨RX2, "putNumber", "(J)V"⟩
abbrev cX2_put : ByteArray := prog_4_method_10_code
def yX2_put : MethodName := ⟨RX2, "put", "(I)V"⟩
def RX3 : String := "ShapeReader$PlanText"
def TX3 : u_T := fun k => match k with
  | 0 => ("ShapeReader$PlanText", "tokens", "LShapeReader$Tokens;", true)
  | _ => ("ShapeReader$PlanText", "draft", "LShapeReader$Shapes;", true)
def tyX3 : Nat → FieldType := fun k => match k with
  | 0 => .object "ShapeReader$Tokens"
  | _ => .object "ShapeReader$Shapes"
abbrev wsX30 : List Cond := u_ws RX3 TX3 2
theorem nmX3 : ∀ a, a < 2 → ∀ b, b < 2 → a ≠ b → (TX3 a).2.1 ≠ (TX3 b).2.1 := by decide +kernel
theorem tyX3_ok : ∀ k, k < 2 → parseFieldDescriptor (TX3 k).2.2.1 = some (tyX3 k) := by decide +kernel
abbrev cX3_init : ByteArray := prog_5_method_1_code
def yX3_init : MethodName := ⟨RX3, "<init>", "(LShapeReader$Tokens;LShapeReader$Shapes;)V"⟩
abbrev cX3_parse : ByteArray := prog_5_method_2_code
def yX3_parse : MethodName := ⟨RX3, "parse", "()Z"⟩
abbrev cX3_resolve : ByteArray := prog_5_method_3_code
def yX3_resolve : MethodName := ⟨RX3, "resolve", "(I)Z"⟩
abbrev cX3_beginPlan : ByteArray := prog_5_method_4_code
def yX3_beginPlan : MethodName := ⟨RX3, "beginPlan", "(I)Z"⟩
abbrev cX3_parseRecord : ByteArray := prog_5_method_5_code
def yX3_parseRecord : MethodName := ⟨RX3, "parseRecord", "(I)Z"⟩
abbrev cX3_parseField : ByteArray := prog_5_method_6_code
def yX3_parseField : MethodName := ⟨RX3, "parseField", "(II)Z"⟩
abbrev cX3_parseType : ByteArray := prog_5_method_7_code
def yX3_parseType : MethodName := ⟨RX3, "parseType", "(II)I"⟩
abbrev cX3_parseBranches : ByteArray := prog_5_method_8_code
def yX3_parseBranches : MethodName := ⟨RX3, "parseBranches", "(II)Z"⟩
abbrev cX3_parseFormerName : ByteArray := prog_5_method_9_code
def yX3_parseFormerName : MethodName := ⟨RX3, "parseFormerName", "(II)Z"⟩
abbrev cX3_parseElse : ByteArray := prog_5_method_10_code
def yX3_parseElse : MethodName := ⟨RX3, "parseElse", "(II)Z"⟩
def RX4 : String := "ShapeReader$Reading"
def TX4 : u_T := fun k => match k with
  | 0 => ("ShapeReader$Reading", "shapes", "LShapeReader$Shapes;", true)
  | 1 => ("ShapeReader$Reading", "messages", "LShapeReader$Messages;", true)
  | 2 => ("ShapeReader$Reading", "matcher", "LShapeReader$Matcher;", true)
  | 3 => ("ShapeReader$Reading", "tree", "LShapeReader$Tree;", false)
  | 4 => ("ShapeReader$Reading", "message", "I", false)
  | 5 => ("ShapeReader$Reading", "next", "I", false)
  | 6 => ("ShapeReader$Reading", "end", "I", false)
  | 7 => ("ShapeReader$Reading", "failure", "I", false)
  | 8 => ("ShapeReader$Reading", "failedAt", "I", false)
  | 9 => ("ShapeReader$Reading", "path", "[I", true)
  | 10 => ("ShapeReader$Reading", "steps", "I", false)
  | _ => ("ShapeReader$Reading", "sources", "[I", true)
def tyX4 : Nat → FieldType := fun k => match k with
  | 0 => .object "ShapeReader$Shapes"
  | 1 => .object "ShapeReader$Messages"
  | 2 => .object "ShapeReader$Matcher"
  | 3 => .object "ShapeReader$Tree"
  | 4 => .int
  | 5 => .int
  | 6 => .int
  | 7 => .int
  | 8 => .int
  | 9 => .array .int
  | 10 => .int
  | _ => .array .int
abbrev wsX40 : List Cond := u_ws RX4 TX4 12
theorem nmX4 : ∀ a, a < 12 → ∀ b, b < 12 → a ≠ b → (TX4 a).2.1 ≠ (TX4 b).2.1 := by decide +kernel
theorem tyX4_ok : ∀ k, k < 12 → parseFieldDescriptor (TX4 k).2.2.1 = some (tyX4 k) := by decide +kernel
abbrev cX4_init : ByteArray := prog_6_method_1_code
def yX4_init : MethodName := ⟨RX4, "<init>", "(LShapeReader$Shapes;LShapeReader$Messages;LShapeReader$Matcher;LShapeReader$Tree;)V"⟩
abbrev cX4_run : ByteArray := prog_6_method_2_code
def yX4_run : MethodName := ⟨RX4, "run", "(IILShapeReader$Tree;)I"⟩
abbrev cX4_stepAt : ByteArray := prog_6_method_3_code
def yX4_stepAt : MethodName := ⟨RX4, "stepAt", "(I)I"⟩
abbrev cX4_fail : ByteArray := prog_6_method_4_code
def yX4_fail : MethodName := ⟨RX4, "fail", "(II)V"⟩
abbrev cX4_step : ByteArray := prog_6_method_5_code
def yX4_step : MethodName := ⟨RX4, "step", "(I)V"⟩
abbrev cX4_stepBack : ByteArray := prog_6_method_6_code
def yX4_stepBack : MethodName := ⟨RX4, "stepBack", "()V"⟩
abbrev cX4_take : ByteArray := prog_6_method_7_code
def yX4_take : MethodName := ⟨RX4, "take", "(IIIII)V"⟩
abbrev cX4_isEmptyThere : ByteArray := prog_6_method_8_code
def yX4_isEmptyThere : MethodName := ⟨RX4, "isEmptyThere", "(II)Z"⟩
abbrev cX4_takeOwn : ByteArray := prog_6_method_9_code
def yX4_takeOwn : MethodName := ⟨RX4, "takeOwn", "(IIIII)V"⟩
abbrev cX4_addNode : ByteArray := prog_6_method_10_code
def yX4_addNode : MethodName := ⟨RX4, "addNode", "(IIIIJ)I"⟩
abbrev cX4_takeRecord : ByteArray := prog_6_method_11_code
def yX4_takeRecord : MethodName := ⟨RX4, "takeRecord", "(IIIII)V"⟩
abbrev cX4_findSources : ByteArray := prog_6_method_12_code
def yX4_findSources : MethodName := ⟨RX4, "findSources", "(III)V"⟩
abbrev cX4_sourceAt : ByteArray := prog_6_method_13_code
def yX4_sourceAt : MethodName := ⟨RX4, "sourceAt", "(II)I"⟩
abbrev cX4_takeField : ByteArray := prog_6_method_14_code
def yX4_takeField : MethodName := ⟨RX4, "takeField", "(IIIII)V"⟩
abbrev cX4_fillIn : ByteArray := prog_6_method_15_code
def yX4_fillIn : MethodName := ⟨RX4, "fillIn", "(III)V"⟩
abbrev cX4_takeList : ByteArray := prog_6_method_16_code
def yX4_takeList : MethodName := ⟨RX4, "takeList", "(IIIII)V"⟩
abbrev cX4_takePlain : ByteArray := prog_6_method_17_code
def yX4_takePlain : MethodName := ⟨RX4, "takePlain", "(IIII)V"⟩
abbrev cX4_takeByte : ByteArray := prog_6_method_18_code
def yX4_takeByte : MethodName := ⟨RX4, "takeByte", "()I"⟩
abbrev cX4_takeNumber : ByteArray := prog_6_method_19_code
def yX4_takeNumber : MethodName := ⟨RX4, "takeNumber", "(I)J"⟩
abbrev cX4_takeCount : ByteArray := prog_6_method_20_code
def yX4_takeCount : MethodName := ⟨RX4, "takeCount", "(II)I"⟩
abbrev cX4_takeReal : ByteArray := prog_6_method_21_code
def yX4_takeReal : MethodName := ⟨RX4, "takeReal", "()J"⟩
abbrev cX4_takeLetters : ByteArray := prog_6_method_22_code
def yX4_takeLetters : MethodName := ⟨RX4, "takeLetters", "(II)J"⟩
def RX5 : String := "ShapeReader$Shapes"
def TX5 : u_T := fun k => match k with
  | 0 => ("ShapeReader$Shapes", "planCount", "I", false)
  | 1 => ("ShapeReader$Shapes", "typeCount", "I", false)
  | 2 => ("ShapeReader$Shapes", "recordCounts", "[I", true)
  | 3 => ("ShapeReader$Shapes", "rootTypes", "[I", true)
  | 4 => ("ShapeReader$Shapes", "fieldCounts", "[I", true)
  | 5 => ("ShapeReader$Shapes", "recordNames", "[J", true)
  | 6 => ("ShapeReader$Shapes", "elseBits", "[I", true)
  | 7 => ("ShapeReader$Shapes", "emptyHeights", "[I", true)
  | 8 => ("ShapeReader$Shapes", "fieldNames", "[J", true)
  | 9 => ("ShapeReader$Shapes", "formerNames", "[J", true)
  | 10 => ("ShapeReader$Shapes", "fieldTypes", "[I", true)
  | 11 => ("ShapeReader$Shapes", "elseWorths", "[J", true)
  | 12 => ("ShapeReader$Shapes", "sorts", "[I", true)
  | 13 => ("ShapeReader$Shapes", "inners", "[I", true)
  | 14 => ("ShapeReader$Shapes", "nextBranches", "[I", true)
  | 15 => ("ShapeReader$Shapes", "askedNames", "[J", true)
  | _ => ("ShapeReader$Shapes", "askedPlaces", "[I", true)
def tyX5 : Nat → FieldType := fun k => match k with
  | 0 => .int
  | 1 => .int
  | 2 => .array .int
  | 3 => .array .int
  | 4 => .array .int
  | 5 => .array .long
  | 6 => .array .int
  | 7 => .array .int
  | 8 => .array .long
  | 9 => .array .long
  | 10 => .array .int
  | 11 => .array .long
  | 12 => .array .int
  | 13 => .array .int
  | 14 => .array .int
  | 15 => .array .long
  | _ => .array .int
abbrev wsX50 : List Cond := u_ws RX5 TX5 17
theorem nmX5 : ∀ a, a < 17 → ∀ b, b < 17 → a ≠ b → (TX5 a).2.1 ≠ (TX5 b).2.1 := by decide +kernel
theorem tyX5_ok : ∀ k, k < 17 → parseFieldDescriptor (TX5 k).2.2.1 = some (tyX5 k) := by decide +kernel
abbrev cX5_init : ByteArray := prog_7_method_1_code
def yX5_init : MethodName := ⟨RX5, "<init>", "()V"⟩
abbrev cX5_clear : ByteArray := prog_7_method_2_code
def yX5_clear : MethodName := ⟨RX5, "clear", "()V"⟩
abbrev cX5_copyFrom : ByteArray := prog_7_method_3_code
def yX5_copyFrom : MethodName := ⟨RX5, "copyFrom", "(LShapeReader$Shapes;)V"⟩
abbrev cX5_isRecord : ByteArray := prog_7_method_4_code
def yX5_isRecord : MethodName := ⟨RX5, "isRecord", "(I)Z"⟩
abbrev cX5_isFieldOf : ByteArray := prog_7_method_5_code
def yX5_isFieldOf : MethodName := ⟨RX5, "isFieldOf", "(II)Z"⟩
abbrev cX5_isType : ByteArray := prog_7_method_6_code
def yX5_isType : MethodName := ⟨RX5, "isType", "(I)Z"⟩
abbrev cX5_recordsOf : ByteArray := prog_7_method_7_code
def yX5_recordsOf : MethodName := ⟨RX5, "recordsOf", "(I)I"⟩
abbrev cX5_rootType : ByteArray := prog_7_method_8_code
def yX5_rootType : MethodName := ⟨RX5, "rootType", "(I)I"⟩
abbrev cX5_fieldsOf : ByteArray := prog_7_method_9_code
def yX5_fieldsOf : MethodName := ⟨RX5, "fieldsOf", "(I)I"⟩
abbrev cX5_recordName : ByteArray := prog_7_method_10_code
def yX5_recordName : MethodName := ⟨RX5, "recordName", "(I)J"⟩
abbrev cX5_fieldName : ByteArray := prog_7_method_11_code
def yX5_fieldName : MethodName := ⟨RX5, "fieldName", "(II)J"⟩
abbrev cX5_formerName : ByteArray := prog_7_method_12_code
def yX5_formerName : MethodName := ⟨RX5, "formerName", "(II)J"⟩
abbrev cX5_typeOf : ByteArray := prog_7_method_13_code
def yX5_typeOf : MethodName := ⟨RX5, "typeOf", "(II)I"⟩
abbrev cX5_hasElse : ByteArray := prog_7_method_14_code
def yX5_hasElse : MethodName := ⟨RX5, "hasElse", "(II)Z"⟩
abbrev cX5_elseWorth : ByteArray := prog_7_method_15_code
def yX5_elseWorth : MethodName := ⟨RX5, "elseWorth", "(II)J"⟩
abbrev cX5_sortOf : ByteArray := prog_7_method_16_code
def yX5_sortOf : MethodName := ⟨RX5, "sortOf", "(I)I"⟩
abbrev cX5_innerOf : ByteArray := prog_7_method_17_code
def yX5_innerOf : MethodName := ⟨RX5, "innerOf", "(I)I"⟩
abbrev cX5_branchAfter : ByteArray := prog_7_method_18_code
def yX5_branchAfter : MethodName := ⟨RX5, "branchAfter", "(I)I"⟩
abbrev cX5_branchesOf : ByteArray := prog_7_method_19_code
def yX5_branchesOf : MethodName := ⟨RX5, "branchesOf", "(I)I"⟩
abbrev cX5_branchOf : ByteArray := prog_7_method_20_code
def yX5_branchOf : MethodName := ⟨RX5, "branchOf", "(II)I"⟩
abbrev cX5_firstChoice : ByteArray := prog_7_method_21_code
def yX5_firstChoice : MethodName := ⟨RX5, "firstChoice", "(I)I"⟩
abbrev cX5_recordWithin : ByteArray := prog_7_method_22_code
def yX5_recordWithin : MethodName := ⟨RX5, "recordWithin", "(I)I"⟩
abbrev cX5_recordNamed : ByteArray := prog_7_method_23_code
def yX5_recordNamed : MethodName := ⟨RX5, "recordNamed", "(IJ)I"⟩
abbrev cX5_fieldNamed : ByteArray := prog_7_method_24_code
def yX5_fieldNamed : MethodName := ⟨RX5, "fieldNamed", "(IJ)I"⟩
abbrev cX5_sourceOf : ByteArray := prog_7_method_25_code
def yX5_sourceOf : MethodName := ⟨RX5, "sourceOf", "(III)I"⟩
abbrev cX5_addType : ByteArray := prog_7_method_26_code
def yX5_addType : MethodName := ⟨RX5, "addType", "(I)I"⟩
abbrev cX5_addPlan : ByteArray := prog_7_method_27_code
def yX5_addPlan : MethodName := ⟨RX5, "addPlan", "(I)V"⟩
abbrev cX5_addRecord : ByteArray := prog_7_method_28_code
def yX5_addRecord : MethodName := ⟨RX5, "addRecord", "(IJ)V"⟩
abbrev cX5_addField : ByteArray := prog_7_method_29_code
def yX5_addField : MethodName := ⟨RX5, "addField", "(IJ)V"⟩
abbrev cX5_setType : ByteArray := prog_7_method_30_code
def yX5_setType : MethodName := ⟨RX5, "setType", "(III)V"⟩
abbrev cX5_setFormerName : ByteArray := prog_7_method_31_code
def yX5_setFormerName : MethodName := ⟨RX5, "setFormerName", "(IIJ)V"⟩
abbrev cX5_setElse : ByteArray := prog_7_method_32_code
def yX5_setElse : MethodName := ⟨RX5, "setElse", "(IIJ)V"⟩
abbrev cX5_setInner : ByteArray := prog_7_method_33_code
def yX5_setInner : MethodName := ⟨RX5, "setInner", "(II)V"⟩
abbrev cX5_setBranchAfter : ByteArray := prog_7_method_34_code
def yX5_setBranchAfter : MethodName := ⟨RX5, "setBranchAfter", "(II)V"⟩
abbrev cX5_setAsked : ByteArray := prog_7_method_35_code
def yX5_setAsked : MethodName := ⟨RX5, "setAsked", "(IJI)V"⟩
abbrev cX5_resolve : ByteArray := prog_7_method_36_code
def yX5_resolve : MethodName := ⟨RX5, "resolve", "(I)I"⟩
abbrev cX5_askedPlace : ByteArray := prog_7_method_37_code
def yX5_askedPlace : MethodName := ⟨RX5, "askedPlace", "(I)I"⟩
abbrev cX5_findEmptyRecords : ByteArray := prog_7_method_38_code
def yX5_findEmptyRecords : MethodName := ⟨RX5, "findEmptyRecords", "()V"⟩
abbrev cX5_heightOfFields : ByteArray := prog_7_method_39_code
def yX5_heightOfFields : MethodName := ⟨RX5, "heightOfFields", "(I)I"⟩
abbrev cX5_emptyHeight : ByteArray := prog_7_method_40_code
def yX5_emptyHeight : MethodName := ⟨RX5, "emptyHeight", "(I)I"⟩
def RX6 : String := "ShapeReader$Tokens"
def TX6 : u_T := fun k => match k with
  | 0 => ("ShapeReader$Tokens", "tape", "[B", true)
  | 1 => ("ShapeReader$Tokens", "keywords", "[J", true)
  | 2 => ("ShapeReader$Tokens", "end", "I", false)
  | 3 => ("ShapeReader$Tokens", "next", "I", false)
  | 4 => ("ShapeReader$Tokens", "kind", "I", false)
  | 5 => ("ShapeReader$Tokens", "start", "I", false)
  | 6 => ("ShapeReader$Tokens", "keyword", "I", false)
  | 7 => ("ShapeReader$Tokens", "letters", "J", false)
  | 8 => ("ShapeReader$Tokens", "digits", "J", false)
  | 9 => ("ShapeReader$Tokens", "minus", "Z", false)
  | 10 => ("ShapeReader$Tokens", "dotted", "Z", false)
  | 11 => ("ShapeReader$Tokens", "tenths", "I", false)
  | 12 => ("ShapeReader$Tokens", "faultKind", "I", false)
  | _ => ("ShapeReader$Tokens", "faultPlace", "I", false)
def tyX6 : Nat → FieldType := fun k => match k with
  | 0 => .array .byte
  | 1 => .array .long
  | 2 => .int
  | 3 => .int
  | 4 => .int
  | 5 => .int
  | 6 => .int
  | 7 => .long
  | 8 => .long
  | 9 => .boolean
  | 10 => .boolean
  | 11 => .int
  | 12 => .int
  | _ => .int
abbrev wsX60 : List Cond := u_ws RX6 TX6 14
theorem nmX6 : ∀ a, a < 14 → ∀ b, b < 14 → a ≠ b → (TX6 a).2.1 ≠ (TX6 b).2.1 := by decide +kernel
theorem tyX6_ok : ∀ k, k < 14 → parseFieldDescriptor (TX6 k).2.2.1 = some (tyX6 k) := by decide +kernel
abbrev cX6_init : ByteArray := prog_8_method_1_code
def yX6_init : MethodName := ⟨RX6, "<init>", "([B)V"⟩
abbrev cX6_begin : ByteArray := prog_8_method_2_code
def yX6_begin : MethodName := ⟨RX6, "begin", "(I)V"⟩
abbrev cX6_refuse : ByteArray := prog_8_method_3_code
def yX6_refuse : MethodName := ⟨RX6, "refuse", "(I)Z"⟩
abbrev cX6_refuseAt : ByteArray := prog_8_method_4_code
def yX6_refuseAt : MethodName := ⟨RX6, "refuseAt", "(II)Z"⟩
abbrev cX6_faultAnswer : ByteArray := prog_8_method_5_code
def yX6_faultAnswer : MethodName := ⟨RX6, "faultAnswer", "()I"⟩
abbrev cX6_signAt : ByteArray := prog_8_method_6_code
def yX6_signAt : MethodName := ⟨RX6, "signAt", "(I)I"⟩
abbrev cX6_advance : ByteArray := prog_8_method_7_code
def yX6_advance : MethodName := ⟨RX6, "advance", "()V"⟩
abbrev cX6_isLetter : ByteArray := prog_8_method_8_code
def yX6_isLetter : MethodName := ⟨RX6, "isLetter", "(I)Z"⟩
abbrev cX6_isDigit : ByteArray := prog_8_method_9_code
def yX6_isDigit : MethodName := ⟨RX6, "isDigit", "(I)Z"⟩
abbrev cX6_takeLetters : ByteArray := prog_8_method_10_code
def yX6_takeLetters : MethodName := ⟨RX6, "takeLetters", "(II)I"⟩
abbrev cX6_scanWord : ByteArray := prog_8_method_11_code
def yX6_scanWord : MethodName := ⟨RX6, "scanWord", "()V"⟩
abbrev cX6_scanLettered : ByteArray := prog_8_method_12_code
def yX6_scanLettered : MethodName := ⟨RX6, "scanLettered", "()V"⟩
abbrev cX6_scanNumber : ByteArray := prog_8_method_13_code
def yX6_scanNumber : MethodName := ⟨RX6, "scanNumber", "()V"⟩
abbrev cX6_isKeyword : ByteArray := prog_8_method_14_code
def yX6_isKeyword : MethodName := ⟨RX6, "isKeyword", "(I)Z"⟩
abbrev cX6_beginsLiteral : ByteArray := prog_8_method_15_code
def yX6_beginsLiteral : MethodName := ⟨RX6, "beginsLiteral", "()Z"⟩
abbrev cX6_sortBegun : ByteArray := prog_8_method_16_code
def yX6_sortBegun : MethodName := ⟨RX6, "sortBegun", "()I"⟩
abbrev cX6_fits : ByteArray := prog_8_method_17_code
def yX6_fits : MethodName := ⟨RX6, "fits", "(I)Z"⟩
abbrev cX6_whole : ByteArray := prog_8_method_18_code
def yX6_whole : MethodName := ⟨RX6, "whole", "()J"⟩
abbrev cX6_worth : ByteArray := prog_8_method_19_code
def yX6_worth : MethodName := ⟨RX6, "worth", "(I)J"⟩
abbrev cX6_realBits : ByteArray := prog_8_method_20_code
def yX6_realBits : MethodName := ⟨RX6, "realBits", "()J"⟩
def RX7 : String := "ShapeReader$Tree"
def TX7 : u_T := fun k => match k with
  | 0 => ("ShapeReader$Tree", "rows", "I", true)
  | 1 => ("ShapeReader$Tree", "size", "I", false)
  | 2 => ("ShapeReader$Tree", "sorts", "[I", true)
  | 3 => ("ShapeReader$Tree", "parents", "[I", true)
  | 4 => ("ShapeReader$Tree", "places", "[I", true)
  | 5 => ("ShapeReader$Tree", "sizes", "[I", true)
  | 6 => ("ShapeReader$Tree", "filled", "[Z", true)
  | 7 => ("ShapeReader$Tree", "worths", "[J", true)
  | 8 => ("ShapeReader$Tree", "firsts", "[I", true)
  | 9 => ("ShapeReader$Tree", "lasts", "[I", true)
  | 10 => ("ShapeReader$Tree", "nexts", "[I", true)
  | 11 => ("ShapeReader$Tree", "order", "[I", true)
  | _ => ("ShapeReader$Tree", "numbers", "[I", true)
def tyX7 : Nat → FieldType := fun k => match k with
  | 0 => .int
  | 1 => .int
  | 2 => .array .int
  | 3 => .array .int
  | 4 => .array .int
  | 5 => .array .int
  | 6 => .array .boolean
  | 7 => .array .long
  | 8 => .array .int
  | 9 => .array .int
  | 10 => .array .int
  | 11 => .array .int
  | _ => .array .int
abbrev wsX70 : List Cond := u_ws RX7 TX7 13
theorem nmX7 : ∀ a, a < 13 → ∀ b, b < 13 → a ≠ b → (TX7 a).2.1 ≠ (TX7 b).2.1 := by decide +kernel
theorem tyX7_ok : ∀ k, k < 13 → parseFieldDescriptor (TX7 k).2.2.1 = some (tyX7 k) := by decide +kernel
abbrev cX7_init : ByteArray := prog_9_method_1_code
def yX7_init : MethodName := ⟨RX7, "<init>", "(I)V"⟩
abbrev cX7_clear : ByteArray := prog_9_method_2_code
def yX7_clear : MethodName := ⟨RX7, "clear", "()V"⟩
abbrev cX7_isRow : ByteArray := prog_9_method_3_code
def yX7_isRow : MethodName := ⟨RX7, "isRow", "(I)Z"⟩
abbrev cX7_grow : ByteArray := prog_9_method_4_code
def yX7_grow : MethodName := ⟨RX7, "grow", "(III)I"⟩
abbrev cX7_link : ByteArray := prog_9_method_5_code
def yX7_link : MethodName := ⟨RX7, "link", "(II)V"⟩
abbrev cX7_setWorth : ByteArray := prog_9_method_6_code
def yX7_setWorth : MethodName := ⟨RX7, "setWorth", "(IIJ)V"⟩
abbrev cX7_setFilled : ByteArray := prog_9_method_7_code
def yX7_setFilled : MethodName := ⟨RX7, "setFilled", "(I)V"⟩
abbrev cX7_sortAt : ByteArray := prog_9_method_8_code
def yX7_sortAt : MethodName := ⟨RX7, "sortAt", "(I)I"⟩
abbrev cX7_parentOf : ByteArray := prog_9_method_9_code
def yX7_parentOf : MethodName := ⟨RX7, "parentOf", "(I)I"⟩
abbrev cX7_placeOf : ByteArray := prog_9_method_10_code
def yX7_placeOf : MethodName := ⟨RX7, "placeOf", "(I)I"⟩
abbrev cX7_sizeOf : ByteArray := prog_9_method_11_code
def yX7_sizeOf : MethodName := ⟨RX7, "sizeOf", "(I)I"⟩
abbrev cX7_isFilled : ByteArray := prog_9_method_12_code
def yX7_isFilled : MethodName := ⟨RX7, "isFilled", "(I)Z"⟩
abbrev cX7_worthOf : ByteArray := prog_9_method_13_code
def yX7_worthOf : MethodName := ⟨RX7, "worthOf", "(I)J"⟩
abbrev cX7_firstOf : ByteArray := prog_9_method_14_code
def yX7_firstOf : MethodName := ⟨RX7, "firstOf", "(I)I"⟩
abbrev cX7_nextOf : ByteArray := prog_9_method_15_code
def yX7_nextOf : MethodName := ⟨RX7, "nextOf", "(I)I"⟩
abbrev cX7_rowAt : ByteArray := prog_9_method_16_code
def yX7_rowAt : MethodName := ⟨RX7, "rowAt", "(I)I"⟩
abbrev cX7_numberOf : ByteArray := prog_9_method_17_code
def yX7_numberOf : MethodName := ⟨RX7, "numberOf", "(I)I"⟩
abbrev cX7_putInOrder : ByteArray := prog_9_method_18_code
def yX7_putInOrder : MethodName := ⟨RX7, "putInOrder", "()V"⟩
abbrev cX7_rowBehind : ByteArray := prog_9_method_19_code
def yX7_rowBehind : MethodName := ⟨RX7, "rowBehind", "(I)I"⟩
abbrev cX7_isLike : ByteArray := prog_9_method_20_code
def yX7_isLike : MethodName := ⟨RX7, "isLike", "(LShapeReader$Tree;)Z"⟩
def RX8 : String := "ShapeReader$ValueText"
def TX8 : u_T := fun k => match k with
  | 0 => ("ShapeReader$ValueText", "tokens", "LShapeReader$Tokens;", true)
  | 1 => ("ShapeReader$ValueText", "shapes", "LShapeReader$Shapes;", true)
  | _ => ("ShapeReader$ValueText", "tree", "LShapeReader$Tree;", true)
def tyX8 : Nat → FieldType := fun k => match k with
  | 0 => .object "ShapeReader$Tokens"
  | 1 => .object "ShapeReader$Shapes"
  | _ => .object "ShapeReader$Tree"
abbrev wsX80 : List Cond := u_ws RX8 TX8 3
theorem nmX8 : ∀ a, a < 3 → ∀ b, b < 3 → a ≠ b → (TX8 a).2.1 ≠ (TX8 b).2.1 := by decide +kernel
theorem tyX8_ok : ∀ k, k < 3 → parseFieldDescriptor (TX8 k).2.2.1 = some (tyX8 k) := by decide +kernel
abbrev cX8_init : ByteArray := prog_10_method_1_code
def yX8_init : MethodName := ⟨RX8, "<init>", "(LShapeReader$Tokens;LShapeReader$Shapes;LShapeReader$Tree;)V"⟩
abbrev cX8_parse : ByteArray := prog_10_method_2_code
def yX8_parse : MethodName := ⟨RX8, "parse", "(I)Z"⟩
abbrev cX8_parseValue : ByteArray := prog_10_method_3_code
def yX8_parseValue : MethodName := ⟨RX8, "parseValue", "(IIII)Z"⟩
abbrev cX8_fittingType : ByteArray := prog_10_method_4_code
def yX8_fittingType : MethodName := ⟨RX8, "fittingType", "(I)I"⟩
abbrev cX8_parseItems : ByteArray := prog_10_method_5_code
def yX8_parseItems : MethodName := ⟨RX8, "parseItems", "(III)Z"⟩
abbrev cX8_parseFields : ByteArray := prog_10_method_6_code
def yX8_parseFields : MethodName := ⟨RX8, "parseFields", "(III)Z"⟩
abbrev cX8_closeRecord : ByteArray := prog_10_method_7_code
def yX8_closeRecord : MethodName := ⟨RX8, "closeRecord", "(II)Z"⟩
def RX9 : String := "ShapeReader$Ways"
def TX9 : u_T := fun k => match k with
  | 0 => ("ShapeReader$Ways", "pairs", "[I", true)
  | 1 => ("ShapeReader$Ways", "size", "I", false)
  | 2 => ("ShapeReader$Ways", "found", "I", false)
  | _ => ("ShapeReader$Ways", "notFound", "I", false)
def tyX9 : Nat → FieldType := fun k => match k with
  | 0 => .array .int
  | 1 => .int
  | 2 => .int
  | _ => .int
abbrev wsX90 : List Cond := u_ws RX9 TX9 4
theorem nmX9 : ∀ a, a < 4 → ∀ b, b < 4 → a ≠ b → (TX9 a).2.1 ≠ (TX9 b).2.1 := by decide +kernel
theorem tyX9_ok : ∀ k, k < 4 → parseFieldDescriptor (TX9 k).2.2.1 = some (tyX9 k) := by decide +kernel
abbrev cX9_init : ByteArray := prog_11_method_1_code
def yX9_init : MethodName := ⟨RX9, "<init>", "()V"⟩
abbrev cX9_clear : ByteArray := prog_11_method_2_code
def yX9_clear : MethodName := ⟨RX9, "clear", "()V"⟩
abbrev cX9_pairAt : ByteArray := prog_11_method_3_code
def yX9_pairAt : MethodName := ⟨RX9, "pairAt", "(I)I"⟩
abbrev cX9_use : ByteArray := prog_11_method_4_code
def yX9_use : MethodName := ⟨RX9, "use", "(II)V"⟩
def RX10 : String := "ShapeReader"
def TX10 : u_T := fun k => match k with
  | 0 => ("ShapeReader", "tape", "[B", true)
  | 1 => ("ShapeReader", "tapeSize", "I", false)
  | 2 => ("ShapeReader", "tokens", "LShapeReader$Tokens;", true)
  | 3 => ("ShapeReader", "shapes", "LShapeReader$Shapes;", true)
  | 4 => ("ShapeReader", "draft", "LShapeReader$Shapes;", true)
  | 5 => ("ShapeReader", "planText", "LShapeReader$PlanText;", true)
  | 6 => ("ShapeReader", "messages", "LShapeReader$Messages;", true)
  | 7 => ("ShapeReader", "matcher", "LShapeReader$Matcher;", true)
  | 8 => ("ShapeReader", "ways", "LShapeReader$Ways;", true)
  | 9 => ("ShapeReader", "shown", "LShapeReader$Tree;", true)
  | 10 => ("ShapeReader", "scratch", "LShapeReader$Tree;", true)
  | 11 => ("ShapeReader", "second", "LShapeReader$Tree;", true)
  | 12 => ("ShapeReader", "valueText", "LShapeReader$ValueText;", true)
  | 13 => ("ShapeReader", "packer", "LShapeReader$Packer;", true)
  | 14 => ("ShapeReader", "latest", "LShapeReader$Reading;", true)
  | _ => ("ShapeReader", "trial", "LShapeReader$Reading;", true)
def tyX10 : Nat → FieldType := fun k => match k with
  | 0 => .array .byte
  | 1 => .int
  | 2 => .object "ShapeReader$Tokens"
  | 3 => .object "ShapeReader$Shapes"
  | 4 => .object "ShapeReader$Shapes"
  | 5 => .object "ShapeReader$PlanText"
  | 6 => .object "ShapeReader$Messages"
  | 7 => .object "ShapeReader$Matcher"
  | 8 => .object "ShapeReader$Ways"
  | 9 => .object "ShapeReader$Tree"
  | 10 => .object "ShapeReader$Tree"
  | 11 => .object "ShapeReader$Tree"
  | 12 => .object "ShapeReader$ValueText"
  | 13 => .object "ShapeReader$Packer"
  | 14 => .object "ShapeReader$Reading"
  | _ => .object "ShapeReader$Reading"
abbrev wsX100 : List Cond := u_ws RX10 TX10 16
theorem nmX10 : ∀ a, a < 16 → ∀ b, b < 16 → a ≠ b → (TX10 a).2.1 ≠ (TX10 b).2.1 := by decide +kernel
theorem tyX10_ok : ∀ k, k < 16 → parseFieldDescriptor (TX10 k).2.2.1 = some (tyX10 k) := by decide +kernel
abbrev cX10_init : ByteArray := prog_1_method_1_code
def yX10_init : MethodName := ⟨RX10, "<init>", "()V"⟩
abbrev cX10_feed : ByteArray := prog_1_method_2_code
def yX10_feed : MethodName := ⟨RX10, "feed", "(IIIII)I"⟩
abbrev cX10_feedFour : ByteArray := prog_1_method_3_code
def yX10_feedFour : MethodName := ⟨RX10, "feedFour", "(I)V"⟩
abbrev cX10_plans : ByteArray := prog_1_method_4_code
def yX10_plans : MethodName := ⟨RX10, "plans", "(I)I"⟩
abbrev cX10_write : ByteArray := prog_1_method_5_code
def yX10_write : MethodName := ⟨RX10, "write", "(III)I"⟩
abbrev cX10_isPlan : ByteArray := prog_1_method_6_code
def yX10_isPlan : MethodName := ⟨RX10, "isPlan", "(I)Z"⟩
abbrev cX10_record : ByteArray := prog_1_method_7_code
def yX10_record : MethodName := ⟨RX10, "record", "(III)I"⟩
abbrev cX10_field : ByteArray := prog_1_method_8_code
def yX10_field : MethodName := ⟨RX10, "field", "(IIII)I"⟩
abbrev cX10_message : ByteArray := prog_1_method_9_code
def yX10_message : MethodName := ⟨RX10, "message", "(II)I"⟩
abbrev cX10_byteAt : ByteArray := prog_1_method_10_code
def yX10_byteAt : MethodName := ⟨RX10, "byteAt", "(II)I"⟩
abbrev cX10_spoil : ByteArray := prog_1_method_11_code
def yX10_spoil : MethodName := ⟨RX10, "spoil", "(III)I"⟩
abbrev cX10_cut : ByteArray := prog_1_method_12_code
def yX10_cut : MethodName := ⟨RX10, "cut", "(II)I"⟩
abbrev cX10_matches : ByteArray := prog_1_method_13_code
def yX10_matches : MethodName := ⟨RX10, "matches", "(II)I"⟩
abbrev cX10_miss : ByteArray := prog_1_method_14_code
def yX10_miss : MethodName := ⟨RX10, "miss", "(IIII)I"⟩
abbrev cX10_missStep : ByteArray := prog_1_method_15_code
def yX10_missStep : MethodName := ⟨RX10, "missStep", "(IIII)I"⟩
abbrev cX10_readers : ByteArray := prog_1_method_16_code
def yX10_readers : MethodName := ⟨RX10, "readers", "(II)I"⟩
abbrev cX10_read : ByteArray := prog_1_method_17_code
def yX10_read : MethodName := ⟨RX10, "read", "(II)I"⟩
abbrev cX10_failure : ByteArray := prog_1_method_18_code
def yX10_failure : MethodName := ⟨RX10, "failure", "(I)I"⟩
abbrev cX10_failureStep : ByteArray := prog_1_method_19_code
def yX10_failureStep : MethodName := ⟨RX10, "failureStep", "(I)I"⟩
abbrev cX10_node : ByteArray := prog_1_method_20_code
def yX10_node : MethodName := ⟨RX10, "node", "(II)I"⟩
abbrev cX10_value : ByteArray := prog_1_method_21_code
def yX10_value : MethodName := ⟨RX10, "value", "(I)J"⟩
abbrev cX10_letter : ByteArray := prog_1_method_22_code
def yX10_letter : MethodName := ⟨RX10, "letter", "(II)I"⟩
abbrev cX10_convert : ByteArray := prog_1_method_23_code
def yX10_convert : MethodName := ⟨RX10, "convert", "(III)I"⟩
abbrev cX10_alike : ByteArray := prog_1_method_24_code
def yX10_alike : MethodName := ⟨RX10, "alike", "(III)I"⟩
abbrev cX10_kept : ByteArray := prog_1_method_25_code
def yX10_kept : MethodName := ⟨RX10, "kept", "(I)I"⟩
abbrev cX10_count : ByteArray := prog_1_method_26_code
def yX10_count : MethodName := ⟨RX10, "count", "(I)I"⟩
abbrev cX10_letterOf : ByteArray := prog_1_method_27_code
def yX10_letterOf : MethodName := ⟨RX10, "letterOf", "(JI)I"⟩
abbrev cX10_lettersIn : ByteArray := prog_1_method_28_code
def yX10_lettersIn : MethodName := ⟨RX10, "lettersIn", "(J)I"⟩
abbrev cX10_bitsOfPositive : ByteArray := prog_1_method_29_code
def yX10_bitsOfPositive : MethodName := ⟨RX10, "bitsOfPositive", "(D)J"⟩
abbrev cX10_bitsOfWhole : ByteArray := prog_1_method_30_code
def yX10_bitsOfWhole : MethodName := ⟨RX10, "bitsOfWhole", "(J)J"⟩
abbrev cX10_isInt : ByteArray := prog_1_method_31_code
def yX10_isInt : MethodName := ⟨RX10, "isInt", "(J)Z"⟩
def RX11 : String := "ShapeReaderModel"
def TX11 : u_T := fun k => match k with
  | 0 => ("ShapeReaderModel", "thrown", "I", false)
  | 1 => ("ShapeReaderModel", "tape", "[B", true)
  | 2 => ("ShapeReaderModel", "taped", "I", false)
  | 3 => ("ShapeReaderModel", "size", "I", false)
  | 4 => ("ShapeReaderModel", "at", "I", false)
  | 5 => ("ShapeReaderModel", "next", "I", false)
  | 6 => ("ShapeReaderModel", "token", "I", false)
  | 7 => ("ShapeReaderModel", "letters", "J", false)
  | 8 => ("ShapeReaderModel", "letterMany", "I", false)
  | 9 => ("ShapeReaderModel", "whole", "J", false)
  | 10 => ("ShapeReaderModel", "isPointed", "Z", false)
  | 11 => ("ShapeReaderModel", "pointed", "D", false)
  | 12 => ("ShapeReaderModel", "fault", "I", false)
  | 13 => ("ShapeReaderModel", "sign", "I", false)
  | 14 => ("ShapeReaderModel", "typeSort", "[I", true)
  | 15 => ("ShapeReaderModel", "typeArg", "[I", true)
  | 16 => ("ShapeReaderModel", "typeMany", "[I", true)
  | 17 => ("ShapeReaderModel", "branch", "[I", true)
  | 18 => ("ShapeReaderModel", "typeName", "[J", true)
  | 19 => ("ShapeReaderModel", "typePlace", "[I", true)
  | 20 => ("ShapeReaderModel", "recordMany", "[I", true)
  | 21 => ("ShapeReaderModel", "recordName", "[J", true)
  | 22 => ("ShapeReaderModel", "recordLetters", "[I", true)
  | 23 => ("ShapeReaderModel", "fieldMany", "[I", true)
  | 24 => ("ShapeReaderModel", "fieldName", "[J", true)
  | 25 => ("ShapeReaderModel", "fieldLetters", "[I", true)
  | 26 => ("ShapeReaderModel", "fieldWas", "[J", true)
  | 27 => ("ShapeReaderModel", "fieldType", "[I", true)
  | 28 => ("ShapeReaderModel", "hasElse", "[Z", true)
  | 29 => ("ShapeReaderModel", "elseBits", "[J", true)
  | 30 => ("ShapeReaderModel", "elseText", "[J", true)
  | 31 => ("ShapeReaderModel", "elseLetters", "[I", true)
  | 32 => ("ShapeReaderModel", "planMany", "I", false)
  | 33 => ("ShapeReaderModel", "readPlans", "I", false)
  | 34 => ("ShapeReaderModel", "types", "I", false)
  | 35 => ("ShapeReaderModel", "nodeSort", "[I", true)
  | 36 => ("ShapeReaderModel", "nodeBits", "[J", true)
  | 37 => ("ShapeReaderModel", "nodeText", "[J", true)
  | 38 => ("ShapeReaderModel", "nodeHas", "[I", true)
  | 39 => ("ShapeReaderModel", "nodeParent", "[I", true)
  | 40 => ("ShapeReaderModel", "nodeIndex", "[I", true)
  | 41 => ("ShapeReaderModel", "nodeBranch", "[I", true)
  | 42 => ("ShapeReaderModel", "nodeFilled", "[Z", true)
  | 43 => ("ShapeReaderModel", "nodeFirst", "[I", true)
  | 44 => ("ShapeReaderModel", "nodeLast", "[I", true)
  | 45 => ("ShapeReaderModel", "nodeNext", "[I", true)
  | 46 => ("ShapeReaderModel", "trees", "I", false)
  | 47 => ("ShapeReaderModel", "written", "[B", true)
  | 48 => ("ShapeReaderModel", "writtenMany", "I", false)
  | 49 => ("ShapeReaderModel", "isTooLong", "Z", false)
  | 50 => ("ShapeReaderModel", "messagePlan", "[I", true)
  | 51 => ("ShapeReaderModel", "messageMany", "[I", true)
  | 52 => ("ShapeReaderModel", "bytes", "[B", true)
  | 53 => ("ShapeReaderModel", "writer", "I", false)
  | 54 => ("ShapeReaderModel", "reader", "I", false)
  | 55 => ("ShapeReaderModel", "pair", "[Z", true)
  | 56 => ("ShapeReaderModel", "step", "[I", true)
  | 57 => ("ShapeReaderModel", "steps", "I", false)
  | 58 => ("ShapeReaderModel", "missKind", "[I", true)
  | 59 => ("ShapeReaderModel", "missSteps", "[I", true)
  | 60 => ("ShapeReaderModel", "missPath", "[I", true)
  | 61 => ("ShapeReaderModel", "misses", "I", false)
  | 62 => ("ShapeReaderModel", "looked", "[Z", true)
  | 63 => ("ShapeReaderModel", "from", "I", false)
  | 64 => ("ShapeReaderModel", "pos", "I", false)
  | 65 => ("ShapeReaderModel", "till", "I", false)
  | 66 => ("ShapeReaderModel", "failKind", "I", false)
  | 67 => ("ShapeReaderModel", "failByte", "I", false)
  | 68 => ("ShapeReaderModel", "failSteps", "I", false)
  | 69 => ("ShapeReaderModel", "failPath", "[I", true)
  | 70 => ("ShapeReaderModel", "numberRead", "J", false)
  | 71 => ("ShapeReaderModel", "textRead", "J", false)
  | 72 => ("ShapeReaderModel", "textMany", "I", false)
  | 73 => ("ShapeReaderModel", "nodeMany", "I", false)
  | 74 => ("ShapeReaderModel", "toldSort", "[I", true)
  | 75 => ("ShapeReaderModel", "toldParent", "[I", true)
  | 76 => ("ShapeReaderModel", "toldIndex", "[I", true)
  | 77 => ("ShapeReaderModel", "toldHas", "[I", true)
  | 78 => ("ShapeReaderModel", "toldFilled", "[Z", true)
  | 79 => ("ShapeReaderModel", "toldBits", "[J", true)
  | 80 => ("ShapeReaderModel", "toldText", "[J", true)
  | 81 => ("ShapeReaderModel", "failureKind", "I", false)
  | 82 => ("ShapeReaderModel", "failureByte", "I", false)
  | 83 => ("ShapeReaderModel", "failureSteps", "I", false)
  | 84 => ("ShapeReaderModel", "failurePath", "[I", true)
  | 85 => ("ShapeReaderModel", "orderOf", "[I", true)
  | 86 => ("ShapeReaderModel", "alikeNumbers", "[I", true)
  | 87 => ("ShapeReaderModel", "alikeLongs", "[J", true)
  | 88 => ("ShapeReaderModel", "ordered", "I", false)
  | 89 => ("ShapeReaderModel", "firstNumbers", "[I", true)
  | 90 => ("ShapeReaderModel", "firstLongs", "[J", true)
  | 91 => ("ShapeReaderModel", "keptPair", "[I", true)
  | 92 => ("ShapeReaderModel", "keptMany", "I", false)
  | 93 => ("ShapeReaderModel", "found", "I", false)
  | _ => ("ShapeReaderModel", "notFound", "I", false)
def tyX11 : Nat → FieldType := fun k => match k with
  | 0 => .int
  | 1 => .array .byte
  | 2 => .int
  | 3 => .int
  | 4 => .int
  | 5 => .int
  | 6 => .int
  | 7 => .long
  | 8 => .int
  | 9 => .long
  | 10 => .boolean
  | 11 => .double
  | 12 => .int
  | 13 => .int
  | 14 => .array .int
  | 15 => .array .int
  | 16 => .array .int
  | 17 => .array .int
  | 18 => .array .long
  | 19 => .array .int
  | 20 => .array .int
  | 21 => .array .long
  | 22 => .array .int
  | 23 => .array .int
  | 24 => .array .long
  | 25 => .array .int
  | 26 => .array .long
  | 27 => .array .int
  | 28 => .array .boolean
  | 29 => .array .long
  | 30 => .array .long
  | 31 => .array .int
  | 32 => .int
  | 33 => .int
  | 34 => .int
  | 35 => .array .int
  | 36 => .array .long
  | 37 => .array .long
  | 38 => .array .int
  | 39 => .array .int
  | 40 => .array .int
  | 41 => .array .int
  | 42 => .array .boolean
  | 43 => .array .int
  | 44 => .array .int
  | 45 => .array .int
  | 46 => .int
  | 47 => .array .byte
  | 48 => .int
  | 49 => .boolean
  | 50 => .array .int
  | 51 => .array .int
  | 52 => .array .byte
  | 53 => .int
  | 54 => .int
  | 55 => .array .boolean
  | 56 => .array .int
  | 57 => .int
  | 58 => .array .int
  | 59 => .array .int
  | 60 => .array .int
  | 61 => .int
  | 62 => .array .boolean
  | 63 => .int
  | 64 => .int
  | 65 => .int
  | 66 => .int
  | 67 => .int
  | 68 => .int
  | 69 => .array .int
  | 70 => .long
  | 71 => .long
  | 72 => .int
  | 73 => .int
  | 74 => .array .int
  | 75 => .array .int
  | 76 => .array .int
  | 77 => .array .int
  | 78 => .array .boolean
  | 79 => .array .long
  | 80 => .array .long
  | 81 => .int
  | 82 => .int
  | 83 => .int
  | 84 => .array .int
  | 85 => .array .int
  | 86 => .array .int
  | 87 => .array .long
  | 88 => .int
  | 89 => .array .int
  | 90 => .array .long
  | 91 => .array .int
  | 92 => .int
  | 93 => .int
  | _ => .int
abbrev wsX110 : List Cond := u_ws RX11 TX11 95
theorem nmX11 : ∀ a, a < 95 → ∀ b, b < 95 → a ≠ b → (TX11 a).2.1 ≠ (TX11 b).2.1 := by decide +kernel
theorem tyX11_ok : ∀ k, k < 95 → parseFieldDescriptor (TX11 k).2.2.1 = some (tyX11 k) := by decide +kernel
abbrev cX11_init : ByteArray := prog_13_method_1_code
def yX11_init : MethodName := ⟨RX11, "<init>", "()V"⟩
abbrev cX11_thrown : ByteArray := prog_13_method_2_code
def yX11_thrown : MethodName := ⟨RX11, "thrown", "()I"⟩
abbrev cX11_within : ByteArray := prog_13_method_3_code
def yX11_within : MethodName := ⟨RX11, "within", "(JJJ)Z"⟩
abbrev cX11_feed : ByteArray := prog_13_method_4_code
def yX11_feed : MethodName := ⟨RX11, "feed", "(IIIII)I"⟩
abbrev cX11_puts : ByteArray := prog_13_method_5_code
def yX11_puts : MethodName := ⟨RX11, "puts", "(I)V"⟩
abbrev cX11_byteAt : ByteArray := prog_13_method_6_code
def yX11_byteAt : MethodName := ⟨RX11, "byteAt", "(I)I"⟩
abbrev cX11_isLetter : ByteArray := prog_13_method_7_code
def yX11_isLetter : MethodName := ⟨RX11, "isLetter", "(I)Z"⟩
abbrev cX11_isDigit : ByteArray := prog_13_method_8_code
def yX11_isDigit : MethodName := ⟨RX11, "isDigit", "(I)Z"⟩
abbrev cX11_word : ByteArray := prog_13_method_9_code
def yX11_word : MethodName := ⟨RX11, "word", "(I)V"⟩
abbrev cX11_number : ByteArray := prog_13_method_10_code
def yX11_number : MethodName := ⟨RX11, "number", "()V"⟩
abbrev cX11_quoted : ByteArray := prog_13_method_11_code
def yX11_quoted : MethodName := ⟨RX11, "quoted", "()V"⟩
abbrev cX11_isSign : ByteArray := prog_13_method_12_code
def yX11_isSign : MethodName := ⟨RX11, "isSign", "(I)Z"⟩
abbrev cX11_go : ByteArray := prog_13_method_13_code
def yX11_go : MethodName := ⟨RX11, "go", "()V"⟩
abbrev cX11_spelt : ByteArray := prog_13_method_14_code
def yX11_spelt : MethodName := ⟨RX11, "spelt", "(IIIIII)J"⟩
abbrev cX11_isWord : ByteArray := prog_13_method_15_code
def yX11_isWord : MethodName := ⟨RX11, "isWord", "(J)Z"⟩
abbrev cX11_wrong : ByteArray := prog_13_method_16_code
def yX11_wrong : MethodName := ⟨RX11, "wrong", "(II)Z"⟩
abbrev cX11_wrongHere : ByteArray := prog_13_method_17_code
def yX11_wrongHere : MethodName := ⟨RX11, "wrongHere", "(I)Z"⟩
abbrev cX11_mark : ByteArray := prog_13_method_18_code
def yX11_mark : MethodName := ⟨RX11, "mark", "(I)Z"⟩
abbrev cX11_sortHere : ByteArray := prog_13_method_19_code
def yX11_sortHere : MethodName := ⟨RX11, "sortHere", "()I"⟩
abbrev cX11_isPlan : ByteArray := prog_13_method_20_code
def yX11_isPlan : MethodName := ⟨RX11, "isPlan", "()Z"⟩
abbrev cX11_isRecord : ByteArray := prog_13_method_21_code
def yX11_isRecord : MethodName := ⟨RX11, "isRecord", "()Z"⟩
abbrev cX11_isWas : ByteArray := prog_13_method_22_code
def yX11_isWas : MethodName := ⟨RX11, "isWas", "()Z"⟩
abbrev cX11_isElse : ByteArray := prog_13_method_23_code
def yX11_isElse : MethodName := ⟨RX11, "isElse", "()Z"⟩
abbrev cX11_isOr : ByteArray := prog_13_method_24_code
def yX11_isOr : MethodName := ⟨RX11, "isOr", "()Z"⟩
abbrev cX11_isYes : ByteArray := prog_13_method_25_code
def yX11_isYes : MethodName := ⟨RX11, "isYes", "()Z"⟩
abbrev cX11_isNo : ByteArray := prog_13_method_26_code
def yX11_isNo : MethodName := ⟨RX11, "isNo", "()Z"⟩
abbrev cX11_isName : ByteArray := prog_13_method_27_code
def yX11_isName : MethodName := ⟨RX11, "isName", "()Z"⟩
abbrev cX11_isAsked : ByteArray := prog_13_method_28_code
def yX11_isAsked : MethodName := ⟨RX11, "isAsked", "(II)Z"⟩
abbrev cX11_type : ByteArray := prog_13_method_29_code
def yX11_type : MethodName := ⟨RX11, "type", "(II)I"⟩
abbrev cX11_branches : ByteArray := prog_13_method_30_code
def yX11_branches : MethodName := ⟨RX11, "branches", "(II)Z"⟩
abbrev cX11_fits : ByteArray := prog_13_method_31_code
def yX11_fits : MethodName := ⟨RX11, "fits", "(I)Z"⟩
abbrev cX11_isLiteral : ByteArray := prog_13_method_32_code
def yX11_isLiteral : MethodName := ⟨RX11, "isLiteral", "()Z"⟩
abbrev cX11_bitsOf : ByteArray := prog_13_method_33_code
def yX11_bitsOf : MethodName := ⟨RX11, "bitsOf", "(I)J"⟩
abbrev cX11_firstOf : ByteArray := prog_13_method_34_code
def yX11_firstOf : MethodName := ⟨RX11, "firstOf", "(I[I[I)I"⟩
abbrev cX11_elseOf : ByteArray := prog_13_method_35_code
def yX11_elseOf : MethodName := ⟨RX11, "elseOf", "(I)Z"⟩
abbrev cX11_fieldOf : ByteArray := prog_13_method_36_code
def yX11_fieldOf : MethodName := ⟨RX11, "fieldOf", "(IJ)I"⟩
abbrev cX11_field : ByteArray := prog_13_method_37_code
def yX11_field : MethodName := ⟨RX11, "field", "(I)Z"⟩
abbrev cX11_recordOf : ByteArray := prog_13_method_38_code
def yX11_recordOf : MethodName := ⟨RX11, "recordOf", "(IJ)I"⟩
abbrev cX11_record : ByteArray := prog_13_method_39_code
def yX11_record : MethodName := ⟨RX11, "record", "(I)Z"⟩
abbrev cX11_ends : ByteArray := prog_13_method_40_code
def yX11_ends : MethodName := ⟨RX11, "ends", "(II)Z"⟩
abbrev cX11_plan : ByteArray := prog_13_method_41_code
def yX11_plan : MethodName := ⟨RX11, "plan", "()Z"⟩
abbrev cX11_moved : ByteArray := prog_13_method_42_code
def yX11_moved : MethodName := ⟨RX11, "moved", "(I)I"⟩
abbrev cX11_takes : ByteArray := prog_13_method_43_code
def yX11_takes : MethodName := ⟨RX11, "takes", "()V"⟩
abbrev cX11_begins : ByteArray := prog_13_method_44_code
def yX11_begins : MethodName := ⟨RX11, "begins", "(I)V"⟩
abbrev cX11_plans : ByteArray := prog_13_method_45_code
def yX11_plans : MethodName := ⟨RX11, "plans", "(I)I"⟩
abbrev cX11_isPlanAt : ByteArray := prog_13_method_46_code
def yX11_isPlanAt : MethodName := ⟨RX11, "isPlanAt", "(I)Z"⟩
abbrev cX11_record_ : ByteArray := prog_13_method_47_code
def yX11_record_ : MethodName := ⟨RX11, "record", "(III)I"⟩
abbrev cX11_recordIn : ByteArray := prog_13_method_48_code
def yX11_recordIn : MethodName := ⟨RX11, "recordIn", "(I)I"⟩
abbrev cX11_field_ : ByteArray := prog_13_method_49_code
def yX11_field_ : MethodName := ⟨RX11, "field", "(IIII)I"⟩
abbrev cX11_laysNode : ByteArray := prog_13_method_50_code
def yX11_laysNode : MethodName := ⟨RX11, "laysNode", "(IIII)I"⟩
abbrev cX11_joins : ByteArray := prog_13_method_51_code
def yX11_joins : MethodName := ⟨RX11, "joins", "(II)V"⟩
abbrev cX11_fills : ByteArray := prog_13_method_52_code
def yX11_fills : MethodName := ⟨RX11, "fills", "(III)V"⟩
abbrev cX11_isValue : ByteArray := prog_13_method_53_code
def yX11_isValue : MethodName := ⟨RX11, "isValue", "()Z"⟩
abbrev cX11_branchFor : ByteArray := prog_13_method_54_code
def yX11_branchFor : MethodName := ⟨RX11, "branchFor", "(I)I"⟩
abbrev cX11_value : ByteArray := prog_13_method_55_code
def yX11_value : MethodName := ⟨RX11, "value", "(IIIII)Z"⟩
abbrev cX11_items : ByteArray := prog_13_method_56_code
def yX11_items : MethodName := ⟨RX11, "items", "(IIII)Z"⟩
abbrev cX11_hasChild : ByteArray := prog_13_method_57_code
def yX11_hasChild : MethodName := ⟨RX11, "hasChild", "(II)Z"⟩
abbrev cX11_parts : ByteArray := prog_13_method_58_code
def yX11_parts : MethodName := ⟨RX11, "parts", "(IIII)Z"⟩
abbrev cX11_writesByte : ByteArray := prog_13_method_59_code
def yX11_writesByte : MethodName := ⟨RX11, "writesByte", "(J)V"⟩
abbrev cX11_writesNumber : ByteArray := prog_13_method_60_code
def yX11_writesNumber : MethodName := ⟨RX11, "writesNumber", "(J)V"⟩
abbrev cX11_writesText : ByteArray := prog_13_method_61_code
def yX11_writesText : MethodName := ⟨RX11, "writesText", "(I)V"⟩
abbrev cX11_writes : ByteArray := prog_13_method_62_code
def yX11_writes : MethodName := ⟨RX11, "writes", "(I)V"⟩
abbrev cX11_isMessage : ByteArray := prog_13_method_63_code
def yX11_isMessage : MethodName := ⟨RX11, "isMessage", "(I)Z"⟩
abbrev cX11_becomes : ByteArray := prog_13_method_64_code
def yX11_becomes : MethodName := ⟨RX11, "becomes", "(II)V"⟩
abbrev cX11_writesTree : ByteArray := prog_13_method_65_code
def yX11_writesTree : MethodName := ⟨RX11, "writesTree", "(I)V"⟩
abbrev cX11_rootType : ByteArray := prog_13_method_66_code
def yX11_rootType : MethodName := ⟨RX11, "rootType", "()I"⟩
abbrev cX11_write : ByteArray := prog_13_method_67_code
def yX11_write : MethodName := ⟨RX11, "write", "(III)I"⟩
abbrev cX11_message : ByteArray := prog_13_method_68_code
def yX11_message : MethodName := ⟨RX11, "message", "(II)I"⟩
abbrev cX11_isByte : ByteArray := prog_13_method_69_code
def yX11_isByte : MethodName := ⟨RX11, "isByte", "(II)Z"⟩
abbrev cX11_byteAt_ : ByteArray := prog_13_method_70_code
def yX11_byteAt_ : MethodName := ⟨RX11, "byteAt", "(II)I"⟩
abbrev cX11_spoil : ByteArray := prog_13_method_71_code
def yX11_spoil : MethodName := ⟨RX11, "spoil", "(III)I"⟩
abbrev cX11_cut : ByteArray := prog_13_method_72_code
def yX11_cut : MethodName := ⟨RX11, "cut", "(II)I"⟩
abbrev cX11_namesMay : ByteArray := prog_13_method_73_code
def yX11_namesMay : MethodName := ⟨RX11, "namesMay", "(II)Z"⟩
abbrev cX11_fieldFor : ByteArray := prog_13_method_74_code
def yX11_fieldFor : MethodName := ⟨RX11, "fieldFor", "(II)I"⟩
abbrev cX11_match : ByteArray := prog_13_method_75_code
def yX11_match : MethodName := ⟨RX11, "match", "(II)Z"⟩
abbrev cX11_chosen : ByteArray := prog_13_method_76_code
def yX11_chosen : MethodName := ⟨RX11, "chosen", "(II)I"⟩
abbrev cX11_holds : ByteArray := prog_13_method_77_code
def yX11_holds : MethodName := ⟨RX11, "holds", "(II)Z"⟩
abbrev cX11_laysPairs : ByteArray := prog_13_method_78_code
def yX11_laysPairs : MethodName := ⟨RX11, "laysPairs", "(II)V"⟩
abbrev cX11_misses : ByteArray := prog_13_method_79_code
def yX11_misses : MethodName := ⟨RX11, "misses", "(I)V"⟩
abbrev cX11_enters : ByteArray := prog_13_method_80_code
def yX11_enters : MethodName := ⟨RX11, "enters", "(I)V"⟩
abbrev cX11_looksAt : ByteArray := prog_13_method_81_code
def yX11_looksAt : MethodName := ⟨RX11, "looksAt", "(II)V"⟩
abbrev cX11_looksAtRecords : ByteArray := prog_13_method_82_code
def yX11_looksAtRecords : MethodName := ⟨RX11, "looksAtRecords", "(II)V"⟩
abbrev cX11_laysMisses : ByteArray := prog_13_method_83_code
def yX11_laysMisses : MethodName := ⟨RX11, "laysMisses", "(II)V"⟩
abbrev cX11_verdict : ByteArray := prog_13_method_84_code
def yX11_verdict : MethodName := ⟨RX11, "verdict", "(II)I"⟩
abbrev cX11_matches : ByteArray := prog_13_method_85_code
def yX11_matches : MethodName := ⟨RX11, "matches", "(II)I"⟩
abbrev cX11_miss : ByteArray := prog_13_method_86_code
def yX11_miss : MethodName := ⟨RX11, "miss", "(IIII)I"⟩
abbrev cX11_missStep : ByteArray := prog_13_method_87_code
def yX11_missStep : MethodName := ⟨RX11, "missStep", "(IIII)I"⟩
abbrev cX11_readers : ByteArray := prog_13_method_88_code
def yX11_readers : MethodName := ⟨RX11, "readers", "(II)I"⟩
abbrev cX11_fails : ByteArray := prog_13_method_89_code
def yX11_fails : MethodName := ⟨RX11, "fails", "(II)Z"⟩
abbrev cX11_nextByte : ByteArray := prog_13_method_90_code
def yX11_nextByte : MethodName := ⟨RX11, "nextByte", "()I"⟩
abbrev cX11_readsNumber : ByteArray := prog_13_method_91_code
def yX11_readsNumber : MethodName := ⟨RX11, "readsNumber", "(I)Z"⟩
abbrev cX11_readsInt : ByteArray := prog_13_method_92_code
def yX11_readsInt : MethodName := ⟨RX11, "readsInt", "(IJJ)Z"⟩
abbrev cX11_readsReal : ByteArray := prog_13_method_93_code
def yX11_readsReal : MethodName := ⟨RX11, "readsReal", "()Z"⟩
abbrev cX11_readsText : ByteArray := prog_13_method_94_code
def yX11_readsText : MethodName := ⟨RX11, "readsText", "(I)Z"⟩
abbrev cX11_readsFlag : ByteArray := prog_13_method_95_code
def yX11_readsFlag : MethodName := ⟨RX11, "readsFlag", "(I)Z"⟩
abbrev cX11_reads : ByteArray := prog_13_method_96_code
def yX11_reads : MethodName := ⟨RX11, "reads", "(IIIII)Z"⟩
abbrev cX11_readsLeaf : ByteArray := prog_13_method_97_code
def yX11_readsLeaf : MethodName := ⟨RX11, "readsLeaf", "(III)Z"⟩
abbrev cX11_readsItems : ByteArray := prog_13_method_98_code
def yX11_readsItems : MethodName := ⟨RX11, "readsItems", "(IIII)Z"⟩
abbrev cX11_readsRecord : ByteArray := prog_13_method_99_code
def yX11_readsRecord : MethodName := ⟨RX11, "readsRecord", "(IIII)Z"⟩
abbrev cX11_readsAll : ByteArray := prog_13_method_100_code
def yX11_readsAll : MethodName := ⟨RX11, "readsAll", "(II)I"⟩
abbrev cX11_tells : ByteArray := prog_13_method_101_code
def yX11_tells : MethodName := ⟨RX11, "tells", "(II)V"⟩
abbrev cX11_readsFor : ByteArray := prog_13_method_102_code
def yX11_readsFor : MethodName := ⟨RX11, "readsFor", "(II)I"⟩
abbrev cX11_read : ByteArray := prog_13_method_103_code
def yX11_read : MethodName := ⟨RX11, "read", "(II)I"⟩
abbrev cX11_failure : ByteArray := prog_13_method_104_code
def yX11_failure : MethodName := ⟨RX11, "failure", "(I)I"⟩
abbrev cX11_failureStep : ByteArray := prog_13_method_105_code
def yX11_failureStep : MethodName := ⟨RX11, "failureStep", "(I)I"⟩
abbrev cX11_node : ByteArray := prog_13_method_106_code
def yX11_node : MethodName := ⟨RX11, "node", "(II)I"⟩
abbrev cX11_value_ : ByteArray := prog_13_method_107_code
def yX11_value_ : MethodName := ⟨RX11, "value", "(I)J"⟩
abbrev cX11_letter : ByteArray := prog_13_method_108_code
def yX11_letter : MethodName := ⟨RX11, "letter", "(II)I"⟩
abbrev cX11_convert : ByteArray := prog_13_method_109_code
def yX11_convert : MethodName := ⟨RX11, "convert", "(III)I"⟩
abbrev cX11_orders : ByteArray := prog_13_method_110_code
def yX11_orders : MethodName := ⟨RX11, "orders", "(I)V"⟩
abbrev cX11_alike : ByteArray := prog_13_method_111_code
def yX11_alike : MethodName := ⟨RX11, "alike", "(III)I"⟩
abbrev cX11_uses : ByteArray := prog_13_method_112_code
def yX11_uses : MethodName := ⟨RX11, "uses", "(I)V"⟩
abbrev cX11_kept : ByteArray := prog_13_method_113_code
def yX11_kept : MethodName := ⟨RX11, "kept", "(I)I"⟩
abbrev cX11_messageSet : ByteArray := prog_13_method_114_code
def yX11_messageSet : MethodName := ⟨RX11, "messageSet", "()I"⟩
abbrev cX11_count : ByteArray := prog_13_method_115_code
def yX11_count : MethodName := ⟨RX11, "count", "(I)I"⟩
def RJx145de : String := "java/io/Serializable"
def TJx145de : u_T := fun k => match k with
  | _ => ("", "", "", false)
def tyJx145de : Nat → FieldType := fun k => match k with
  | _ => .int
abbrev wsJx145de0 : List Cond := u_ws RJx145de TJx145de 0
theorem nmJx145de : ∀ a, a < 0 → ∀ b, b < 0 → a ≠ b → (TJx145de a).2.1 ≠ (TJx145de b).2.1 := by decide +kernel
theorem tyJx145de_ok : ∀ k, k < 0 → parseFieldDescriptor (TJx145de k).2.2.1 = some (tyJx145de k) := by decide +kernel
def RJx9f9b0 : String := "java/lang/CharSequence"
def TJx9f9b0 : u_T := fun k => match k with
  | _ => ("", "", "", false)
def tyJx9f9b0 : Nat → FieldType := fun k => match k with
  | _ => .int
abbrev wsJx9f9b00 : List Cond := u_ws RJx9f9b0 TJx9f9b0 0
theorem nmJx9f9b0 : ∀ a, a < 0 → ∀ b, b < 0 → a ≠ b → (TJx9f9b0 a).2.1 ≠ (TJx9f9b0 b).2.1 := by decide +kernel
theorem tyJx9f9b0_ok : ∀ k, k < 0 → parseFieldDescriptor (TJx9f9b0 k).2.2.1 = some (tyJx9f9b0 k) := by decide +kernel
def RJxb160c : String := "java/lang/Comparable"
def TJxb160c : u_T := fun k => match k with
  | _ => ("", "", "", false)
def tyJxb160c : Nat → FieldType := fun k => match k with
  | _ => .int
abbrev wsJxb160c0 : List Cond := u_ws RJxb160c TJxb160c 0
theorem nmJxb160c : ∀ a, a < 0 → ∀ b, b < 0 → a ≠ b → (TJxb160c a).2.1 ≠ (TJxb160c b).2.1 := by decide +kernel
theorem tyJxb160c_ok : ∀ k, k < 0 → parseFieldDescriptor (TJxb160c k).2.2.1 = some (tyJxb160c k) := by decide +kernel
def RJxe99ae : String := "java/lang/Double"
def TJxe99ae : u_T := fun k => match k with
  | _ => ("", "", "", false)
def tyJxe99ae : Nat → FieldType := fun k => match k with
  | _ => .int
abbrev wsJxe99ae0 : List Cond := u_ws RJxe99ae TJxe99ae 0
theorem nmJxe99ae : ∀ a, a < 0 → ∀ b, b < 0 → a ≠ b → (TJxe99ae a).2.1 ≠ (TJxe99ae b).2.1 := by decide +kernel
theorem tyJxe99ae_ok : ∀ k, k < 0 → parseFieldDescriptor (TJxe99ae k).2.2.1 = some (tyJxe99ae k) := by decide +kernel
abbrev cJxe99ae_isNaN_b9ae7 : ByteArray := prog_17_method_6_code
def yJxe99ae_isNaN_b9ae7 : MethodName := ⟨RJxe99ae, "isNaN", "(D)Z"⟩
abbrev cJxe99ae_doubleToLongBits_ccdee : ByteArray := prog_17_method_23_code
def yJxe99ae_doubleToLongBits_ccdee : MethodName := ⟨RJxe99ae, "doubleToLongBits", "(D)J"⟩
def RJ6 : String := "java/lang/Integer"
def TJ6 : u_T := fun k => match k with
  | _ => ("", "", "", false)
def tyJ6 : Nat → FieldType := fun k => match k with
  | _ => .int
abbrev wsJ60 : List Cond := u_ws RJ6 TJ6 0
theorem nmJ6 : ∀ a, a < 0 → ∀ b, b < 0 → a ≠ b → (TJ6 a).2.1 ≠ (TJ6 b).2.1 := by decide +kernel
theorem tyJ6_ok : ∀ k, k < 0 → parseFieldDescriptor (TJ6 k).2.2.1 = some (tyJ6 k) := by decide +kernel
abbrev cJ6_bitCount_0f7a4 : ByteArray := prog_19_method_49_code
def yJ6_bitCount_0f7a4 : MethodName := ⟨RJ6, "bitCount", "(I)I"⟩
def RJ9 : String := "java/lang/Math"
def TJ9 : u_T := fun k => match k with
  | _ => ("", "", "", false)
def tyJ9 : Nat → FieldType := fun k => match k with
  | _ => .int
abbrev wsJ90 : List Cond := u_ws RJ9 TJ9 0
theorem nmJ9 : ∀ a, a < 0 → ∀ b, b < 0 → a ≠ b → (TJ9 a).2.1 ≠ (TJ9 b).2.1 := by decide +kernel
theorem tyJ9_ok : ∀ k, k < 0 → parseFieldDescriptor (TJ9 k).2.2.1 = some (tyJ9 k) := by decide +kernel
abbrev cJ9_floorMod_7cf53 : ByteArray := prog_20_method_50_code
def yJ9_floorMod_7cf53 : MethodName := ⟨RJ9, "floorMod", "(II)I"⟩
abbrev cJ9_max_7cf53 : ByteArray := prog_20_method_65_code
def yJ9_max_7cf53 : MethodName := ⟨RJ9, "max", "(II)I"⟩
abbrev cJ9_min_7cf53 : ByteArray := prog_20_method_69_code
def yJ9_min_7cf53 : MethodName := ⟨RJ9, "min", "(II)I"⟩
def RJxd2413 : String := "java/lang/Number"
def TJxd2413 : u_T := fun k => match k with
  | _ => ("", "", "", false)
def tyJxd2413 : Nat → FieldType := fun k => match k with
  | _ => .int
abbrev wsJxd24130 : List Cond := u_ws RJxd2413 TJxd2413 0
theorem nmJxd2413 : ∀ a, a < 0 → ∀ b, b < 0 → a ≠ b → (TJxd2413 a).2.1 ≠ (TJxd2413 b).2.1 := by decide +kernel
theorem tyJxd2413_ok : ∀ k, k < 0 → parseFieldDescriptor (TJxd2413 k).2.2.1 = some (tyJxd2413 k) := by decide +kernel
def RJ0 : String := "java/lang/String"
def TJ0 : u_T := fun k => match k with
  | _ => ("", "", "", false)
def tyJ0 : Nat → FieldType := fun k => match k with
  | _ => .int
abbrev wsJ00 : List Cond := u_ws RJ0 TJ0 0
theorem nmJ0 : ∀ a, a < 0 → ∀ b, b < 0 → a ≠ b → (TJ0 a).2.1 ≠ (TJ0 b).2.1 := by decide +kernel
theorem tyJ0_ok : ∀ k, k < 0 → parseFieldDescriptor (TJ0 k).2.2.1 = some (tyJ0 k) := by decide +kernel
abbrev cJ0_length_8abf5 : ByteArray := prog_23_method_54_code
def yJ0_length_8abf5 : MethodName := ⟨RJ0, "length", "()I"⟩
abbrev cJ0_charAt_5068e : ByteArray := prog_23_method_56_code
def yJ0_charAt_5068e : MethodName := ⟨RJ0, "charAt", "(I)C"⟩
abbrev cJ0_coder_7d493 : ByteArray := prog_23_method_152_code
def yJ0_coder_7d493 : MethodName := ⟨RJ0, "coder", "()B"⟩
abbrev cJ0_isLatin1_aae02 : ByteArray := prog_23_method_154_code
def yJ0_isLatin1_aae02 : MethodName := ⟨RJ0, "isLatin1", "()Z"⟩
abbrev cJ0_checkIndex_df160 : ByteArray := prog_23_method_155_code
def yJ0_checkIndex_df160 : MethodName := ⟨RJ0, "checkIndex", "(II)V"⟩
def RJ1 : String := "java/lang/StringLatin1"
def TJ1 : u_T := fun k => match k with
  | _ => ("", "", "", false)
def tyJ1 : Nat → FieldType := fun k => match k with
  | _ => .int
abbrev wsJ10 : List Cond := u_ws RJ1 TJ1 0
theorem nmJ1 : ∀ a, a < 0 → ∀ b, b < 0 → a ≠ b → (TJ1 a).2.1 ≠ (TJ1 b).2.1 := by decide +kernel
theorem tyJ1_ok : ∀ k, k < 0 → parseFieldDescriptor (TJ1 k).2.2.1 = some (tyJ1 k) := by decide +kernel
abbrev cJ1_charAt_3b067 : ByteArray := prog_24_method_2_code
def yJ1_charAt_3b067 : MethodName := ⟨RJ1, "charAt", "([BI)C"⟩
def RJ2 : String := "java/lang/StringUTF16"
def TJ2 : u_T := fun k => match k with
  | _ => ("", "", "", false)
def tyJ2 : Nat → FieldType := fun k => match k with
  | _ => .int
abbrev wsJ20 : List Cond := u_ws RJ2 TJ2 0
theorem nmJ2 : ∀ a, a < 0 → ∀ b, b < 0 → a ≠ b → (TJ2 a).2.1 ≠ (TJ2 b).2.1 := by decide +kernel
theorem tyJ2_ok : ∀ k, k < 0 → parseFieldDescriptor (TJ2 k).2.2.1 = some (tyJ2 k) := by decide +kernel
abbrev cJ2_getChar_3b067 : ByteArray := prog_25_method_5_code
def yJ2_getChar_3b067 : MethodName := ⟨RJ2, "getChar", "([BI)C"⟩
abbrev cJ2_length_9d52b : ByteArray := prog_25_method_6_code
def yJ2_length_9d52b : MethodName := ⟨RJ2, "length", "([B)I"⟩
abbrev cJ2_charAt_3b067 : ByteArray := prog_25_method_83_code
def yJ2_charAt_3b067 : MethodName := ⟨RJ2, "charAt", "([BI)C"⟩
abbrev cJ2_checkIndex_2214a : ByteArray := prog_25_method_91_code
def yJ2_checkIndex_2214a : MethodName := ⟨RJ2, "checkIndex", "(I[B)V"⟩
def RJ10 : String := "java/lang/System"
def TJ10 : u_T := fun k => match k with
  | _ => ("", "", "", false)
def tyJ10 : Nat → FieldType := fun k => match k with
  | _ => .int
abbrev wsJ100 : List Cond := u_ws RJ10 TJ10 0
theorem nmJ10 : ∀ a, a < 0 → ∀ b, b < 0 → a ≠ b → (TJ10 a).2.1 ≠ (TJ10 b).2.1 := by decide +kernel
theorem tyJ10_ok : ∀ k, k < 0 → parseFieldDescriptor (TJ10 k).2.2.1 = some (tyJ10 k) := by decide +kernel
def RJxfd54e : String := "java/lang/constant/Constable"
def TJxfd54e : u_T := fun k => match k with
  | _ => ("", "", "", false)
def tyJxfd54e : Nat → FieldType := fun k => match k with
  | _ => .int
abbrev wsJxfd54e0 : List Cond := u_ws RJxfd54e TJxfd54e 0
theorem nmJxfd54e : ∀ a, a < 0 → ∀ b, b < 0 → a ≠ b → (TJxfd54e a).2.1 ≠ (TJxfd54e b).2.1 := by decide +kernel
theorem tyJxfd54e_ok : ∀ k, k < 0 → parseFieldDescriptor (TJxfd54e k).2.2.1 = some (tyJxfd54e k) := by decide +kernel
def RJx3cf43 : String := "java/lang/constant/ConstantDesc"
def TJx3cf43 : u_T := fun k => match k with
  | _ => ("", "", "", false)
def tyJx3cf43 : Nat → FieldType := fun k => match k with
  | _ => .int
abbrev wsJx3cf430 : List Cond := u_ws RJx3cf43 TJx3cf43 0
theorem nmJx3cf43 : ∀ a, a < 0 → ∀ b, b < 0 → a ≠ b → (TJx3cf43 a).2.1 ≠ (TJx3cf43 b).2.1 := by decide +kernel
theorem tyJx3cf43_ok : ∀ k, k < 0 → parseFieldDescriptor (TJx3cf43 k).2.2.1 = some (tyJx3cf43 k) := by decide +kernel
def RJ7 : String := "java/util/Arrays"
def TJ7 : u_T := fun k => match k with
  | _ => ("", "", "", false)
def tyJ7 : Nat → FieldType := fun k => match k with
  | _ => .int
abbrev wsJ70 : List Cond := u_ws RJ7 TJ7 0
theorem nmJ7 : ∀ a, a < 0 → ∀ b, b < 0 → a ≠ b → (TJ7 a).2.1 ≠ (TJ7 b).2.1 := by decide +kernel
theorem tyJ7_ok : ∀ k, k < 0 → parseFieldDescriptor (TJ7 k).2.2.1 = some (tyJ7 k) := by decide +kernel
abbrev cJ7_fill_53178 : ByteArray := prog_30_method_103_code
def yJ7_fill_53178 : MethodName := ⟨RJ7, "fill", "([II)V"⟩
def RJ3 : String := "jdk/internal/util/Preconditions"
def TJ3 : u_T := fun k => match k with
  | _ => ("", "", "", false)
def tyJ3 : Nat → FieldType := fun k => match k with
  | _ => .int
abbrev wsJ30 : List Cond := u_ws RJ3 TJ3 0
theorem nmJ3 : ∀ a, a < 0 → ∀ b, b < 0 → a ≠ b → (TJ3 a).2.1 ≠ (TJ3 b).2.1 := by decide +kernel
theorem tyJ3_ok : ∀ k, k < 0 → parseFieldDescriptor (TJ3 k).2.2.1 = some (tyJ3 k) := by decide +kernel
abbrev cJ3_checkIndex_8e157 : ByteArray := prog_32_method_11_code
def yJ3_checkIndex_8e157 : MethodName := ⟨RJ3, "checkIndex", "(IILjava/util/function/BiFunction;)I"⟩
def RL : String := "ShapeReaderLaw"
abbrev cL_byteAt : ByteArray := method_3_code
def yL_byteAt : MethodName := ⟨RL, "byteAt", "(LShapeReader;II[J)I"⟩
abbrev cL_node : ByteArray := method_4_code
def yL_node : MethodName := ⟨RL, "node", "(LShapeReader;II[J)I"⟩
abbrev cL_value : ByteArray := method_5_code
def yL_value : MethodName := ⟨RL, "value", "(LShapeReader;I[J)I"⟩
abbrev cL_letter : ByteArray := method_6_code
def yL_letter : MethodName := ⟨RL, "letter", "(LShapeReader;II[J)I"⟩
abbrev cL_law : ByteArray := code
def yL_law : MethodName := ⟨RL, "law", "([I)Z"⟩
abbrev vwCl : List vw_C := [(RX0, TX0, 13), (RX1, TX1, 3), (RX2, TX2, 3), (RX3, TX3, 2), (RX4, TX4, 12), (RX5, TX5, 17), (RX6, TX6, 14), (RX7, TX7, 13), (RX8, TX8, 3), (RX9, TX9, 4), (RX10, TX10, 16), (RX11, TX11, 95)]
end
section
/-! the words that the walked methods use: one list, by their places in the tables -/
theorem tin_1 {w : Cond} (h : w ∈ tables_1_1) : w ∈ lw_tbl := List.mem_append_right _ (List.mem_append_left _ h)
theorem tin_2 {w : Cond} (h : w ∈ tables_1_2) : w ∈ lw_tbl := List.mem_append_right _ (List.mem_append_right _ (List.mem_append_left _ h))
theorem tin_3 {w : Cond} (h : w ∈ tables_1_3) : w ∈ lw_tbl := List.mem_append_right _ (List.mem_append_right _ (List.mem_append_right _ (List.mem_append_left _ h)))
theorem tin_4 {w : Cond} (h : w ∈ tables_1_4) : w ∈ lw_tbl := List.mem_append_right _ (List.mem_append_right _ (List.mem_append_right _ (List.mem_append_right _ (List.mem_append_left _ h))))
theorem tin_5 {w : Cond} (h : w ∈ tables_1_5) : w ∈ lw_tbl := List.mem_append_right _ (List.mem_append_right _ (List.mem_append_right _ (List.mem_append_right _ (List.mem_append_right _ (List.mem_append_left _ h)))))
theorem tin_6 {w : Cond} (h : w ∈ tables_1_6) : w ∈ lw_tbl := List.mem_append_right _ (List.mem_append_right _ (List.mem_append_right _ (List.mem_append_right _ (List.mem_append_right _ (List.mem_append_right _ (List.mem_append_left _ h))))))
theorem tin_7 {w : Cond} (h : w ∈ tables_1_7) : w ∈ lw_tbl := List.mem_append_right _ (List.mem_append_right _ (List.mem_append_right _ (List.mem_append_right _ (List.mem_append_right _ (List.mem_append_right _ (List.mem_append_right _ (List.mem_append_left _ h)))))))
theorem tin_8 {w : Cond} (h : w ∈ tables_1_8) : w ∈ lw_tbl := List.mem_append_right _ (List.mem_append_right _ (List.mem_append_right _ (List.mem_append_right _ (List.mem_append_right _ (List.mem_append_right _ (List.mem_append_right _ (List.mem_append_right _ (List.mem_append_left _ h))))))))
theorem tin_9 {w : Cond} (h : w ∈ tables_1_9) : w ∈ lw_tbl := List.mem_append_right _ (List.mem_append_right _ (List.mem_append_right _ (List.mem_append_right _ (List.mem_append_right _ (List.mem_append_right _ (List.mem_append_right _ (List.mem_append_right _ (List.mem_append_right _ (List.mem_append_left _ h)))))))))
theorem tin_10 {w : Cond} (h : w ∈ tables_1_10) : w ∈ lw_tbl := List.mem_append_right _ (List.mem_append_right _ (List.mem_append_right _ (List.mem_append_right _ (List.mem_append_right _ (List.mem_append_right _ (List.mem_append_right _ (List.mem_append_right _ (List.mem_append_right _ (List.mem_append_right _ (h))))))))))
def pw_0 : List Cond := [.arrayClass .byte, .arrayClass .int, .arrayClass .long, .arrayClass .boolean, .initialized RX0, .initialized RX1, .initialized RX2, .initialized RX3, .initialized RX4, .initialized RX5, .initialized RX6, .initialized RX7, .initialized RX8, .initialized RX9, .initialized RX10, .initialized RX11, .methodLink RX10 3 objectInit, .instanceMethod objectInit, .fieldLink RX10 9 "ShapeReader" "tape" "[B", .fieldLink RX10 13 "ShapeReader" "tapeSize" "I", .classLink RX10 17 RX6, .instantiable RX6 14, .methodLink RX10 19 yX6_init, .instanceMethod yX6_init, .fieldLink RX10 22 "ShapeReader" "tokens" "LShapeReader$Tokens;", .classLink RX10 26 RX5, .instantiable RX5 17, .instanceMethod yX5_init, .fieldLink RX10 29 "ShapeReader" "shapes" "LShapeReader$Shapes;", .fieldLink RX10 33 "ShapeReader" "draft" "LShapeReader$Shapes;"]
set_option maxRecDepth 20000 in
theorem pg_0 : GoodIn lw_tbl pw_0 := goodIn_r _ [287, 348, 288, 499, 160, 158, 164, 157, 165, 156, 151, 162, 163, 161, 150, 166, 181, 182, 581, 582, 184, 185, 186, 187, 583, 289, 290, 292, 584, 585] (by decide +kernel) (by decide +kernel)
def pw_1 : List Cond := [.classLink RX10 36 RX3, .instantiable RX3 2, .methodLink RX10 38 yX3_init, .instanceMethod yX3_init, .fieldLink RX10 41 "ShapeReader" "planText" "LShapeReader$PlanText;", .classLink RX10 45 RX1, .instantiable RX1 3, .methodLink RX10 47 yX1_init, .instanceMethod yX1_init, .fieldLink RX10 48 "ShapeReader" "messages" "LShapeReader$Messages;", .classLink RX10 52 RX0, .instantiable RX0 13, .methodLink RX10 54 yX0_init, .instanceMethod yX0_init, .fieldLink RX10 57 "ShapeReader" "matcher" "LShapeReader$Matcher;", .classLink RX10 61 RX9, .instantiable RX9 4, .instanceMethod yX9_init, .fieldLink RX10 64 "ShapeReader" "ways" "LShapeReader$Ways;", .classLink RX10 68 RX7, .instantiable RX7 13, .methodLink RX10 70 yX7_init, .instanceMethod yX7_init, .fieldLink RX10 73 "ShapeReader" "shown" "LShapeReader$Tree;", .fieldLink RX10 77 "ShapeReader" "scratch" "LShapeReader$Tree;", .fieldLink RX10 80 "ShapeReader" "second" "LShapeReader$Tree;", .classLink RX10 83 RX8, .instantiable RX8 3, .methodLink RX10 85 yX8_init, .instanceMethod yX8_init]
set_option maxRecDepth 20000 in
theorem pg_1 : GoodIn lw_tbl pw_1 := goodIn_r _ [349, 350, 351, 352, 586, 362, 363, 364, 365, 587, 381, 382, 383, 384, 588, 429, 430, 432, 589, 451, 452, 453, 454, 590, 591, 592, 500, 501, 502, 503] (by decide +kernel) (by decide +kernel)
def pw_2 : List Cond := [.fieldLink RX10 88 "ShapeReader" "valueText" "LShapeReader$ValueText;", .classLink RX10 92 RX2, .instantiable RX2 3, .methodLink RX10 94 yX2_init, .instanceMethod yX2_init, .fieldLink RX10 95 "ShapeReader" "packer" "LShapeReader$Packer;", .classLink RX10 99 RX4, .instantiable RX4 12, .methodLink RX10 101 yX4_init, .instanceMethod yX4_init, .fieldLink RX10 104 "ShapeReader" "latest" "LShapeReader$Reading;", .fieldLink RX10 108 "ShapeReader" "trial" "LShapeReader$Reading;", .methodLink RX10 111 yX10_feedFour, .instanceMethod yX10_feedFour, .selects RX10 yX10_feedFour yX10_feedFour, .methodLink RX10 114 yX6_begin, .instanceMethod yX6_begin, .selects RX6 yX6_begin yX6_begin, .methodLink RX10 117 yX3_parse, .instanceMethod yX3_parse, .selects RX3 yX3_parse yX3_parse, .methodLink RX10 121 yX6_faultAnswer, .instanceMethod yX6_faultAnswer, .selects RX6 yX6_faultAnswer yX6_faultAnswer, .fieldLink RX10 137 "ShapeReader$Shapes" "planCount" "I", .methodLink RX10 140 yX1_isNumber, .instanceMethod yX1_isNumber, .selects RX1 yX1_isNumber yX1_isNumber, .methodLink RX10 144 yX10_isPlan, .instanceMethod yX10_isPlan]
set_option maxRecDepth 20000 in
theorem pg_2 : GoodIn lw_tbl pw_2 := goodIn_r _ [593, 516, 517, 518, 519, 594, 535, 536, 537, 538, 595, 596, 634, 636, 0, 642, 643, 644, 677, 678, 679, 883, 884, 885, 296, 931, 932, 933, 935, 937] (by decide +kernel) (by decide +kernel)
def pw_3 : List Cond := [.selects RX10 yX10_isPlan yX10_isPlan, .fieldLink RX10 157 "ShapeReader$Packer" "size" "I", .methodLink RX10 160 yX6_refuse, .instanceMethod yX6_refuse, .selects RX6 yX6_refuse yX6_refuse, .methodLink RX10 167 yX5_recordsOf, .instanceMethod yX5_recordsOf, .selects RX5 yX5_recordsOf yX5_recordsOf, .methodLink RX10 205 yX1_isWritten, .instanceMethod yX1_isWritten, .selects RX1 yX1_isWritten yX1_isWritten, .methodLink RX10 214 yX1_hasByte, .instanceMethod yX1_hasByte, .selects RX1 yX1_hasByte yX1_hasByte, .classLink RX10 217 "java/util/NoSuchElementException", .initialized "java/util/NoSuchElementException", .fieldLink RX10 237 "ShapeReader$Matcher" "missCount" "I", .fieldLink RX10 256 "ShapeReader$Reading" "failure" "I", .fieldLink RX10 259 "ShapeReader$Reading" "steps" "I", .fieldLink RX10 262 "ShapeReader$Reading" "failedAt" "I", .methodLink RX10 268 yX7_rowAt, .instanceMethod yX7_rowAt, .selects RX7 yX7_rowAt yX7_rowAt, .fieldLink RX10 298 "ShapeReader$Ways" "size" "I", .methodLink RX10 299 yX9_pairAt, .instanceMethod yX9_pairAt, .selects RX9 yX9_pairAt yX9_pairAt, .methodLink RX10 302 yX1_writtenBits, .instanceMethod yX1_writtenBits, .selects RX1 yX1_writtenBits yX1_writtenBits]
set_option maxRecDepth 20000 in
theorem pg_3 : GoodIn lw_tbl pw_3 := goodIn_r _ [17, 526, 1079, 698, 699, 1090, 686, 687, 1122, 1123, 1124, 1138, 1139, 1140, 1488, 175, 395, 549, 554, 551, 1557, 1461, 1462, 437, 1471, 1298, 1299, 1476, 1477, 1478] (by decide +kernel) (by decide +kernel)
def pw_4 : List Cond := [.fieldLink RX10 305 "ShapeReader$Tree" "size" "I", .fieldLink RX10 306 "ShapeReader$Ways" "found" "I", .fieldLink RX10 309 "ShapeReader$Ways" "notFound" "I", .methodLink RX6 3 objectInit, .fieldLink RX6 11 "ShapeReader$Tokens" "keywords" "[J", .fieldLink RX6 15 "ShapeReader$Tokens" "end" "I", .fieldLink RX6 19 "ShapeReader$Tokens" "next" "I", .fieldLink RX6 22 "ShapeReader$Tokens" "kind" "I", .fieldLink RX6 25 "ShapeReader$Tokens" "start" "I", .fieldLink RX6 28 "ShapeReader$Tokens" "keyword" "I", .fieldLink RX6 31 "ShapeReader$Tokens" "letters" "J", .fieldLink RX6 35 "ShapeReader$Tokens" "digits" "J", .fieldLink RX6 38 "ShapeReader$Tokens" "minus" "Z", .fieldLink RX6 42 "ShapeReader$Tokens" "dotted" "Z", .fieldLink RX6 45 "ShapeReader$Tokens" "tenths" "I", .fieldLink RX6 48 "ShapeReader$Tokens" "faultKind" "I", .fieldLink RX6 51 "ShapeReader$Tokens" "faultPlace" "I", .fieldLink RX6 54 "ShapeReader$Tokens" "tape" "[B", .methodLink RX6 60 yJ0_length_8abf5, .instanceMethod yJ0_length_8abf5, .selects RJ0 yJ0_length_8abf5 yJ0_length_8abf5, .initialized RJ0, .methodLink RX6 66 yJ0_charAt_5068e, .instanceMethod yJ0_charAt_5068e, .selects RJ0 yJ0_charAt_5068e yJ0_charAt_5068e, .methodLink RX6 70 yX6_advance, .instanceMethod yX6_advance, .selects RX6 yX6_advance yX6_advance, .methodLink RX6 73 yX6_refuseAt, .instanceMethod yX6_refuseAt]
set_option maxRecDepth 20000 in
theorem pg_4 : GoodIn lw_tbl pw_4 := goodIn_r _ [460, 439, 441, 189, 240, 241, 242, 243, 246, 248, 249, 252, 253, 254, 255, 256, 257, 239, 191, 192, 193, 152, 201, 202, 203, 646, 647, 648, 701, 702] (by decide +kernel) (by decide +kernel)
def pw_5 : List Cond := [.selects RX6 yX6_refuseAt yX6_refuseAt, .methodLink RX6 77 yX6_signAt, .instanceMethod yX6_signAt, .selects RX6 yX6_signAt yX6_signAt, .methodLink RX5 3 objectInit, .fieldLink RX5 9 "ShapeReader$Shapes" "planCount" "I", .fieldLink RX5 15 "ShapeReader$Shapes" "typeCount" "I", .fieldLink RX5 18 "ShapeReader$Shapes" "recordCounts" "[I", .fieldLink RX5 22 "ShapeReader$Shapes" "rootTypes" "[I", .fieldLink RX5 25 "ShapeReader$Shapes" "fieldCounts" "[I", .fieldLink RX5 28 "ShapeReader$Shapes" "recordNames" "[J", .fieldLink RX5 32 "ShapeReader$Shapes" "elseBits" "[I", .fieldLink RX5 35 "ShapeReader$Shapes" "emptyHeights" "[I", .fieldLink RX5 38 "ShapeReader$Shapes" "fieldNames" "[J", .fieldLink RX5 41 "ShapeReader$Shapes" "formerNames" "[J", .fieldLink RX5 44 "ShapeReader$Shapes" "fieldTypes" "[I", .fieldLink RX5 47 "ShapeReader$Shapes" "elseWorths" "[J", .fieldLink RX5 50 "ShapeReader$Shapes" "sorts" "[I", .fieldLink RX5 53 "ShapeReader$Shapes" "inners" "[I", .fieldLink RX5 56 "ShapeReader$Shapes" "nextBranches" "[I", .fieldLink RX5 59 "ShapeReader$Shapes" "askedNames" "[J", .fieldLink RX5 62 "ShapeReader$Shapes" "askedPlaces" "[I", .methodLink RX3 3 objectInit, .fieldLink RX3 9 "ShapeReader$PlanText" "tokens" "LShapeReader$Tokens;", .fieldLink RX3 15 "ShapeReader$PlanText" "draft" "LShapeReader$Shapes;", .methodLink RX3 19 yX5_clear, .instanceMethod yX5_clear, .selects RX5 yX5_clear yX5_clear, .methodLink RX3 24 yX5_recordsOf, .methodLink RX3 30 yX6_isKeyword]
set_option maxRecDepth 20000 in
theorem pg_5 : GoodIn lw_tbl pw_5 := goodIn_r _ [703, 650, 651, 652, 294, 295, 297, 298, 299, 300, 301, 302, 303, 304, 305, 306, 307, 308, 309, 310, 311, 312, 354, 355, 356, 681, 682, 683, 685, 689] (by decide +kernel) (by decide +kernel)
def pw_6 : List Cond := [.instanceMethod yX6_isKeyword, .selects RX6 yX6_isKeyword yX6_isKeyword, .fieldLink RX3 37 "ShapeReader$Tokens" "kind" "I", .methodLink RX3 41 yX6_refuse, .methodLink RX1 3 objectInit, .fieldLink RX1 9 "ShapeReader$Messages" "bytes" "[B", .fieldLink RX1 15 "ShapeReader$Messages" "sizes" "[I", .fieldLink RX1 19 "ShapeReader$Messages" "plansUsed" "[I", .methodLink RX1 22 yJ7_fill_53178, .static yJ7_fill_53178, .initialized RJ7, .methodLink RX1 28 yX1_isNumber, .methodLink RX1 32 yX1_isWritten, .methodLink RX0 3 objectInit, .fieldLink RX0 9 "ShapeReader$Matcher" "relations" "[J", .fieldLink RX0 15 "ShapeReader$Matcher" "related" "J", .fieldLink RX0 19 "ShapeReader$Matcher" "verdicts" "[I", .fieldLink RX0 23 "ShapeReader$Matcher" "relation" "J", .fieldLink RX0 26 "ShapeReader$Matcher" "missPair" "I", .fieldLink RX0 30 "ShapeReader$Matcher" "missCount" "I", .fieldLink RX0 33 "ShapeReader$Matcher" "missKinds" "[I", .fieldLink RX0 36 "ShapeReader$Matcher" "missSizes" "[I", .fieldLink RX0 39 "ShapeReader$Matcher" "missPaths" "[I", .fieldLink RX0 42 "ShapeReader$Matcher" "path" "[I", .fieldLink RX0 45 "ShapeReader$Matcher" "steps" "I", .fieldLink RX0 48 "ShapeReader$Matcher" "seen" "J", .fieldLink RX0 51 "ShapeReader$Matcher" "shapes" "LShapeReader$Shapes;", .methodLink RX0 55 yJ7_fill_53178, .methodLink RX9 3 objectInit, .fieldLink RX9 11 "ShapeReader$Ways" "pairs" "[I"]
set_option maxRecDepth 20000 in
theorem pg_6 : GoodIn lw_tbl pw_6 := goodIn_r _ [690, 691, 245, 697, 367, 371, 372, 373, 368, 369, 159, 1084, 1142, 386, 389, 390, 391, 392, 393, 394, 396, 397, 398, 399, 400, 401, 388, 387, 434, 435] (by decide +kernel) (by decide +kernel)
def pw_7 : List Cond := [.fieldLink RX9 15 "ShapeReader$Ways" "size" "I", .fieldLink RX9 19 "ShapeReader$Ways" "found" "I", .fieldLink RX9 22 "ShapeReader$Ways" "notFound" "I", .methodLink RX7 3 objectInit, .fieldLink RX7 9 "ShapeReader$Tree" "size" "I", .fieldLink RX7 15 "ShapeReader$Tree" "rows" "I", .fieldLink RX7 18 "ShapeReader$Tree" "sorts" "[I", .fieldLink RX7 22 "ShapeReader$Tree" "parents" "[I", .fieldLink RX7 25 "ShapeReader$Tree" "places" "[I", .fieldLink RX7 28 "ShapeReader$Tree" "sizes" "[I", .fieldLink RX7 31 "ShapeReader$Tree" "filled" "[Z", .fieldLink RX7 35 "ShapeReader$Tree" "worths" "[J", .fieldLink RX7 39 "ShapeReader$Tree" "firsts" "[I", .fieldLink RX7 42 "ShapeReader$Tree" "lasts" "[I", .fieldLink RX7 45 "ShapeReader$Tree" "nexts" "[I", .fieldLink RX7 48 "ShapeReader$Tree" "order" "[I", .fieldLink RX7 51 "ShapeReader$Tree" "numbers" "[I", .methodLink RX8 3 objectInit, .fieldLink RX8 9 "ShapeReader$ValueText" "tokens" "LShapeReader$Tokens;", .fieldLink RX8 15 "ShapeReader$ValueText" "shapes" "LShapeReader$Shapes;", .fieldLink RX8 19 "ShapeReader$ValueText" "tree" "LShapeReader$Tree;", .methodLink RX2 3 objectInit, .fieldLink RX2 9 "ShapeReader$Packer" "bytes" "[B", .fieldLink RX2 15 "ShapeReader$Packer" "size" "I", .fieldLink RX2 19 "ShapeReader$Packer" "shapes" "LShapeReader$Shapes;", .methodLink RX4 3 objectInit, .fieldLink RX4 9 "ShapeReader$Reading" "message" "I", .fieldLink RX4 15 "ShapeReader$Reading" "next" "I", .fieldLink RX4 18 "ShapeReader$Reading" "end" "I", .fieldLink RX4 21 "ShapeReader$Reading" "failure" "I"]
set_option maxRecDepth 20000 in
theorem pg_7 : GoodIn lw_tbl pw_7 := goodIn_r _ [436, 438, 440, 456, 458, 457, 461, 462, 463, 464, 465, 466, 467, 468, 469, 470, 471, 505, 506, 507, 508, 521, 523, 525, 522, 540, 545, 546, 547, 548] (by decide +kernel) (by decide +kernel)
def pw_8 : List Cond := [.fieldLink RX4 24 "ShapeReader$Reading" "failedAt" "I", .fieldLink RX4 27 "ShapeReader$Reading" "path" "[I", .fieldLink RX4 31 "ShapeReader$Reading" "steps" "I", .fieldLink RX4 34 "ShapeReader$Reading" "sources" "[I", .fieldLink RX4 37 "ShapeReader$Reading" "shapes" "LShapeReader$Shapes;", .fieldLink RX4 41 "ShapeReader$Reading" "messages" "LShapeReader$Messages;", .fieldLink RX4 45 "ShapeReader$Reading" "matcher" "LShapeReader$Matcher;", .fieldLink RX4 49 "ShapeReader$Reading" "tree" "LShapeReader$Tree;", .fieldLink RJ0 9 "java/lang/String" "value" "[B", .methodLink RJ0 335 yJ0_coder_7d493, .instanceMethod yJ0_coder_7d493, .selects RJ0 yJ0_coder_7d493 yJ0_coder_7d493, .fieldLink RJ0 38 "java/lang/String" "COMPACT_STRINGS" "Z", .fieldLink RJ0 15 "java/lang/String" "coder" "B", .fieldLink RJ0 1053 "jdk/internal/util/Preconditions" "SIOOBE_FORMATTER" "Ljava/util/function/BiFunction;", .methodLink RJ0 1059 yJ3_checkIndex_8e157, .static yJ3_checkIndex_8e157, .initialized RJ3, .methodLink RJ0 492 yJ0_isLatin1_aae02, .instanceMethod yJ0_isLatin1_aae02, .selects RJ0 yJ0_isLatin1_aae02 yJ0_isLatin1_aae02, .methodLink RJ0 495 yJ1_charAt_3b067, .static yJ1_charAt_3b067, .initialized RJ1, .methodLink RJ1 9 yJ0_checkIndex_df160, .static yJ0_checkIndex_df160, .methodLink RX11 1 objectInit, .fieldLink RX11 7 "ShapeReaderModel" "tape" "[B", .fieldLink RX11 13 "ShapeReaderModel" "typeSort" "[I", .fieldLink RX11 17 "ShapeReaderModel" "typeArg" "[I"]
set_option maxRecDepth 20000 in
theorem pg_8 : GoodIn lw_tbl pw_8 := goodIn_r _ [550, 552, 553, 555, 541, 542, 543, 544, 2373, 195, 196, 197, 199, 2374, 215, 217, 218, 154, 205, 206, 207, 209, 210, 153, 212, 213, 1590, 1592, 1605, 1606] (by decide +kernel) (by decide +kernel)
def pw_9 : List Cond := [.fieldLink RX11 20 "ShapeReaderModel" "typeMany" "[I", .fieldLink RX11 23 "ShapeReaderModel" "branch" "[I", .fieldLink RX11 26 "ShapeReaderModel" "typeName" "[J", .fieldLink RX11 30 "ShapeReaderModel" "typePlace" "[I", .fieldLink RX11 33 "ShapeReaderModel" "recordMany" "[I", .fieldLink RX11 36 "ShapeReaderModel" "recordName" "[J", .fieldLink RX11 39 "ShapeReaderModel" "recordLetters" "[I", .fieldLink RX11 42 "ShapeReaderModel" "fieldMany" "[I", .fieldLink RX11 45 "ShapeReaderModel" "fieldName" "[J", .fieldLink RX11 48 "ShapeReaderModel" "fieldLetters" "[I", .fieldLink RX11 51 "ShapeReaderModel" "fieldWas" "[J", .fieldLink RX11 54 "ShapeReaderModel" "fieldType" "[I", .fieldLink RX11 57 "ShapeReaderModel" "hasElse" "[Z", .fieldLink RX11 61 "ShapeReaderModel" "elseBits" "[J", .fieldLink RX11 64 "ShapeReaderModel" "elseText" "[J", .fieldLink RX11 67 "ShapeReaderModel" "elseLetters" "[I", .fieldLink RX11 70 "ShapeReaderModel" "nodeSort" "[I", .fieldLink RX11 73 "ShapeReaderModel" "nodeBits" "[J", .fieldLink RX11 76 "ShapeReaderModel" "nodeText" "[J", .fieldLink RX11 79 "ShapeReaderModel" "nodeHas" "[I", .fieldLink RX11 82 "ShapeReaderModel" "nodeParent" "[I", .fieldLink RX11 85 "ShapeReaderModel" "nodeIndex" "[I", .fieldLink RX11 88 "ShapeReaderModel" "nodeBranch" "[I", .fieldLink RX11 91 "ShapeReaderModel" "nodeFilled" "[Z", .fieldLink RX11 94 "ShapeReaderModel" "nodeFirst" "[I", .fieldLink RX11 97 "ShapeReaderModel" "nodeLast" "[I", .fieldLink RX11 100 "ShapeReaderModel" "nodeNext" "[I", .fieldLink RX11 103 "ShapeReaderModel" "written" "[B", .fieldLink RX11 106 "ShapeReaderModel" "messagePlan" "[I", .fieldLink RX11 109 "ShapeReaderModel" "messageMany" "[I"]
set_option maxRecDepth 20000 in
theorem pg_9 : GoodIn lw_tbl pw_9 := goodIn_r _ [1607, 1608, 1609, 1610, 1611, 1612, 1613, 1614, 1615, 1616, 1617, 1618, 1619, 1620, 1621, 1622, 1626, 1627, 1628, 1629, 1630, 1631, 1632, 1633, 1634, 1635, 1636, 1638, 1641, 1642] (by decide +kernel) (by decide +kernel)
def pw_10 : List Cond := [.fieldLink RX11 112 "ShapeReaderModel" "bytes" "[B", .fieldLink RX11 115 "ShapeReaderModel" "pair" "[Z", .fieldLink RX11 118 "ShapeReaderModel" "step" "[I", .fieldLink RX11 121 "ShapeReaderModel" "missKind" "[I", .fieldLink RX11 124 "ShapeReaderModel" "missSteps" "[I", .fieldLink RX11 127 "ShapeReaderModel" "missPath" "[I", .fieldLink RX11 130 "ShapeReaderModel" "looked" "[Z", .fieldLink RX11 133 "ShapeReaderModel" "failPath" "[I", .fieldLink RX11 136 "ShapeReaderModel" "toldSort" "[I", .fieldLink RX11 139 "ShapeReaderModel" "toldParent" "[I", .fieldLink RX11 142 "ShapeReaderModel" "toldIndex" "[I", .fieldLink RX11 145 "ShapeReaderModel" "toldHas" "[I", .fieldLink RX11 148 "ShapeReaderModel" "toldFilled" "[Z", .fieldLink RX11 151 "ShapeReaderModel" "toldBits" "[J", .fieldLink RX11 154 "ShapeReaderModel" "toldText" "[J", .fieldLink RX11 157 "ShapeReaderModel" "failurePath" "[I", .fieldLink RX11 160 "ShapeReaderModel" "orderOf" "[I", .fieldLink RX11 163 "ShapeReaderModel" "alikeNumbers" "[I", .fieldLink RX11 166 "ShapeReaderModel" "alikeLongs" "[J", .fieldLink RX11 169 "ShapeReaderModel" "firstNumbers" "[I", .fieldLink RX11 172 "ShapeReaderModel" "firstLongs" "[J", .fieldLink RX11 175 "ShapeReaderModel" "keptPair" "[I", .fieldLink RX11 178 "ShapeReaderModel" "thrown" "I", .fieldLink RX11 182 "ShapeReaderModel" "taped" "I", .methodLink RX11 185 yX11_puts, .instanceMethod yX11_puts, .selects RX11 yX11_puts yX11_puts, .methodLink RX11 196 yX11_within, .static yX11_within, .methodLink RX11 383 yX11_begins]
set_option maxRecDepth 20000 in
theorem pg_10 : GoodIn lw_tbl pw_10 := goodIn_r _ [1643, 1646, 1647, 1649, 1650, 1651, 1653, 1660, 1665, 1666, 1667, 1668, 1669, 1670, 1671, 1675, 1676, 1677, 1678, 1680, 1681, 1682, 1591, 1593, 1885, 1887, 66, 1893, 1894, 1896] (by decide +kernel) (by decide +kernel)
def pw_11 : List Cond := [.instanceMethod yX11_begins, .selects RX11 yX11_begins yX11_begins, .fieldLink RX11 368 "ShapeReaderModel" "readPlans" "I", .fieldLink RX11 318 "ShapeReaderModel" "types" "I", .methodLink RX11 386 yX11_plan, .instanceMethod yX11_plan, .selects RX11 yX11_plan yX11_plan, .fieldLink RX11 244 "ShapeReaderModel" "token" "I", .fieldLink RX11 265 "ShapeReaderModel" "fault" "I", .fieldLink RX11 392 "ShapeReaderModel" "nodeMany" "I", .fieldLink RX11 395 "ShapeReaderModel" "failureKind" "I", .fieldLink RX11 398 "ShapeReaderModel" "keptMany" "I", .fieldLink RX11 401 "ShapeReaderModel" "found" "I", .fieldLink RX11 404 "ShapeReaderModel" "notFound" "I", .fieldLink RX11 377 "ShapeReaderModel" "planMany" "I", .fieldLink RX11 189 "ShapeReaderModel" "size" "I", .fieldLink RX11 211 "ShapeReaderModel" "next" "I", .methodLink RX11 275 yX11_go, .instanceMethod yX11_go, .selects RX11 yX11_go yX11_go, .methodLink RX11 214 yX11_byteAt, .instanceMethod yX11_byteAt, .selects RX11 yX11_byteAt yX11_byteAt, .fieldLink RX11 250 "ShapeReaderModel" "at" "I", .fieldLink RX11 253 "ShapeReaderModel" "sign" "I", .fieldLink RX11 208 "ShapeReaderModel" "letterMany" "I", .methodLink RX11 290 yX11_isPlan, .instanceMethod yX11_isPlan, .selects RX11 yX11_isPlan yX11_isPlan, .methodLink RX11 272 yX11_wrongHere]
set_option maxRecDepth 20000 in
theorem pg_11 : GoodIn lw_tbl pw_11 := goodIn_r _ [1898, 67, 1624, 1625, 1937, 1939, 73, 1597, 1603, 1664, 1672, 1683, 1684, 1685, 1623, 1594, 1596, 1900, 1902, 68, 1904, 1906, 69, 1595, 1604, 1599, 1941, 1943, 74, 1952] (by decide +kernel) (by decide +kernel)
def pw_12 : List Cond := [.instanceMethod yX11_wrongHere, .selects RX11 yX11_wrongHere yX11_wrongHere, .methodLink RX11 278 yX11_spelt, .static yX11_spelt, .methodLink RX11 282 yX11_isWord, .instanceMethod yX11_isWord, .selects RX11 yX11_isWord yX11_isWord, .constantLong RX11 222 (27), .constantLong RX11 224 (96), .fieldLink RX11 204 "ShapeReaderModel" "letters" "J", .methodLink RX11 268 yX11_wrong, .instanceMethod yX11_wrong, .selects RX11 yX11_wrong yX11_wrong, .methodLink RX11 407 yX11_isPlanAt, .instanceMethod yX11_isPlanAt, .selects RX11 yX11_isPlanAt yX11_isPlanAt, .constantLong RX11 475 (3), .fieldLink RX11 413 "ShapeReaderModel" "trees" "I", .fieldLink RX11 451 "ShapeReaderModel" "isTooLong" "Z", .fieldLink RX11 448 "ShapeReaderModel" "writtenMany" "I", .methodLink RX11 486 yX11_isMessage, .instanceMethod yX11_isMessage, .selects RX11 yX11_isMessage yX11_isMessage, .methodLink RX11 489 yX11_isByte, .instanceMethod yX11_isByte, .selects RX11 yX11_isByte yX11_isByte, .fieldLink RX11 513 "ShapeReaderModel" "misses" "I", .fieldLink RX11 621 "ShapeReaderModel" "failureSteps" "I", .fieldLink RX11 618 "ShapeReaderModel" "failureByte" "I", .constantLong RX11 627 (4)]
set_option maxRecDepth 20000 in
theorem pg_12 : GoodIn lw_tbl pw_12 := goodIn_r _ [1954, 76, 1945, 1946, 1948, 1950, 75, 1917, 1918, 1598, 1956, 1958, 77, 2070, 2072, 100, 2086, 1637, 1640, 1639, 2159, 2161, 118, 2167, 2169, 119, 1652, 1674, 1673, 2324] (by decide +kernel) (by decide +kernel)
def pw_13 : List Cond := [.fieldLink RX11 629 "ShapeReaderModel" "ordered" "I", .methodLink RX11 635 yX11_messageSet, .instanceMethod yX11_messageSet, .selects RX11 yX11_messageSet yX11_messageSet, .methodLink RL 7 yX10_byteAt, .instanceMethod yX10_byteAt, .selects RX10 yX10_byteAt yX10_byteAt, .methodLink RL 15 yX10_node, .instanceMethod yX10_node, .selects RX10 yX10_node yX10_node, .methodLink RL 18 yX10_value, .instanceMethod yX10_value, .selects RX10 yX10_value yX10_value, .methodLink RL 22 yX10_letter, .instanceMethod yX10_letter, .selects RX10 yX10_letter yX10_letter, .classLink RL 8 RX10, .instantiable RX10 16, .methodLink RL 25 yX10_init, .instanceMethod yX10_init, .classLink RL 26 RX11, .instantiable RX11 95, .methodLink RL 28 yX11_init, .instanceMethod yX11_init, .methodLink RL 29 yX10_feed, .instanceMethod yX10_feed, .selects RX10 yX10_feed yX10_feed, .methodLink RL 33 yX11_feed, .instanceMethod yX11_feed, .selects RX11 yX11_feed yX11_feed]
set_option maxRecDepth 20000 in
theorem pg_13 : GoodIn lw_tbl pw_13 := goodIn_r _ [1679, 2353, 2355, 148, 1484, 1485, 1486, 1553, 1554, 1555, 1573, 1574, 1575, 1581, 1582, 1583, 176, 177, 178, 179, 1585, 1586, 1587, 1588, 630, 631, 632, 1881, 1882, 1883] (by decide +kernel) (by decide +kernel)
def pw_14 : List Cond := [.methodLink RL 34 yX10_plans, .instanceMethod yX10_plans, .selects RX10 yX10_plans yX10_plans, .methodLink RL 38 yX11_plans, .instanceMethod yX11_plans, .selects RX11 yX11_plans yX11_plans, .methodLink RL 39 yX10_write, .instanceMethod yX10_write, .selects RX10 yX10_write yX10_write, .methodLink RL 43 yX11_write, .instanceMethod yX11_write, .selects RX11 yX11_write yX11_write, .methodLink RL 44 yX10_record, .instanceMethod yX10_record, .selects RX10 yX10_record yX10_record, .methodLink RL 47 yX11_record_, .instanceMethod yX11_record_, .selects RX11 yX11_record_ yX11_record_, .methodLink RL 48 yX10_field, .instanceMethod yX10_field, .selects RX10 yX10_field yX10_field, .methodLink RL 52 yX11_field_, .instanceMethod yX11_field_, .selects RX11 yX11_field_ yX11_field_, .methodLink RL 53 yX10_message, .instanceMethod yX10_message, .selects RX10 yX10_message yX10_message, .methodLink RL 56 yX11_message, .instanceMethod yX11_message, .selects RX11 yX11_message yX11_message]
set_option maxRecDepth 20000 in
theorem pg_14 : GoodIn lw_tbl pw_14 := goodIn_r _ [638, 639, 640, 1889, 1890, 1891, 927, 928, 929, 2082, 2083, 2084, 1086, 1087, 1088, 2066, 2067, 2068, 1094, 1095, 1096, 2074, 2075, 2076, 1118, 1119, 1120, 2155, 2156, 2157] (by decide +kernel) (by decide +kernel)
def pw_15 : List Cond := [.methodLink RL 57 yL_byteAt, .static yL_byteAt, .initialized RL, .methodLink RL 62 yX11_byteAt_, .instanceMethod yX11_byteAt_, .selects RX11 yX11_byteAt_ yX11_byteAt_, .methodLink RL 63 yX11_thrown, .instanceMethod yX11_thrown, .selects RX11 yX11_thrown yX11_thrown, .methodLink RL 67 yX10_spoil, .instanceMethod yX10_spoil, .selects RX10 yX10_spoil yX10_spoil, .methodLink RL 70 yX11_spoil, .instanceMethod yX11_spoil, .selects RX11 yX11_spoil yX11_spoil, .methodLink RL 71 yX10_cut, .instanceMethod yX10_cut, .selects RX10 yX10_cut yX10_cut, .methodLink RL 74 yX11_cut, .instanceMethod yX11_cut, .selects RX11 yX11_cut yX11_cut, .methodLink RL 75 yX10_matches, .instanceMethod yX10_matches, .selects RX10 yX10_matches yX10_matches, .methodLink RL 78 yX11_matches, .instanceMethod yX11_matches, .selects RX11 yX11_matches yX11_matches, .methodLink RL 79 yX10_miss, .instanceMethod yX10_miss, .selects RX10 yX10_miss yX10_miss]
set_option maxRecDepth 20000 in
theorem pg_15 : GoodIn lw_tbl pw_15 := goodIn_r _ [1480, 1481, 149, 2163, 2164, 2165, 1877, 1878, 1879, 1134, 1135, 1136, 2171, 2172, 2173, 1152, 1153, 1154, 2175, 2176, 2177, 1161, 1162, 1163, 2179, 2180, 2181, 1257, 1258, 1259] (by decide +kernel) (by decide +kernel)
def pw_16 : List Cond := [.methodLink RL 82 yX11_miss, .instanceMethod yX11_miss, .selects RX11 yX11_miss yX11_miss, .methodLink RL 83 yX10_missStep, .instanceMethod yX10_missStep, .selects RX10 yX10_missStep yX10_missStep, .methodLink RL 86 yX11_missStep, .instanceMethod yX11_missStep, .selects RX11 yX11_missStep yX11_missStep, .methodLink RL 87 yX10_readers, .instanceMethod yX10_readers, .selects RX10 yX10_readers yX10_readers, .methodLink RL 90 yX11_readers, .instanceMethod yX11_readers, .selects RX11 yX11_readers yX11_readers, .methodLink RL 91 yX10_read, .instanceMethod yX10_read, .selects RX10 yX10_read yX10_read, .methodLink RL 94 yX11_read, .instanceMethod yX11_read, .selects RX11 yX11_read yX11_read, .methodLink RL 95 yX10_failure, .instanceMethod yX10_failure, .selects RX10 yX10_failure yX10_failure, .methodLink RL 98 yX11_failure, .instanceMethod yX11_failure, .selects RX11 yX11_failure yX11_failure, .methodLink RL 99 yX10_failureStep, .instanceMethod yX10_failureStep, .selects RX10 yX10_failureStep yX10_failureStep]
set_option maxRecDepth 20000 in
theorem pg_16 : GoodIn lw_tbl pw_16 := goodIn_r _ [2231, 2232, 2233, 1277, 1278, 1279, 2235, 2236, 2237, 1285, 1286, 1287, 2239, 2240, 2241, 1289, 1290, 1291, 2243, 2244, 2245, 1436, 1437, 1438, 2312, 2313, 2314, 1440, 1441, 1442] (by decide +kernel) (by decide +kernel)
def pw_17 : List Cond := [.methodLink RL 102 yX11_failureStep, .instanceMethod yX11_failureStep, .selects RX11 yX11_failureStep yX11_failureStep, .methodLink RL 103 yL_node, .static yL_node, .methodLink RL 105 yX11_node, .instanceMethod yX11_node, .selects RX11 yX11_node yX11_node, .methodLink RL 106 yL_value, .static yL_value, .methodLink RL 109 yX11_value_, .instanceMethod yX11_value_, .selects RX11 yX11_value_ yX11_value_, .methodLink RL 110 yL_letter, .static yL_letter, .methodLink RL 112 yX11_letter, .instanceMethod yX11_letter, .selects RX11 yX11_letter yX11_letter, .methodLink RL 113 yX10_convert, .instanceMethod yX10_convert, .selects RX10 yX10_convert yX10_convert, .methodLink RL 116 yX11_convert, .instanceMethod yX11_convert, .selects RX11 yX11_convert yX11_convert, .methodLink RL 117 yX10_alike, .instanceMethod yX10_alike, .selects RX10 yX10_alike yX10_alike, .methodLink RL 120 yX11_alike, .instanceMethod yX11_alike, .selects RX11 yX11_alike yX11_alike]
set_option maxRecDepth 20000 in
theorem pg_17 : GoodIn lw_tbl pw_17 := goodIn_r _ [2316, 2317, 2318, 1550, 1551, 2320, 2321, 2322, 1570, 1571, 2325, 2326, 2327, 1578, 1579, 2329, 2330, 2331, 1448, 1449, 1450, 2333, 2334, 2335, 1452, 1453, 1454, 2337, 2338, 2339] (by decide +kernel) (by decide +kernel)
def pw_18 : List Cond := [.methodLink RL 121 yX10_kept, .instanceMethod yX10_kept, .selects RX10 yX10_kept yX10_kept, .methodLink RL 124 yX11_kept, .instanceMethod yX11_kept, .selects RX11 yX11_kept yX11_kept, .methodLink RL 125 yX10_count, .instanceMethod yX10_count, .selects RX10 yX10_count yX10_count, .methodLink RL 128 yX11_count, .instanceMethod yX11_count, .selects RX11 yX11_count yX11_count, .classLink RL 13 "java/util/NoSuchElementException"]
set_option maxRecDepth 20000 in
theorem pg_18 : GoodIn lw_tbl pw_18 := goodIn_r _ [1467, 1468, 1469, 2345, 2346, 2347, 1472, 1473, 1474, 2349, 2350, 2351, 1483] (by decide +kernel) (by decide +kernel)
def pw_19 : List Cond := [.code yX10_init cX10_init 1 none, .code objectInit ⟨#[0xb1]⟩ 1 none, .code yX10_feed cX10_feed 6 (some .int), .code yX10_feedFour cX10_feedFour 3 none, .code yX10_plans cX10_plans 2 (some .int), .code yX10_write cX10_write 4 (some .int), .code yX10_isPlan cX10_isPlan 2 (some .boolean), .code yX10_record cX10_record 6 (some .int), .code yX10_field cX10_field 7 (some .int), .code yX10_message cX10_message 3 (some .int), .code yX10_byteAt cX10_byteAt 3 (some .int), .code yX10_spoil cX10_spoil 4 (some .int), .code yX10_cut cX10_cut 3 (some .int), .code yX10_matches cX10_matches 3 (some .int), .code yX10_miss cX10_miss 5 (some .int), .code yX10_missStep cX10_missStep 5 (some .int), .code yX10_readers cX10_readers 5 (some .int), .code yX10_read cX10_read 3 (some .int), .code yX10_failure cX10_failure 2 (some .int), .code yX10_failureStep cX10_failureStep 2 (some .int), .code yX10_node cX10_node 4 (some .int), .code yX10_value cX10_value 3 (some .long), .code yX10_letter cX10_letter 4 (some .int), .code yX10_convert cX10_convert 5 (some .int), .code yX10_alike cX10_alike 6 (some .int), .code yX10_kept cX10_kept 2 (some .int), .code yX10_count cX10_count 2 (some .int), .code yX6_init cX6_init 6 none, .code yX6_begin cX6_begin 2 none, .code yX6_refuse cX6_refuse 2 (some .boolean)]
set_option maxRecDepth 20000 in
theorem pm_19 : ∀ w ∈ pw_19, w ∈ lw_tbl := List.forall_mem_cons.mpr ⟨tin_1 (List.mem_of_getElem? (i := 31) rfl), List.forall_mem_cons.mpr ⟨tin_1 (List.mem_of_getElem? (i := 34) rfl), List.forall_mem_cons.mpr ⟨tin_3 (List.mem_of_getElem? (i := 4) rfl), List.forall_mem_cons.mpr ⟨tin_3 (List.mem_of_getElem? (i := 8) rfl), List.forall_mem_cons.mpr ⟨tin_3 (List.mem_of_getElem? (i := 12) rfl), List.forall_mem_cons.mpr ⟨tin_4 (List.mem_of_getElem? (i := 61) rfl), List.forall_mem_cons.mpr ⟨tin_4 (List.mem_of_getElem? (i := 69) rfl), List.forall_mem_cons.mpr ⟨tin_4 (List.mem_of_getElem? (i := 220) rfl), List.forall_mem_cons.mpr ⟨tin_4 (List.mem_of_getElem? (i := 228) rfl), List.forall_mem_cons.mpr ⟨tin_5 (List.mem_of_getElem? (i := 12) rfl), List.forall_mem_cons.mpr ⟨tin_6 (List.mem_of_getElem? (i := 138) rfl), List.forall_mem_cons.mpr ⟨tin_5 (List.mem_of_getElem? (i := 28) rfl), List.forall_mem_cons.mpr ⟨tin_5 (List.mem_of_getElem? (i := 46) rfl), List.forall_mem_cons.mpr ⟨tin_5 (List.mem_of_getElem? (i := 55) rfl), List.forall_mem_cons.mpr ⟨tin_5 (List.mem_of_getElem? (i := 151) rfl), List.forall_mem_cons.mpr ⟨tin_5 (List.mem_of_getElem? (i := 171) rfl), List.forall_mem_cons.mpr ⟨tin_5 (List.mem_of_getElem? (i := 179) rfl), List.forall_mem_cons.mpr ⟨tin_5 (List.mem_of_getElem? (i := 183) rfl), List.forall_mem_cons.mpr ⟨tin_6 (List.mem_of_getElem? (i := 90) rfl), List.forall_mem_cons.mpr ⟨tin_6 (List.mem_of_getElem? (i := 94) rfl), List.forall_mem_cons.mpr ⟨tin_6 (List.mem_of_getElem? (i := 207) rfl), List.forall_mem_cons.mpr ⟨tin_6 (List.mem_of_getElem? (i := 227) rfl), List.forall_mem_cons.mpr ⟨tin_6 (List.mem_of_getElem? (i := 235) rfl), List.forall_mem_cons.mpr ⟨tin_6 (List.mem_of_getElem? (i := 102) rfl), List.forall_mem_cons.mpr ⟨tin_6 (List.mem_of_getElem? (i := 106) rfl), List.forall_mem_cons.mpr ⟨tin_6 (List.mem_of_getElem? (i := 121) rfl), List.forall_mem_cons.mpr ⟨tin_6 (List.mem_of_getElem? (i := 126) rfl), List.forall_mem_cons.mpr ⟨tin_1 (List.mem_of_getElem? (i := 39) rfl), List.forall_mem_cons.mpr ⟨tin_3 (List.mem_of_getElem? (i := 16) rfl), List.forall_mem_cons.mpr ⟨tin_3 (List.mem_of_getElem? (i := 71) rfl), fun _ h => absurd h List.not_mem_nil⟩⟩⟩⟩⟩⟩⟩⟩⟩⟩⟩⟩⟩⟩⟩⟩⟩⟩⟩⟩⟩⟩⟩⟩⟩⟩⟩⟩⟩⟩
theorem pg_19 : GoodIn lw_tbl pw_19 := goodIn_sub pm_19 (by decide +kernel)
def pw_20 : List Cond := [.code yX6_refuseAt cX6_refuseAt 3 (some .boolean), .code yX6_faultAnswer cX6_faultAnswer 1 (some .int), .code yX6_signAt cX6_signAt 2 (some .int), .code yX6_advance cX6_advance 2 none, .code yX6_isKeyword cX6_isKeyword 2 (some .boolean), .code yX5_init cX5_init 1 none, .code yX5_clear cX5_clear 1 none, .code yX5_recordsOf cX5_recordsOf 2 (some .int), .code yX3_init cX3_init 3 none, .code yX3_parse cX3_parse 6 (some .boolean), .code yX1_init cX1_init 1 none, .code yX1_isNumber cX1_isNumber 2 (some .boolean), .code yX1_isWritten cX1_isWritten 2 (some .boolean), .code yX1_hasByte cX1_hasByte 3 (some .boolean), .code yX1_writtenBits cX1_writtenBits 3 (some .int), .code yX0_init cX0_init 2 none, .code yX9_init cX9_init 1 none, .code yX9_pairAt cX9_pairAt 2 (some .int), .code yX7_init cX7_init 2 none, .code yX7_rowAt cX7_rowAt 2 (some .int), .code yX8_init cX8_init 4 none, .code yX2_init cX2_init 2 none, .code yX4_init cX4_init 5 none, .code yJ7_fill_53178 cJ7_fill_53178 4 none, .code yJ0_length_8abf5 cJ0_length_8abf5 1 (some .int), .code yJ0_coder_7d493 cJ0_coder_7d493 1 (some .byte), .code yJ0_isLatin1_aae02 cJ0_isLatin1_aae02 1 (some .boolean), .code yJ0_checkIndex_df160 cJ0_checkIndex_df160 2 none, .code yJ0_charAt_5068e cJ0_charAt_5068e 2 (some .char), .code yJ3_checkIndex_8e157 cJ3_checkIndex_8e157 3 (some .int)]
set_option maxRecDepth 20000 in
theorem pm_20 : ∀ w ∈ pw_20, w ∈ lw_tbl := List.forall_mem_cons.mpr ⟨tin_3 (List.mem_of_getElem? (i := 75) rfl), List.forall_mem_cons.mpr ⟨tin_4 (List.mem_of_getElem? (i := 17) rfl), List.forall_mem_cons.mpr ⟨tin_3 (List.mem_of_getElem? (i := 24) rfl), List.forall_mem_cons.mpr ⟨tin_3 (List.mem_of_getElem? (i := 20) rfl), List.forall_mem_cons.mpr ⟨tin_3 (List.mem_of_getElem? (i := 63) rfl), List.forall_mem_cons.mpr ⟨tin_1 (List.mem_of_getElem? (i := 144) rfl), List.forall_mem_cons.mpr ⟨tin_3 (List.mem_of_getElem? (i := 55) rfl), List.forall_mem_cons.mpr ⟨tin_3 (List.mem_of_getElem? (i := 59) rfl), List.forall_mem_cons.mpr ⟨tin_1 (List.mem_of_getElem? (i := 204) rfl), List.forall_mem_cons.mpr ⟨tin_3 (List.mem_of_getElem? (i := 51) rfl), List.forall_mem_cons.mpr ⟨tin_1 (List.mem_of_getElem? (i := 217) rfl), List.forall_mem_cons.mpr ⟨tin_4 (List.mem_of_getElem? (i := 65) rfl), List.forall_mem_cons.mpr ⟨tin_5 (List.mem_of_getElem? (i := 16) rfl), List.forall_mem_cons.mpr ⟨tin_5 (List.mem_of_getElem? (i := 32) rfl), List.forall_mem_cons.mpr ⟨tin_6 (List.mem_of_getElem? (i := 130) rfl), List.forall_mem_cons.mpr ⟨tin_1 (List.mem_of_getElem? (i := 236) rfl), List.forall_mem_cons.mpr ⟨tin_2 (List.mem_of_getElem? (i := 44) rfl), List.forall_mem_cons.mpr ⟨tin_5 (List.mem_of_getElem? (i := 191) rfl), List.forall_mem_cons.mpr ⟨tin_2 (List.mem_of_getElem? (i := 66) rfl), List.forall_mem_cons.mpr ⟨tin_6 (List.mem_of_getElem? (i := 114) rfl), List.forall_mem_cons.mpr ⟨tin_2 (List.mem_of_getElem? (i := 115) rfl), List.forall_mem_cons.mpr ⟨tin_2 (List.mem_of_getElem? (i := 131) rfl), List.forall_mem_cons.mpr ⟨tin_2 (List.mem_of_getElem? (i := 150) rfl), List.forall_mem_cons.mpr ⟨tin_1 (List.mem_of_getElem? (i := 221) rfl), List.forall_mem_cons.mpr ⟨tin_1 (List.mem_of_getElem? (i := 45) rfl), List.forall_mem_cons.mpr ⟨tin_1 (List.mem_of_getElem? (i := 49) rfl), List.forall_mem_cons.mpr ⟨tin_1 (List.mem_of_getElem? (i := 59) rfl), List.forall_mem_cons.mpr ⟨tin_1 (List.mem_of_getElem? (i := 65) rfl), List.forall_mem_cons.mpr ⟨tin_1 (List.mem_of_getElem? (i := 55) rfl), List.forall_mem_cons.mpr ⟨tin_1 (List.mem_of_getElem? (i := 70) rfl), fun _ h => absurd h List.not_mem_nil⟩⟩⟩⟩⟩⟩⟩⟩⟩⟩⟩⟩⟩⟩⟩⟩⟩⟩⟩⟩⟩⟩⟩⟩⟩⟩⟩⟩⟩⟩
theorem pg_20 : GoodIn lw_tbl pw_20 := goodIn_sub pm_20 (by decide +kernel)
def pw_21 : List Cond := [.code yJ1_charAt_3b067 cJ1_charAt_3b067 2 (some .char), .code yX11_init cX11_init 1 none, .code yX11_thrown cX11_thrown 1 (some .int), .code yX11_within cX11_within 6 (some .boolean), .code yX11_feed cX11_feed 6 (some .int), .code yX11_puts cX11_puts 3 none, .code yX11_plans cX11_plans 4 (some .int), .code yX11_begins cX11_begins 2 none, .code yX11_go cX11_go 2 none, .code yX11_byteAt cX11_byteAt 2 (some .int), .code yX11_plan cX11_plan 4 (some .boolean), .code yX11_isPlan cX11_isPlan 1 (some .boolean), .code yX11_spelt cX11_spelt 10 (some .long), .code yX11_isWord cX11_isWord 3 (some .boolean), .code yX11_wrongHere cX11_wrongHere 2 (some .boolean), .code yX11_wrong cX11_wrong 3 (some .boolean), .code yX11_isPlanAt cX11_isPlanAt 2 (some .boolean), .code yX11_record_ cX11_record_ 5 (some .int), .code yX11_field_ cX11_field_ 8 (some .int), .code yX11_isMessage cX11_isMessage 2 (some .boolean), .code yX11_write cX11_write 5 (some .int), .code yX11_message cX11_message 3 (some .int), .code yX11_byteAt_ cX11_byteAt_ 3 (some .int), .code yX11_isByte cX11_isByte 3 (some .boolean), .code yX11_spoil cX11_spoil 5 (some .int), .code yX11_cut cX11_cut 4 (some .int), .code yX11_matches cX11_matches 3 (some .int), .code yX11_miss cX11_miss 5 (some .int), .code yX11_missStep cX11_missStep 5 (some .int), .code yX11_readers cX11_readers 5 (some .int)]
set_option maxRecDepth 20000 in
theorem pm_21 : ∀ w ∈ pw_21, w ∈ lw_tbl := List.forall_mem_cons.mpr ⟨tin_1 (List.mem_of_getElem? (i := 62) rfl), List.forall_mem_cons.mpr ⟨tin_7 (List.mem_of_getElem? (i := 0) rfl), List.forall_mem_cons.mpr ⟨tin_8 (List.mem_of_getElem? (i := 51) rfl), List.forall_mem_cons.mpr ⟨tin_8 (List.mem_of_getElem? (i := 66) rfl), List.forall_mem_cons.mpr ⟨tin_8 (List.mem_of_getElem? (i := 55) rfl), List.forall_mem_cons.mpr ⟨tin_8 (List.mem_of_getElem? (i := 59) rfl), List.forall_mem_cons.mpr ⟨tin_8 (List.mem_of_getElem? (i := 63) rfl), List.forall_mem_cons.mpr ⟨tin_8 (List.mem_of_getElem? (i := 70) rfl), List.forall_mem_cons.mpr ⟨tin_8 (List.mem_of_getElem? (i := 74) rfl), List.forall_mem_cons.mpr ⟨tin_8 (List.mem_of_getElem? (i := 78) rfl), List.forall_mem_cons.mpr ⟨tin_8 (List.mem_of_getElem? (i := 111) rfl), List.forall_mem_cons.mpr ⟨tin_8 (List.mem_of_getElem? (i := 115) rfl), List.forall_mem_cons.mpr ⟨tin_8 (List.mem_of_getElem? (i := 118) rfl), List.forall_mem_cons.mpr ⟨tin_8 (List.mem_of_getElem? (i := 122) rfl), List.forall_mem_cons.mpr ⟨tin_8 (List.mem_of_getElem? (i := 126) rfl), List.forall_mem_cons.mpr ⟨tin_8 (List.mem_of_getElem? (i := 130) rfl), List.forall_mem_cons.mpr ⟨tin_9 (List.mem_of_getElem? (i := 4) rfl), List.forall_mem_cons.mpr ⟨tin_9 (List.mem_of_getElem? (i := 0) rfl), List.forall_mem_cons.mpr ⟨tin_9 (List.mem_of_getElem? (i := 8) rfl), List.forall_mem_cons.mpr ⟨tin_9 (List.mem_of_getElem? (i := 93) rfl), List.forall_mem_cons.mpr ⟨tin_9 (List.mem_of_getElem? (i := 16) rfl), List.forall_mem_cons.mpr ⟨tin_9 (List.mem_of_getElem? (i := 89) rfl), List.forall_mem_cons.mpr ⟨tin_9 (List.mem_of_getElem? (i := 97) rfl), List.forall_mem_cons.mpr ⟨tin_9 (List.mem_of_getElem? (i := 101) rfl), List.forall_mem_cons.mpr ⟨tin_9 (List.mem_of_getElem? (i := 105) rfl), List.forall_mem_cons.mpr ⟨tin_9 (List.mem_of_getElem? (i := 109) rfl), List.forall_mem_cons.mpr ⟨tin_9 (List.mem_of_getElem? (i := 113) rfl), List.forall_mem_cons.mpr ⟨tin_9 (List.mem_of_getElem? (i := 165) rfl), List.forall_mem_cons.mpr ⟨tin_9 (List.mem_of_getElem? (i := 169) rfl), List.forall_mem_cons.mpr ⟨tin_9 (List.mem_of_getElem? (i := 173) rfl), fun _ h => absurd h List.not_mem_nil⟩⟩⟩⟩⟩⟩⟩⟩⟩⟩⟩⟩⟩⟩⟩⟩⟩⟩⟩⟩⟩⟩⟩⟩⟩⟩⟩⟩⟩⟩
theorem pg_21 : GoodIn lw_tbl pw_21 := goodIn_sub pm_21 (by decide +kernel)
def pw_22 : List Cond := [.code yX11_read cX11_read 4 (some .int), .code yX11_failure cX11_failure 2 (some .int), .code yX11_failureStep cX11_failureStep 2 (some .int), .code yX11_node cX11_node 3 (some .int), .code yX11_value_ cX11_value_ 2 (some .long), .code yX11_letter cX11_letter 6 (some .int), .code yX11_convert cX11_convert 5 (some .int), .code yX11_alike cX11_alike 8 (some .int), .code yX11_kept cX11_kept 2 (some .int), .code yX11_count cX11_count 2 (some .int), .code yX11_messageSet cX11_messageSet 3 (some .int), .codeWith yL_byteAt cL_byteAt 5 (some .int) [(0, 10, 13, 13)], .codeWith yL_node cL_node 5 (some .int) [(0, 10, 13, 13)], .codeWith yL_value cL_value 4 (some .int) [(0, 8, 11, 13)], .codeWith yL_letter cL_letter 5 (some .int) [(0, 10, 13, 13)]]
set_option maxRecDepth 20000 in
theorem pm_22 : ∀ w ∈ pw_22, w ∈ lw_tbl := List.forall_mem_cons.mpr ⟨tin_9 (List.mem_of_getElem? (i := 177) rfl), List.forall_mem_cons.mpr ⟨tin_10 (List.mem_of_getElem? (i := 6) rfl), List.forall_mem_cons.mpr ⟨tin_10 (List.mem_of_getElem? (i := 10) rfl), List.forall_mem_cons.mpr ⟨tin_10 (List.mem_of_getElem? (i := 14) rfl), List.forall_mem_cons.mpr ⟨tin_10 (List.mem_of_getElem? (i := 19) rfl), List.forall_mem_cons.mpr ⟨tin_10 (List.mem_of_getElem? (i := 23) rfl), List.forall_mem_cons.mpr ⟨tin_10 (List.mem_of_getElem? (i := 27) rfl), List.forall_mem_cons.mpr ⟨tin_10 (List.mem_of_getElem? (i := 31) rfl), List.forall_mem_cons.mpr ⟨tin_10 (List.mem_of_getElem? (i := 39) rfl), List.forall_mem_cons.mpr ⟨tin_10 (List.mem_of_getElem? (i := 43) rfl), List.forall_mem_cons.mpr ⟨tin_10 (List.mem_of_getElem? (i := 47) rfl), List.forall_mem_cons.mpr ⟨tin_6 (List.mem_of_getElem? (i := 133) rfl), List.forall_mem_cons.mpr ⟨tin_6 (List.mem_of_getElem? (i := 203) rfl), List.forall_mem_cons.mpr ⟨tin_6 (List.mem_of_getElem? (i := 223) rfl), List.forall_mem_cons.mpr ⟨tin_6 (List.mem_of_getElem? (i := 231) rfl), fun _ h => absurd h List.not_mem_nil⟩⟩⟩⟩⟩⟩⟩⟩⟩⟩⟩⟩⟩⟩⟩
theorem pg_22 : GoodIn lw_tbl pw_22 := goodIn_sub pm_22 (by decide +kernel)
set_option maxRecDepth 20000 in
theorem pgc_X0 : GoodIn lw_tbl wsX00 := goodIn_r _ [402, 404, 406, 408, 410, 412, 414, 416, 418, 420, 422, 424, 426] (by decide +kernel) (by decide +kernel)
set_option maxRecDepth 20000 in
theorem pgc_X1 : GoodIn lw_tbl wsX10 := goodIn_r _ [374, 376, 378] (by decide +kernel) (by decide +kernel)
set_option maxRecDepth 20000 in
theorem pgc_X2 : GoodIn lw_tbl wsX20 := goodIn_r _ [528, 530, 532] (by decide +kernel) (by decide +kernel)
set_option maxRecDepth 20000 in
theorem pgc_X3 : GoodIn lw_tbl wsX30 := goodIn_r _ [357, 359] (by decide +kernel) (by decide +kernel)
set_option maxRecDepth 20000 in
theorem pgc_X4 : GoodIn lw_tbl wsX40 := goodIn_r _ [556, 558, 560, 562, 564, 566, 568, 570, 572, 574, 576, 578] (by decide +kernel) (by decide +kernel)
set_option maxRecDepth 20000 in
theorem pgc_X5 : GoodIn lw_tbl wsX50 := goodIn_r _ [313, 315, 317, 319, 321, 323, 325, 327, 329, 331, 333, 335, 337, 339, 341, 343, 345] (by decide +kernel) (by decide +kernel)
set_option maxRecDepth 20000 in
theorem pgc_X6 : GoodIn lw_tbl wsX60 := goodIn_r _ [258, 260, 262, 264, 266, 268, 270, 272, 274, 276, 278, 280, 282, 284] (by decide +kernel) (by decide +kernel)
set_option maxRecDepth 20000 in
theorem pgc_X7 : GoodIn lw_tbl wsX70 := goodIn_r _ [472, 474, 476, 478, 480, 482, 484, 486, 488, 490, 492, 494, 496] (by decide +kernel) (by decide +kernel)
set_option maxRecDepth 20000 in
theorem pgc_X8 : GoodIn lw_tbl wsX80 := goodIn_r _ [509, 511, 513] (by decide +kernel) (by decide +kernel)
set_option maxRecDepth 20000 in
theorem pgc_X9 : GoodIn lw_tbl wsX90 := goodIn_r _ [442, 444, 446, 448] (by decide +kernel) (by decide +kernel)
set_option maxRecDepth 20000 in
theorem pgc_X10 : GoodIn lw_tbl wsX100 := goodIn_r _ [597, 599, 601, 603, 605, 607, 609, 611, 613, 615, 617, 619, 621, 623, 625, 627] (by decide +kernel) (by decide +kernel)
set_option maxRecDepth 20000 in
theorem pgc_X11 : GoodIn lw_tbl wsX110 := goodIn_r _ [1686, 1688, 1690, 1692, 1694, 1696, 1698, 1700, 1702, 1704, 1706, 1708, 1710, 1712, 1714, 1716, 1718, 1720, 1722, 1724, 1726, 1728, 1730, 1732, 1734, 1736, 1738, 1740, 1742, 1744, 1746, 1748, 1750, 1752, 1754, 1756, 1758, 1760, 1762, 1764, 1766, 1768, 1770, 1772, 1774, 1776, 1778, 1780, 1782, 1784, 1786, 1788, 1790, 1792, 1794, 1796, 1798, 1800, 1802, 1804, 1806, 1808, 1810, 1812, 1814, 1816, 1818, 1820, 1822, 1824, 1826, 1828, 1830, 1832, 1834, 1836, 1838, 1840, 1842, 1844, 1846, 1848, 1850, 1852, 1854, 1856, 1858, 1860, 1862, 1864, 1866, 1868, 1870, 1872, 1874] (by decide +kernel) (by decide +kernel)
def pw : List Cond := pw_0 ++ (pw_1 ++ (pw_2 ++ (pw_3 ++ (pw_4 ++ (pw_5 ++ (pw_6 ++ (pw_7 ++ (pw_8 ++ (pw_9 ++ (pw_10 ++ (pw_11 ++ (pw_12 ++ (pw_13 ++ (pw_14 ++ (pw_15 ++ (pw_16 ++ (pw_17 ++ (pw_18 ++ (pw_19 ++ (pw_20 ++ (pw_21 ++ (pw_22 ++ (wsX00 ++ (wsX10 ++ (wsX20 ++ (wsX30 ++ (wsX40 ++ (wsX50 ++ (wsX60 ++ (wsX70 ++ (wsX80 ++ (wsX90 ++ (wsX100 ++ (wsX110))))))))))))))))))))))))))))))))))
theorem pw_good : GoodIn lw_tbl pw := goodIn_app pg_0 (goodIn_app pg_1 (goodIn_app pg_2 (goodIn_app pg_3 (goodIn_app pg_4 (goodIn_app pg_5 (goodIn_app pg_6 (goodIn_app pg_7 (goodIn_app pg_8 (goodIn_app pg_9 (goodIn_app pg_10 (goodIn_app pg_11 (goodIn_app pg_12 (goodIn_app pg_13 (goodIn_app pg_14 (goodIn_app pg_15 (goodIn_app pg_16 (goodIn_app pg_17 (goodIn_app pg_18 (goodIn_app pg_19 (goodIn_app pg_20 (goodIn_app pg_21 (goodIn_app pg_22 (goodIn_app pgc_X0 (goodIn_app pgc_X1 (goodIn_app pgc_X2 (goodIn_app pgc_X3 (goodIn_app pgc_X4 (goodIn_app pgc_X5 (goodIn_app pgc_X6 (goodIn_app pgc_X7 (goodIn_app pgc_X8 (goodIn_app pgc_X9 (goodIn_app pgc_X10 (pgc_X11))))))))))))))))))))))))))))))))))
theorem pw_in : ∀ w ∈ pw, w ∈ lw_tbl := fun w h => (pw_good w h).1
theorem pw_self : GoodIn pw pw := fun w h => ⟨h, (pw_good w h).2⟩
theorem pin_0 {w : Cond} (h : w ∈ pw_0) : w ∈ pw := List.mem_append_left _ (h)
theorem pin_1 {w : Cond} (h : w ∈ pw_1) : w ∈ pw := List.mem_append_right _ (List.mem_append_left _ (h))
theorem pin_2 {w : Cond} (h : w ∈ pw_2) : w ∈ pw := List.mem_append_right _ (List.mem_append_right _ (List.mem_append_left _ (h)))
theorem pin_3 {w : Cond} (h : w ∈ pw_3) : w ∈ pw := List.mem_append_right _ (List.mem_append_right _ (List.mem_append_right _ (List.mem_append_left _ (h))))
theorem pin_4 {w : Cond} (h : w ∈ pw_4) : w ∈ pw := List.mem_append_right _ (List.mem_append_right _ (List.mem_append_right _ (List.mem_append_right _ (List.mem_append_left _ (h)))))
theorem pin_5 {w : Cond} (h : w ∈ pw_5) : w ∈ pw := List.mem_append_right _ (List.mem_append_right _ (List.mem_append_right _ (List.mem_append_right _ (List.mem_append_right _ (List.mem_append_left _ (h))))))
theorem pin_6 {w : Cond} (h : w ∈ pw_6) : w ∈ pw := List.mem_append_right _ (List.mem_append_right _ (List.mem_append_right _ (List.mem_append_right _ (List.mem_append_right _ (List.mem_append_right _ (List.mem_append_left _ (h)))))))
theorem pin_7 {w : Cond} (h : w ∈ pw_7) : w ∈ pw := List.mem_append_right _ (List.mem_append_right _ (List.mem_append_right _ (List.mem_append_right _ (List.mem_append_right _ (List.mem_append_right _ (List.mem_append_right _ (List.mem_append_left _ (h))))))))
theorem pin_8 {w : Cond} (h : w ∈ pw_8) : w ∈ pw := List.mem_append_right _ (List.mem_append_right _ (List.mem_append_right _ (List.mem_append_right _ (List.mem_append_right _ (List.mem_append_right _ (List.mem_append_right _ (List.mem_append_right _ (List.mem_append_left _ (h)))))))))
theorem pin_9 {w : Cond} (h : w ∈ pw_9) : w ∈ pw := List.mem_append_right _ (List.mem_append_right _ (List.mem_append_right _ (List.mem_append_right _ (List.mem_append_right _ (List.mem_append_right _ (List.mem_append_right _ (List.mem_append_right _ (List.mem_append_right _ (List.mem_append_left _ (h))))))))))
theorem pin_10 {w : Cond} (h : w ∈ pw_10) : w ∈ pw := List.mem_append_right _ (List.mem_append_right _ (List.mem_append_right _ (List.mem_append_right _ (List.mem_append_right _ (List.mem_append_right _ (List.mem_append_right _ (List.mem_append_right _ (List.mem_append_right _ (List.mem_append_right _ (List.mem_append_left _ (h)))))))))))
theorem pin_11 {w : Cond} (h : w ∈ pw_11) : w ∈ pw := List.mem_append_right _ (List.mem_append_right _ (List.mem_append_right _ (List.mem_append_right _ (List.mem_append_right _ (List.mem_append_right _ (List.mem_append_right _ (List.mem_append_right _ (List.mem_append_right _ (List.mem_append_right _ (List.mem_append_right _ (List.mem_append_left _ (h))))))))))))
theorem pin_12 {w : Cond} (h : w ∈ pw_12) : w ∈ pw := List.mem_append_right _ (List.mem_append_right _ (List.mem_append_right _ (List.mem_append_right _ (List.mem_append_right _ (List.mem_append_right _ (List.mem_append_right _ (List.mem_append_right _ (List.mem_append_right _ (List.mem_append_right _ (List.mem_append_right _ (List.mem_append_right _ (List.mem_append_left _ (h)))))))))))))
theorem pin_13 {w : Cond} (h : w ∈ pw_13) : w ∈ pw := List.mem_append_right _ (List.mem_append_right _ (List.mem_append_right _ (List.mem_append_right _ (List.mem_append_right _ (List.mem_append_right _ (List.mem_append_right _ (List.mem_append_right _ (List.mem_append_right _ (List.mem_append_right _ (List.mem_append_right _ (List.mem_append_right _ (List.mem_append_right _ (List.mem_append_left _ (h))))))))))))))
theorem pin_14 {w : Cond} (h : w ∈ pw_14) : w ∈ pw := List.mem_append_right _ (List.mem_append_right _ (List.mem_append_right _ (List.mem_append_right _ (List.mem_append_right _ (List.mem_append_right _ (List.mem_append_right _ (List.mem_append_right _ (List.mem_append_right _ (List.mem_append_right _ (List.mem_append_right _ (List.mem_append_right _ (List.mem_append_right _ (List.mem_append_right _ (List.mem_append_left _ (h)))))))))))))))
theorem pin_15 {w : Cond} (h : w ∈ pw_15) : w ∈ pw := List.mem_append_right _ (List.mem_append_right _ (List.mem_append_right _ (List.mem_append_right _ (List.mem_append_right _ (List.mem_append_right _ (List.mem_append_right _ (List.mem_append_right _ (List.mem_append_right _ (List.mem_append_right _ (List.mem_append_right _ (List.mem_append_right _ (List.mem_append_right _ (List.mem_append_right _ (List.mem_append_right _ (List.mem_append_left _ (h))))))))))))))))
theorem pin_16 {w : Cond} (h : w ∈ pw_16) : w ∈ pw := List.mem_append_right _ (List.mem_append_right _ (List.mem_append_right _ (List.mem_append_right _ (List.mem_append_right _ (List.mem_append_right _ (List.mem_append_right _ (List.mem_append_right _ (List.mem_append_right _ (List.mem_append_right _ (List.mem_append_right _ (List.mem_append_right _ (List.mem_append_right _ (List.mem_append_right _ (List.mem_append_right _ (List.mem_append_right _ (List.mem_append_left _ (h)))))))))))))))))
theorem pin_17 {w : Cond} (h : w ∈ pw_17) : w ∈ pw := List.mem_append_right _ (List.mem_append_right _ (List.mem_append_right _ (List.mem_append_right _ (List.mem_append_right _ (List.mem_append_right _ (List.mem_append_right _ (List.mem_append_right _ (List.mem_append_right _ (List.mem_append_right _ (List.mem_append_right _ (List.mem_append_right _ (List.mem_append_right _ (List.mem_append_right _ (List.mem_append_right _ (List.mem_append_right _ (List.mem_append_right _ (List.mem_append_left _ (h))))))))))))))))))
theorem pin_18 {w : Cond} (h : w ∈ pw_18) : w ∈ pw := List.mem_append_right _ (List.mem_append_right _ (List.mem_append_right _ (List.mem_append_right _ (List.mem_append_right _ (List.mem_append_right _ (List.mem_append_right _ (List.mem_append_right _ (List.mem_append_right _ (List.mem_append_right _ (List.mem_append_right _ (List.mem_append_right _ (List.mem_append_right _ (List.mem_append_right _ (List.mem_append_right _ (List.mem_append_right _ (List.mem_append_right _ (List.mem_append_right _ (List.mem_append_left _ (h)))))))))))))))))))
theorem pin_19 {w : Cond} (h : w ∈ pw_19) : w ∈ pw := List.mem_append_right _ (List.mem_append_right _ (List.mem_append_right _ (List.mem_append_right _ (List.mem_append_right _ (List.mem_append_right _ (List.mem_append_right _ (List.mem_append_right _ (List.mem_append_right _ (List.mem_append_right _ (List.mem_append_right _ (List.mem_append_right _ (List.mem_append_right _ (List.mem_append_right _ (List.mem_append_right _ (List.mem_append_right _ (List.mem_append_right _ (List.mem_append_right _ (List.mem_append_right _ (List.mem_append_left _ (h))))))))))))))))))))
theorem pin_20 {w : Cond} (h : w ∈ pw_20) : w ∈ pw := List.mem_append_right _ (List.mem_append_right _ (List.mem_append_right _ (List.mem_append_right _ (List.mem_append_right _ (List.mem_append_right _ (List.mem_append_right _ (List.mem_append_right _ (List.mem_append_right _ (List.mem_append_right _ (List.mem_append_right _ (List.mem_append_right _ (List.mem_append_right _ (List.mem_append_right _ (List.mem_append_right _ (List.mem_append_right _ (List.mem_append_right _ (List.mem_append_right _ (List.mem_append_right _ (List.mem_append_right _ (List.mem_append_left _ (h)))))))))))))))))))))
theorem pin_21 {w : Cond} (h : w ∈ pw_21) : w ∈ pw := List.mem_append_right _ (List.mem_append_right _ (List.mem_append_right _ (List.mem_append_right _ (List.mem_append_right _ (List.mem_append_right _ (List.mem_append_right _ (List.mem_append_right _ (List.mem_append_right _ (List.mem_append_right _ (List.mem_append_right _ (List.mem_append_right _ (List.mem_append_right _ (List.mem_append_right _ (List.mem_append_right _ (List.mem_append_right _ (List.mem_append_right _ (List.mem_append_right _ (List.mem_append_right _ (List.mem_append_right _ (List.mem_append_right _ (List.mem_append_left _ (h))))))))))))))))))))))
theorem pin_22 {w : Cond} (h : w ∈ pw_22) : w ∈ pw := List.mem_append_right _ (List.mem_append_right _ (List.mem_append_right _ (List.mem_append_right _ (List.mem_append_right _ (List.mem_append_right _ (List.mem_append_right _ (List.mem_append_right _ (List.mem_append_right _ (List.mem_append_right _ (List.mem_append_right _ (List.mem_append_right _ (List.mem_append_right _ (List.mem_append_right _ (List.mem_append_right _ (List.mem_append_right _ (List.mem_append_right _ (List.mem_append_right _ (List.mem_append_right _ (List.mem_append_right _ (List.mem_append_right _ (List.mem_append_right _ (List.mem_append_left _ (h)))))))))))))))))))))))
theorem inlX0 : ∀ w ∈ wsX00, w ∈ pw := fun _ h => List.mem_append_right _ (List.mem_append_right _ (List.mem_append_right _ (List.mem_append_right _ (List.mem_append_right _ (List.mem_append_right _ (List.mem_append_right _ (List.mem_append_right _ (List.mem_append_right _ (List.mem_append_right _ (List.mem_append_right _ (List.mem_append_right _ (List.mem_append_right _ (List.mem_append_right _ (List.mem_append_right _ (List.mem_append_right _ (List.mem_append_right _ (List.mem_append_right _ (List.mem_append_right _ (List.mem_append_right _ (List.mem_append_right _ (List.mem_append_right _ (List.mem_append_right _ (List.mem_append_left _ (h))))))))))))))))))))))))
theorem inlX1 : ∀ w ∈ wsX10, w ∈ pw := fun _ h => List.mem_append_right _ (List.mem_append_right _ (List.mem_append_right _ (List.mem_append_right _ (List.mem_append_right _ (List.mem_append_right _ (List.mem_append_right _ (List.mem_append_right _ (List.mem_append_right _ (List.mem_append_right _ (List.mem_append_right _ (List.mem_append_right _ (List.mem_append_right _ (List.mem_append_right _ (List.mem_append_right _ (List.mem_append_right _ (List.mem_append_right _ (List.mem_append_right _ (List.mem_append_right _ (List.mem_append_right _ (List.mem_append_right _ (List.mem_append_right _ (List.mem_append_right _ (List.mem_append_right _ (List.mem_append_left _ (h)))))))))))))))))))))))))
theorem inlX2 : ∀ w ∈ wsX20, w ∈ pw := fun _ h => List.mem_append_right _ (List.mem_append_right _ (List.mem_append_right _ (List.mem_append_right _ (List.mem_append_right _ (List.mem_append_right _ (List.mem_append_right _ (List.mem_append_right _ (List.mem_append_right _ (List.mem_append_right _ (List.mem_append_right _ (List.mem_append_right _ (List.mem_append_right _ (List.mem_append_right _ (List.mem_append_right _ (List.mem_append_right _ (List.mem_append_right _ (List.mem_append_right _ (List.mem_append_right _ (List.mem_append_right _ (List.mem_append_right _ (List.mem_append_right _ (List.mem_append_right _ (List.mem_append_right _ (List.mem_append_right _ (List.mem_append_left _ (h))))))))))))))))))))))))))
theorem inlX3 : ∀ w ∈ wsX30, w ∈ pw := fun _ h => List.mem_append_right _ (List.mem_append_right _ (List.mem_append_right _ (List.mem_append_right _ (List.mem_append_right _ (List.mem_append_right _ (List.mem_append_right _ (List.mem_append_right _ (List.mem_append_right _ (List.mem_append_right _ (List.mem_append_right _ (List.mem_append_right _ (List.mem_append_right _ (List.mem_append_right _ (List.mem_append_right _ (List.mem_append_right _ (List.mem_append_right _ (List.mem_append_right _ (List.mem_append_right _ (List.mem_append_right _ (List.mem_append_right _ (List.mem_append_right _ (List.mem_append_right _ (List.mem_append_right _ (List.mem_append_right _ (List.mem_append_right _ (List.mem_append_left _ (h)))))))))))))))))))))))))))
theorem inlX4 : ∀ w ∈ wsX40, w ∈ pw := fun _ h => List.mem_append_right _ (List.mem_append_right _ (List.mem_append_right _ (List.mem_append_right _ (List.mem_append_right _ (List.mem_append_right _ (List.mem_append_right _ (List.mem_append_right _ (List.mem_append_right _ (List.mem_append_right _ (List.mem_append_right _ (List.mem_append_right _ (List.mem_append_right _ (List.mem_append_right _ (List.mem_append_right _ (List.mem_append_right _ (List.mem_append_right _ (List.mem_append_right _ (List.mem_append_right _ (List.mem_append_right _ (List.mem_append_right _ (List.mem_append_right _ (List.mem_append_right _ (List.mem_append_right _ (List.mem_append_right _ (List.mem_append_right _ (List.mem_append_right _ (List.mem_append_left _ (h))))))))))))))))))))))))))))
theorem inlX5 : ∀ w ∈ wsX50, w ∈ pw := fun _ h => List.mem_append_right _ (List.mem_append_right _ (List.mem_append_right _ (List.mem_append_right _ (List.mem_append_right _ (List.mem_append_right _ (List.mem_append_right _ (List.mem_append_right _ (List.mem_append_right _ (List.mem_append_right _ (List.mem_append_right _ (List.mem_append_right _ (List.mem_append_right _ (List.mem_append_right _ (List.mem_append_right _ (List.mem_append_right _ (List.mem_append_right _ (List.mem_append_right _ (List.mem_append_right _ (List.mem_append_right _ (List.mem_append_right _ (List.mem_append_right _ (List.mem_append_right _ (List.mem_append_right _ (List.mem_append_right _ (List.mem_append_right _ (List.mem_append_right _ (List.mem_append_right _ (List.mem_append_left _ (h)))))))))))))))))))))))))))))
theorem inlX6 : ∀ w ∈ wsX60, w ∈ pw := fun _ h => List.mem_append_right _ (List.mem_append_right _ (List.mem_append_right _ (List.mem_append_right _ (List.mem_append_right _ (List.mem_append_right _ (List.mem_append_right _ (List.mem_append_right _ (List.mem_append_right _ (List.mem_append_right _ (List.mem_append_right _ (List.mem_append_right _ (List.mem_append_right _ (List.mem_append_right _ (List.mem_append_right _ (List.mem_append_right _ (List.mem_append_right _ (List.mem_append_right _ (List.mem_append_right _ (List.mem_append_right _ (List.mem_append_right _ (List.mem_append_right _ (List.mem_append_right _ (List.mem_append_right _ (List.mem_append_right _ (List.mem_append_right _ (List.mem_append_right _ (List.mem_append_right _ (List.mem_append_right _ (List.mem_append_left _ (h))))))))))))))))))))))))))))))
theorem inlX7 : ∀ w ∈ wsX70, w ∈ pw := fun _ h => List.mem_append_right _ (List.mem_append_right _ (List.mem_append_right _ (List.mem_append_right _ (List.mem_append_right _ (List.mem_append_right _ (List.mem_append_right _ (List.mem_append_right _ (List.mem_append_right _ (List.mem_append_right _ (List.mem_append_right _ (List.mem_append_right _ (List.mem_append_right _ (List.mem_append_right _ (List.mem_append_right _ (List.mem_append_right _ (List.mem_append_right _ (List.mem_append_right _ (List.mem_append_right _ (List.mem_append_right _ (List.mem_append_right _ (List.mem_append_right _ (List.mem_append_right _ (List.mem_append_right _ (List.mem_append_right _ (List.mem_append_right _ (List.mem_append_right _ (List.mem_append_right _ (List.mem_append_right _ (List.mem_append_right _ (List.mem_append_left _ (h)))))))))))))))))))))))))))))))
theorem inlX8 : ∀ w ∈ wsX80, w ∈ pw := fun _ h => List.mem_append_right _ (List.mem_append_right _ (List.mem_append_right _ (List.mem_append_right _ (List.mem_append_right _ (List.mem_append_right _ (List.mem_append_right _ (List.mem_append_right _ (List.mem_append_right _ (List.mem_append_right _ (List.mem_append_right _ (List.mem_append_right _ (List.mem_append_right _ (List.mem_append_right _ (List.mem_append_right _ (List.mem_append_right _ (List.mem_append_right _ (List.mem_append_right _ (List.mem_append_right _ (List.mem_append_right _ (List.mem_append_right _ (List.mem_append_right _ (List.mem_append_right _ (List.mem_append_right _ (List.mem_append_right _ (List.mem_append_right _ (List.mem_append_right _ (List.mem_append_right _ (List.mem_append_right _ (List.mem_append_right _ (List.mem_append_right _ (List.mem_append_left _ (h))))))))))))))))))))))))))))))))
theorem inlX9 : ∀ w ∈ wsX90, w ∈ pw := fun _ h => List.mem_append_right _ (List.mem_append_right _ (List.mem_append_right _ (List.mem_append_right _ (List.mem_append_right _ (List.mem_append_right _ (List.mem_append_right _ (List.mem_append_right _ (List.mem_append_right _ (List.mem_append_right _ (List.mem_append_right _ (List.mem_append_right _ (List.mem_append_right _ (List.mem_append_right _ (List.mem_append_right _ (List.mem_append_right _ (List.mem_append_right _ (List.mem_append_right _ (List.mem_append_right _ (List.mem_append_right _ (List.mem_append_right _ (List.mem_append_right _ (List.mem_append_right _ (List.mem_append_right _ (List.mem_append_right _ (List.mem_append_right _ (List.mem_append_right _ (List.mem_append_right _ (List.mem_append_right _ (List.mem_append_right _ (List.mem_append_right _ (List.mem_append_right _ (List.mem_append_left _ (h)))))))))))))))))))))))))))))))))
theorem inlX10 : ∀ w ∈ wsX100, w ∈ pw := fun _ h => List.mem_append_right _ (List.mem_append_right _ (List.mem_append_right _ (List.mem_append_right _ (List.mem_append_right _ (List.mem_append_right _ (List.mem_append_right _ (List.mem_append_right _ (List.mem_append_right _ (List.mem_append_right _ (List.mem_append_right _ (List.mem_append_right _ (List.mem_append_right _ (List.mem_append_right _ (List.mem_append_right _ (List.mem_append_right _ (List.mem_append_right _ (List.mem_append_right _ (List.mem_append_right _ (List.mem_append_right _ (List.mem_append_right _ (List.mem_append_right _ (List.mem_append_right _ (List.mem_append_right _ (List.mem_append_right _ (List.mem_append_right _ (List.mem_append_right _ (List.mem_append_right _ (List.mem_append_right _ (List.mem_append_right _ (List.mem_append_right _ (List.mem_append_right _ (List.mem_append_right _ (List.mem_append_left _ (h))))))))))))))))))))))))))))))))))
theorem inlX11 : ∀ w ∈ wsX110, w ∈ pw := fun _ h => List.mem_append_right _ (List.mem_append_right _ (List.mem_append_right _ (List.mem_append_right _ (List.mem_append_right _ (List.mem_append_right _ (List.mem_append_right _ (List.mem_append_right _ (List.mem_append_right _ (List.mem_append_right _ (List.mem_append_right _ (List.mem_append_right _ (List.mem_append_right _ (List.mem_append_right _ (List.mem_append_right _ (List.mem_append_right _ (List.mem_append_right _ (List.mem_append_right _ (List.mem_append_right _ (List.mem_append_right _ (List.mem_append_right _ (List.mem_append_right _ (List.mem_append_right _ (List.mem_append_right _ (List.mem_append_right _ (List.mem_append_right _ (List.mem_append_right _ (List.mem_append_right _ (List.mem_append_right _ (List.mem_append_right _ (List.mem_append_right _ (List.mem_append_right _ (List.mem_append_right _ (List.mem_append_right _ (h))))))))))))))))))))))))))))))))))
theorem mw_0_0 : (.arrayClass .byte : Cond) ∈ pw := pin_0 (List.mem_of_getElem? (i := 0) rfl)
theorem mw_0_1 : (.arrayClass .int : Cond) ∈ pw := pin_0 (List.mem_of_getElem? (i := 1) rfl)
theorem mw_0_2 : (.arrayClass .long : Cond) ∈ pw := pin_0 (List.mem_of_getElem? (i := 2) rfl)
theorem mw_0_3 : (.arrayClass .boolean : Cond) ∈ pw := pin_0 (List.mem_of_getElem? (i := 3) rfl)
theorem mw_0_4 : (.initialized RX0 : Cond) ∈ pw := pin_0 (List.mem_of_getElem? (i := 4) rfl)
theorem mw_0_5 : (.initialized RX1 : Cond) ∈ pw := pin_0 (List.mem_of_getElem? (i := 5) rfl)
theorem mw_0_6 : (.initialized RX2 : Cond) ∈ pw := pin_0 (List.mem_of_getElem? (i := 6) rfl)
theorem mw_0_7 : (.initialized RX3 : Cond) ∈ pw := pin_0 (List.mem_of_getElem? (i := 7) rfl)
theorem mw_0_8 : (.initialized RX4 : Cond) ∈ pw := pin_0 (List.mem_of_getElem? (i := 8) rfl)
theorem mw_0_9 : (.initialized RX5 : Cond) ∈ pw := pin_0 (List.mem_of_getElem? (i := 9) rfl)
theorem mw_0_10 : (.initialized RX6 : Cond) ∈ pw := pin_0 (List.mem_of_getElem? (i := 10) rfl)
theorem mw_0_11 : (.initialized RX7 : Cond) ∈ pw := pin_0 (List.mem_of_getElem? (i := 11) rfl)
theorem mw_0_12 : (.initialized RX8 : Cond) ∈ pw := pin_0 (List.mem_of_getElem? (i := 12) rfl)
theorem mw_0_13 : (.initialized RX9 : Cond) ∈ pw := pin_0 (List.mem_of_getElem? (i := 13) rfl)
theorem mw_0_14 : (.initialized RX10 : Cond) ∈ pw := pin_0 (List.mem_of_getElem? (i := 14) rfl)
theorem mw_0_15 : (.initialized RX11 : Cond) ∈ pw := pin_0 (List.mem_of_getElem? (i := 15) rfl)
theorem mw_19_0 : (.code yX10_init cX10_init 1 none : Cond) ∈ pw := pin_19 (List.mem_of_getElem? (i := 0) rfl)
theorem mw_0_16 : (.methodLink RX10 3 objectInit : Cond) ∈ pw := pin_0 (List.mem_of_getElem? (i := 16) rfl)
theorem mw_0_17 : (.instanceMethod objectInit : Cond) ∈ pw := pin_0 (List.mem_of_getElem? (i := 17) rfl)
theorem mw_19_1 : (.code objectInit ⟨#[0xb1]⟩ 1 none : Cond) ∈ pw := pin_19 (List.mem_of_getElem? (i := 1) rfl)
theorem mw_0_18 : (.fieldLink RX10 9 "ShapeReader" "tape" "[B" : Cond) ∈ pw := pin_0 (List.mem_of_getElem? (i := 18) rfl)
theorem mw_0_19 : (.fieldLink RX10 13 "ShapeReader" "tapeSize" "I" : Cond) ∈ pw := pin_0 (List.mem_of_getElem? (i := 19) rfl)
theorem mw_0_20 : (.classLink RX10 17 RX6 : Cond) ∈ pw := pin_0 (List.mem_of_getElem? (i := 20) rfl)
theorem mw_0_21 : (.instantiable RX6 14 : Cond) ∈ pw := pin_0 (List.mem_of_getElem? (i := 21) rfl)
theorem mw_0_22 : (.methodLink RX10 19 yX6_init : Cond) ∈ pw := pin_0 (List.mem_of_getElem? (i := 22) rfl)
theorem mw_0_23 : (.instanceMethod yX6_init : Cond) ∈ pw := pin_0 (List.mem_of_getElem? (i := 23) rfl)
theorem mw_0_24 : (.fieldLink RX10 22 "ShapeReader" "tokens" "LShapeReader$Tokens;" : Cond) ∈ pw := pin_0 (List.mem_of_getElem? (i := 24) rfl)
theorem mw_0_25 : (.classLink RX10 26 RX5 : Cond) ∈ pw := pin_0 (List.mem_of_getElem? (i := 25) rfl)
theorem mw_0_26 : (.instantiable RX5 17 : Cond) ∈ pw := pin_0 (List.mem_of_getElem? (i := 26) rfl)
theorem mw_0_27 : (.instanceMethod yX5_init : Cond) ∈ pw := pin_0 (List.mem_of_getElem? (i := 27) rfl)
theorem mw_0_28 : (.fieldLink RX10 29 "ShapeReader" "shapes" "LShapeReader$Shapes;" : Cond) ∈ pw := pin_0 (List.mem_of_getElem? (i := 28) rfl)
theorem mw_0_29 : (.fieldLink RX10 33 "ShapeReader" "draft" "LShapeReader$Shapes;" : Cond) ∈ pw := pin_0 (List.mem_of_getElem? (i := 29) rfl)
theorem mw_1_0 : (.classLink RX10 36 RX3 : Cond) ∈ pw := pin_1 (List.mem_of_getElem? (i := 0) rfl)
theorem mw_1_1 : (.instantiable RX3 2 : Cond) ∈ pw := pin_1 (List.mem_of_getElem? (i := 1) rfl)
theorem mw_1_2 : (.methodLink RX10 38 yX3_init : Cond) ∈ pw := pin_1 (List.mem_of_getElem? (i := 2) rfl)
theorem mw_1_3 : (.instanceMethod yX3_init : Cond) ∈ pw := pin_1 (List.mem_of_getElem? (i := 3) rfl)
theorem mw_1_4 : (.fieldLink RX10 41 "ShapeReader" "planText" "LShapeReader$PlanText;" : Cond) ∈ pw := pin_1 (List.mem_of_getElem? (i := 4) rfl)
theorem mw_1_5 : (.classLink RX10 45 RX1 : Cond) ∈ pw := pin_1 (List.mem_of_getElem? (i := 5) rfl)
theorem mw_1_6 : (.instantiable RX1 3 : Cond) ∈ pw := pin_1 (List.mem_of_getElem? (i := 6) rfl)
theorem mw_1_7 : (.methodLink RX10 47 yX1_init : Cond) ∈ pw := pin_1 (List.mem_of_getElem? (i := 7) rfl)
theorem mw_1_8 : (.instanceMethod yX1_init : Cond) ∈ pw := pin_1 (List.mem_of_getElem? (i := 8) rfl)
theorem mw_1_9 : (.fieldLink RX10 48 "ShapeReader" "messages" "LShapeReader$Messages;" : Cond) ∈ pw := pin_1 (List.mem_of_getElem? (i := 9) rfl)
theorem mw_1_10 : (.classLink RX10 52 RX0 : Cond) ∈ pw := pin_1 (List.mem_of_getElem? (i := 10) rfl)
theorem mw_1_11 : (.instantiable RX0 13 : Cond) ∈ pw := pin_1 (List.mem_of_getElem? (i := 11) rfl)
theorem mw_1_12 : (.methodLink RX10 54 yX0_init : Cond) ∈ pw := pin_1 (List.mem_of_getElem? (i := 12) rfl)
theorem mw_1_13 : (.instanceMethod yX0_init : Cond) ∈ pw := pin_1 (List.mem_of_getElem? (i := 13) rfl)
theorem mw_1_14 : (.fieldLink RX10 57 "ShapeReader" "matcher" "LShapeReader$Matcher;" : Cond) ∈ pw := pin_1 (List.mem_of_getElem? (i := 14) rfl)
theorem mw_1_15 : (.classLink RX10 61 RX9 : Cond) ∈ pw := pin_1 (List.mem_of_getElem? (i := 15) rfl)
theorem mw_1_16 : (.instantiable RX9 4 : Cond) ∈ pw := pin_1 (List.mem_of_getElem? (i := 16) rfl)
theorem mw_1_17 : (.instanceMethod yX9_init : Cond) ∈ pw := pin_1 (List.mem_of_getElem? (i := 17) rfl)
theorem mw_1_18 : (.fieldLink RX10 64 "ShapeReader" "ways" "LShapeReader$Ways;" : Cond) ∈ pw := pin_1 (List.mem_of_getElem? (i := 18) rfl)
theorem mw_1_19 : (.classLink RX10 68 RX7 : Cond) ∈ pw := pin_1 (List.mem_of_getElem? (i := 19) rfl)
theorem mw_1_20 : (.instantiable RX7 13 : Cond) ∈ pw := pin_1 (List.mem_of_getElem? (i := 20) rfl)
theorem mw_1_21 : (.methodLink RX10 70 yX7_init : Cond) ∈ pw := pin_1 (List.mem_of_getElem? (i := 21) rfl)
theorem mw_1_22 : (.instanceMethod yX7_init : Cond) ∈ pw := pin_1 (List.mem_of_getElem? (i := 22) rfl)
theorem mw_1_23 : (.fieldLink RX10 73 "ShapeReader" "shown" "LShapeReader$Tree;" : Cond) ∈ pw := pin_1 (List.mem_of_getElem? (i := 23) rfl)
theorem mw_1_24 : (.fieldLink RX10 77 "ShapeReader" "scratch" "LShapeReader$Tree;" : Cond) ∈ pw := pin_1 (List.mem_of_getElem? (i := 24) rfl)
theorem mw_1_25 : (.fieldLink RX10 80 "ShapeReader" "second" "LShapeReader$Tree;" : Cond) ∈ pw := pin_1 (List.mem_of_getElem? (i := 25) rfl)
theorem mw_1_26 : (.classLink RX10 83 RX8 : Cond) ∈ pw := pin_1 (List.mem_of_getElem? (i := 26) rfl)
theorem mw_1_27 : (.instantiable RX8 3 : Cond) ∈ pw := pin_1 (List.mem_of_getElem? (i := 27) rfl)
theorem mw_1_28 : (.methodLink RX10 85 yX8_init : Cond) ∈ pw := pin_1 (List.mem_of_getElem? (i := 28) rfl)
theorem mw_1_29 : (.instanceMethod yX8_init : Cond) ∈ pw := pin_1 (List.mem_of_getElem? (i := 29) rfl)
theorem mw_2_0 : (.fieldLink RX10 88 "ShapeReader" "valueText" "LShapeReader$ValueText;" : Cond) ∈ pw := pin_2 (List.mem_of_getElem? (i := 0) rfl)
theorem mw_2_1 : (.classLink RX10 92 RX2 : Cond) ∈ pw := pin_2 (List.mem_of_getElem? (i := 1) rfl)
theorem mw_2_2 : (.instantiable RX2 3 : Cond) ∈ pw := pin_2 (List.mem_of_getElem? (i := 2) rfl)
theorem mw_2_3 : (.methodLink RX10 94 yX2_init : Cond) ∈ pw := pin_2 (List.mem_of_getElem? (i := 3) rfl)
theorem mw_2_4 : (.instanceMethod yX2_init : Cond) ∈ pw := pin_2 (List.mem_of_getElem? (i := 4) rfl)
theorem mw_2_5 : (.fieldLink RX10 95 "ShapeReader" "packer" "LShapeReader$Packer;" : Cond) ∈ pw := pin_2 (List.mem_of_getElem? (i := 5) rfl)
theorem mw_2_6 : (.classLink RX10 99 RX4 : Cond) ∈ pw := pin_2 (List.mem_of_getElem? (i := 6) rfl)
theorem mw_2_7 : (.instantiable RX4 12 : Cond) ∈ pw := pin_2 (List.mem_of_getElem? (i := 7) rfl)
theorem mw_2_8 : (.methodLink RX10 101 yX4_init : Cond) ∈ pw := pin_2 (List.mem_of_getElem? (i := 8) rfl)
theorem mw_2_9 : (.instanceMethod yX4_init : Cond) ∈ pw := pin_2 (List.mem_of_getElem? (i := 9) rfl)
theorem mw_2_10 : (.fieldLink RX10 104 "ShapeReader" "latest" "LShapeReader$Reading;" : Cond) ∈ pw := pin_2 (List.mem_of_getElem? (i := 10) rfl)
theorem mw_2_11 : (.fieldLink RX10 108 "ShapeReader" "trial" "LShapeReader$Reading;" : Cond) ∈ pw := pin_2 (List.mem_of_getElem? (i := 11) rfl)
theorem mw_19_2 : (.code yX10_feed cX10_feed 6 (some .int) : Cond) ∈ pw := pin_19 (List.mem_of_getElem? (i := 2) rfl)
theorem mw_2_12 : (.methodLink RX10 111 yX10_feedFour : Cond) ∈ pw := pin_2 (List.mem_of_getElem? (i := 12) rfl)
theorem mw_2_13 : (.instanceMethod yX10_feedFour : Cond) ∈ pw := pin_2 (List.mem_of_getElem? (i := 13) rfl)
theorem mw_2_14 : (.selects RX10 yX10_feedFour yX10_feedFour : Cond) ∈ pw := pin_2 (List.mem_of_getElem? (i := 14) rfl)
theorem mw_19_3 : (.code yX10_feedFour cX10_feedFour 3 none : Cond) ∈ pw := pin_19 (List.mem_of_getElem? (i := 3) rfl)
theorem mw_19_4 : (.code yX10_plans cX10_plans 2 (some .int) : Cond) ∈ pw := pin_19 (List.mem_of_getElem? (i := 4) rfl)
theorem mw_2_15 : (.methodLink RX10 114 yX6_begin : Cond) ∈ pw := pin_2 (List.mem_of_getElem? (i := 15) rfl)
theorem mw_2_16 : (.instanceMethod yX6_begin : Cond) ∈ pw := pin_2 (List.mem_of_getElem? (i := 16) rfl)
theorem mw_2_17 : (.selects RX6 yX6_begin yX6_begin : Cond) ∈ pw := pin_2 (List.mem_of_getElem? (i := 17) rfl)
theorem mw_2_18 : (.methodLink RX10 117 yX3_parse : Cond) ∈ pw := pin_2 (List.mem_of_getElem? (i := 18) rfl)
theorem mw_2_19 : (.instanceMethod yX3_parse : Cond) ∈ pw := pin_2 (List.mem_of_getElem? (i := 19) rfl)
theorem mw_2_20 : (.selects RX3 yX3_parse yX3_parse : Cond) ∈ pw := pin_2 (List.mem_of_getElem? (i := 20) rfl)
theorem mw_2_21 : (.methodLink RX10 121 yX6_faultAnswer : Cond) ∈ pw := pin_2 (List.mem_of_getElem? (i := 21) rfl)
theorem mw_2_22 : (.instanceMethod yX6_faultAnswer : Cond) ∈ pw := pin_2 (List.mem_of_getElem? (i := 22) rfl)
theorem mw_2_23 : (.selects RX6 yX6_faultAnswer yX6_faultAnswer : Cond) ∈ pw := pin_2 (List.mem_of_getElem? (i := 23) rfl)
theorem mw_2_24 : (.fieldLink RX10 137 "ShapeReader$Shapes" "planCount" "I" : Cond) ∈ pw := pin_2 (List.mem_of_getElem? (i := 24) rfl)
theorem mw_19_5 : (.code yX10_write cX10_write 4 (some .int) : Cond) ∈ pw := pin_19 (List.mem_of_getElem? (i := 5) rfl)
theorem mw_2_25 : (.methodLink RX10 140 yX1_isNumber : Cond) ∈ pw := pin_2 (List.mem_of_getElem? (i := 25) rfl)
theorem mw_2_26 : (.instanceMethod yX1_isNumber : Cond) ∈ pw := pin_2 (List.mem_of_getElem? (i := 26) rfl)
theorem mw_2_27 : (.selects RX1 yX1_isNumber yX1_isNumber : Cond) ∈ pw := pin_2 (List.mem_of_getElem? (i := 27) rfl)
theorem mw_2_28 : (.methodLink RX10 144 yX10_isPlan : Cond) ∈ pw := pin_2 (List.mem_of_getElem? (i := 28) rfl)
theorem mw_2_29 : (.instanceMethod yX10_isPlan : Cond) ∈ pw := pin_2 (List.mem_of_getElem? (i := 29) rfl)
theorem mw_3_0 : (.selects RX10 yX10_isPlan yX10_isPlan : Cond) ∈ pw := pin_3 (List.mem_of_getElem? (i := 0) rfl)
theorem mw_3_1 : (.fieldLink RX10 157 "ShapeReader$Packer" "size" "I" : Cond) ∈ pw := pin_3 (List.mem_of_getElem? (i := 1) rfl)
theorem mw_3_2 : (.methodLink RX10 160 yX6_refuse : Cond) ∈ pw := pin_3 (List.mem_of_getElem? (i := 2) rfl)
theorem mw_3_3 : (.instanceMethod yX6_refuse : Cond) ∈ pw := pin_3 (List.mem_of_getElem? (i := 3) rfl)
theorem mw_3_4 : (.selects RX6 yX6_refuse yX6_refuse : Cond) ∈ pw := pin_3 (List.mem_of_getElem? (i := 4) rfl)
theorem mw_19_6 : (.code yX10_isPlan cX10_isPlan 2 (some .boolean) : Cond) ∈ pw := pin_19 (List.mem_of_getElem? (i := 6) rfl)
theorem mw_19_7 : (.code yX10_record cX10_record 6 (some .int) : Cond) ∈ pw := pin_19 (List.mem_of_getElem? (i := 7) rfl)
theorem mw_3_5 : (.methodLink RX10 167 yX5_recordsOf : Cond) ∈ pw := pin_3 (List.mem_of_getElem? (i := 5) rfl)
theorem mw_3_6 : (.instanceMethod yX5_recordsOf : Cond) ∈ pw := pin_3 (List.mem_of_getElem? (i := 6) rfl)
theorem mw_3_7 : (.selects RX5 yX5_recordsOf yX5_recordsOf : Cond) ∈ pw := pin_3 (List.mem_of_getElem? (i := 7) rfl)
theorem mw_19_8 : (.code yX10_field cX10_field 7 (some .int) : Cond) ∈ pw := pin_19 (List.mem_of_getElem? (i := 8) rfl)
theorem mw_19_9 : (.code yX10_message cX10_message 3 (some .int) : Cond) ∈ pw := pin_19 (List.mem_of_getElem? (i := 9) rfl)
theorem mw_3_8 : (.methodLink RX10 205 yX1_isWritten : Cond) ∈ pw := pin_3 (List.mem_of_getElem? (i := 8) rfl)
theorem mw_3_9 : (.instanceMethod yX1_isWritten : Cond) ∈ pw := pin_3 (List.mem_of_getElem? (i := 9) rfl)
theorem mw_3_10 : (.selects RX1 yX1_isWritten yX1_isWritten : Cond) ∈ pw := pin_3 (List.mem_of_getElem? (i := 10) rfl)
theorem mw_19_10 : (.code yX10_byteAt cX10_byteAt 3 (some .int) : Cond) ∈ pw := pin_19 (List.mem_of_getElem? (i := 10) rfl)
theorem mw_3_11 : (.methodLink RX10 214 yX1_hasByte : Cond) ∈ pw := pin_3 (List.mem_of_getElem? (i := 11) rfl)
theorem mw_3_12 : (.instanceMethod yX1_hasByte : Cond) ∈ pw := pin_3 (List.mem_of_getElem? (i := 12) rfl)
theorem mw_3_13 : (.selects RX1 yX1_hasByte yX1_hasByte : Cond) ∈ pw := pin_3 (List.mem_of_getElem? (i := 13) rfl)
theorem mw_3_14 : (.classLink RX10 217 "java/util/NoSuchElementException" : Cond) ∈ pw := pin_3 (List.mem_of_getElem? (i := 14) rfl)
theorem mw_3_15 : (.initialized "java/util/NoSuchElementException" : Cond) ∈ pw := pin_3 (List.mem_of_getElem? (i := 15) rfl)
theorem mw_19_11 : (.code yX10_spoil cX10_spoil 4 (some .int) : Cond) ∈ pw := pin_19 (List.mem_of_getElem? (i := 11) rfl)
theorem mw_19_12 : (.code yX10_cut cX10_cut 3 (some .int) : Cond) ∈ pw := pin_19 (List.mem_of_getElem? (i := 12) rfl)
theorem mw_19_13 : (.code yX10_matches cX10_matches 3 (some .int) : Cond) ∈ pw := pin_19 (List.mem_of_getElem? (i := 13) rfl)
theorem mw_19_14 : (.code yX10_miss cX10_miss 5 (some .int) : Cond) ∈ pw := pin_19 (List.mem_of_getElem? (i := 14) rfl)
theorem mw_3_16 : (.fieldLink RX10 237 "ShapeReader$Matcher" "missCount" "I" : Cond) ∈ pw := pin_3 (List.mem_of_getElem? (i := 16) rfl)
theorem mw_19_15 : (.code yX10_missStep cX10_missStep 5 (some .int) : Cond) ∈ pw := pin_19 (List.mem_of_getElem? (i := 15) rfl)
theorem mw_19_16 : (.code yX10_readers cX10_readers 5 (some .int) : Cond) ∈ pw := pin_19 (List.mem_of_getElem? (i := 16) rfl)
theorem mw_19_17 : (.code yX10_read cX10_read 3 (some .int) : Cond) ∈ pw := pin_19 (List.mem_of_getElem? (i := 17) rfl)
theorem mw_19_18 : (.code yX10_failure cX10_failure 2 (some .int) : Cond) ∈ pw := pin_19 (List.mem_of_getElem? (i := 18) rfl)
theorem mw_3_17 : (.fieldLink RX10 256 "ShapeReader$Reading" "failure" "I" : Cond) ∈ pw := pin_3 (List.mem_of_getElem? (i := 17) rfl)
theorem mw_3_18 : (.fieldLink RX10 259 "ShapeReader$Reading" "steps" "I" : Cond) ∈ pw := pin_3 (List.mem_of_getElem? (i := 18) rfl)
theorem mw_3_19 : (.fieldLink RX10 262 "ShapeReader$Reading" "failedAt" "I" : Cond) ∈ pw := pin_3 (List.mem_of_getElem? (i := 19) rfl)
theorem mw_19_19 : (.code yX10_failureStep cX10_failureStep 2 (some .int) : Cond) ∈ pw := pin_19 (List.mem_of_getElem? (i := 19) rfl)
theorem mw_19_20 : (.code yX10_node cX10_node 4 (some .int) : Cond) ∈ pw := pin_19 (List.mem_of_getElem? (i := 20) rfl)
theorem mw_3_20 : (.methodLink RX10 268 yX7_rowAt : Cond) ∈ pw := pin_3 (List.mem_of_getElem? (i := 20) rfl)
theorem mw_3_21 : (.instanceMethod yX7_rowAt : Cond) ∈ pw := pin_3 (List.mem_of_getElem? (i := 21) rfl)
theorem mw_3_22 : (.selects RX7 yX7_rowAt yX7_rowAt : Cond) ∈ pw := pin_3 (List.mem_of_getElem? (i := 22) rfl)
theorem mw_19_21 : (.code yX10_value cX10_value 3 (some .long) : Cond) ∈ pw := pin_19 (List.mem_of_getElem? (i := 21) rfl)
theorem mw_19_22 : (.code yX10_letter cX10_letter 4 (some .int) : Cond) ∈ pw := pin_19 (List.mem_of_getElem? (i := 22) rfl)
theorem mw_19_23 : (.code yX10_convert cX10_convert 5 (some .int) : Cond) ∈ pw := pin_19 (List.mem_of_getElem? (i := 23) rfl)
theorem mw_19_24 : (.code yX10_alike cX10_alike 6 (some .int) : Cond) ∈ pw := pin_19 (List.mem_of_getElem? (i := 24) rfl)
theorem mw_19_25 : (.code yX10_kept cX10_kept 2 (some .int) : Cond) ∈ pw := pin_19 (List.mem_of_getElem? (i := 25) rfl)
theorem mw_3_23 : (.fieldLink RX10 298 "ShapeReader$Ways" "size" "I" : Cond) ∈ pw := pin_3 (List.mem_of_getElem? (i := 23) rfl)
theorem mw_3_24 : (.methodLink RX10 299 yX9_pairAt : Cond) ∈ pw := pin_3 (List.mem_of_getElem? (i := 24) rfl)
theorem mw_3_25 : (.instanceMethod yX9_pairAt : Cond) ∈ pw := pin_3 (List.mem_of_getElem? (i := 25) rfl)
theorem mw_3_26 : (.selects RX9 yX9_pairAt yX9_pairAt : Cond) ∈ pw := pin_3 (List.mem_of_getElem? (i := 26) rfl)
theorem mw_19_26 : (.code yX10_count cX10_count 2 (some .int) : Cond) ∈ pw := pin_19 (List.mem_of_getElem? (i := 26) rfl)
theorem mw_3_27 : (.methodLink RX10 302 yX1_writtenBits : Cond) ∈ pw := pin_3 (List.mem_of_getElem? (i := 27) rfl)
theorem mw_3_28 : (.instanceMethod yX1_writtenBits : Cond) ∈ pw := pin_3 (List.mem_of_getElem? (i := 28) rfl)
theorem mw_3_29 : (.selects RX1 yX1_writtenBits yX1_writtenBits : Cond) ∈ pw := pin_3 (List.mem_of_getElem? (i := 29) rfl)
theorem mw_4_0 : (.fieldLink RX10 305 "ShapeReader$Tree" "size" "I" : Cond) ∈ pw := pin_4 (List.mem_of_getElem? (i := 0) rfl)
theorem mw_4_1 : (.fieldLink RX10 306 "ShapeReader$Ways" "found" "I" : Cond) ∈ pw := pin_4 (List.mem_of_getElem? (i := 1) rfl)
theorem mw_4_2 : (.fieldLink RX10 309 "ShapeReader$Ways" "notFound" "I" : Cond) ∈ pw := pin_4 (List.mem_of_getElem? (i := 2) rfl)
theorem mw_19_27 : (.code yX6_init cX6_init 6 none : Cond) ∈ pw := pin_19 (List.mem_of_getElem? (i := 27) rfl)
theorem mw_4_3 : (.methodLink RX6 3 objectInit : Cond) ∈ pw := pin_4 (List.mem_of_getElem? (i := 3) rfl)
theorem mw_4_4 : (.fieldLink RX6 11 "ShapeReader$Tokens" "keywords" "[J" : Cond) ∈ pw := pin_4 (List.mem_of_getElem? (i := 4) rfl)
theorem mw_4_5 : (.fieldLink RX6 15 "ShapeReader$Tokens" "end" "I" : Cond) ∈ pw := pin_4 (List.mem_of_getElem? (i := 5) rfl)
theorem mw_4_6 : (.fieldLink RX6 19 "ShapeReader$Tokens" "next" "I" : Cond) ∈ pw := pin_4 (List.mem_of_getElem? (i := 6) rfl)
theorem mw_4_7 : (.fieldLink RX6 22 "ShapeReader$Tokens" "kind" "I" : Cond) ∈ pw := pin_4 (List.mem_of_getElem? (i := 7) rfl)
theorem mw_4_8 : (.fieldLink RX6 25 "ShapeReader$Tokens" "start" "I" : Cond) ∈ pw := pin_4 (List.mem_of_getElem? (i := 8) rfl)
theorem mw_4_9 : (.fieldLink RX6 28 "ShapeReader$Tokens" "keyword" "I" : Cond) ∈ pw := pin_4 (List.mem_of_getElem? (i := 9) rfl)
theorem mw_4_10 : (.fieldLink RX6 31 "ShapeReader$Tokens" "letters" "J" : Cond) ∈ pw := pin_4 (List.mem_of_getElem? (i := 10) rfl)
theorem mw_4_11 : (.fieldLink RX6 35 "ShapeReader$Tokens" "digits" "J" : Cond) ∈ pw := pin_4 (List.mem_of_getElem? (i := 11) rfl)
theorem mw_4_12 : (.fieldLink RX6 38 "ShapeReader$Tokens" "minus" "Z" : Cond) ∈ pw := pin_4 (List.mem_of_getElem? (i := 12) rfl)
theorem mw_4_13 : (.fieldLink RX6 42 "ShapeReader$Tokens" "dotted" "Z" : Cond) ∈ pw := pin_4 (List.mem_of_getElem? (i := 13) rfl)
theorem mw_4_14 : (.fieldLink RX6 45 "ShapeReader$Tokens" "tenths" "I" : Cond) ∈ pw := pin_4 (List.mem_of_getElem? (i := 14) rfl)
theorem mw_4_15 : (.fieldLink RX6 48 "ShapeReader$Tokens" "faultKind" "I" : Cond) ∈ pw := pin_4 (List.mem_of_getElem? (i := 15) rfl)
theorem mw_4_16 : (.fieldLink RX6 51 "ShapeReader$Tokens" "faultPlace" "I" : Cond) ∈ pw := pin_4 (List.mem_of_getElem? (i := 16) rfl)
theorem mw_4_17 : (.fieldLink RX6 54 "ShapeReader$Tokens" "tape" "[B" : Cond) ∈ pw := pin_4 (List.mem_of_getElem? (i := 17) rfl)
theorem mw_4_18 : (.methodLink RX6 60 yJ0_length_8abf5 : Cond) ∈ pw := pin_4 (List.mem_of_getElem? (i := 18) rfl)
theorem mw_4_19 : (.instanceMethod yJ0_length_8abf5 : Cond) ∈ pw := pin_4 (List.mem_of_getElem? (i := 19) rfl)
theorem mw_4_20 : (.selects RJ0 yJ0_length_8abf5 yJ0_length_8abf5 : Cond) ∈ pw := pin_4 (List.mem_of_getElem? (i := 20) rfl)
theorem mw_4_21 : (.initialized RJ0 : Cond) ∈ pw := pin_4 (List.mem_of_getElem? (i := 21) rfl)
theorem mw_4_22 : (.methodLink RX6 66 yJ0_charAt_5068e : Cond) ∈ pw := pin_4 (List.mem_of_getElem? (i := 22) rfl)
theorem mw_4_23 : (.instanceMethod yJ0_charAt_5068e : Cond) ∈ pw := pin_4 (List.mem_of_getElem? (i := 23) rfl)
theorem mw_4_24 : (.selects RJ0 yJ0_charAt_5068e yJ0_charAt_5068e : Cond) ∈ pw := pin_4 (List.mem_of_getElem? (i := 24) rfl)
theorem mw_19_28 : (.code yX6_begin cX6_begin 2 none : Cond) ∈ pw := pin_19 (List.mem_of_getElem? (i := 28) rfl)
theorem mw_4_25 : (.methodLink RX6 70 yX6_advance : Cond) ∈ pw := pin_4 (List.mem_of_getElem? (i := 25) rfl)
theorem mw_4_26 : (.instanceMethod yX6_advance : Cond) ∈ pw := pin_4 (List.mem_of_getElem? (i := 26) rfl)
theorem mw_4_27 : (.selects RX6 yX6_advance yX6_advance : Cond) ∈ pw := pin_4 (List.mem_of_getElem? (i := 27) rfl)
theorem mw_19_29 : (.code yX6_refuse cX6_refuse 2 (some .boolean) : Cond) ∈ pw := pin_19 (List.mem_of_getElem? (i := 29) rfl)
theorem mw_4_28 : (.methodLink RX6 73 yX6_refuseAt : Cond) ∈ pw := pin_4 (List.mem_of_getElem? (i := 28) rfl)
theorem mw_4_29 : (.instanceMethod yX6_refuseAt : Cond) ∈ pw := pin_4 (List.mem_of_getElem? (i := 29) rfl)
theorem mw_5_0 : (.selects RX6 yX6_refuseAt yX6_refuseAt : Cond) ∈ pw := pin_5 (List.mem_of_getElem? (i := 0) rfl)
theorem mw_20_0 : (.code yX6_refuseAt cX6_refuseAt 3 (some .boolean) : Cond) ∈ pw := pin_20 (List.mem_of_getElem? (i := 0) rfl)
theorem mw_20_1 : (.code yX6_faultAnswer cX6_faultAnswer 1 (some .int) : Cond) ∈ pw := pin_20 (List.mem_of_getElem? (i := 1) rfl)
theorem mw_20_2 : (.code yX6_signAt cX6_signAt 2 (some .int) : Cond) ∈ pw := pin_20 (List.mem_of_getElem? (i := 2) rfl)
theorem mw_20_3 : (.code yX6_advance cX6_advance 2 none : Cond) ∈ pw := pin_20 (List.mem_of_getElem? (i := 3) rfl)
theorem mw_5_1 : (.methodLink RX6 77 yX6_signAt : Cond) ∈ pw := pin_5 (List.mem_of_getElem? (i := 1) rfl)
theorem mw_5_2 : (.instanceMethod yX6_signAt : Cond) ∈ pw := pin_5 (List.mem_of_getElem? (i := 2) rfl)
theorem mw_5_3 : (.selects RX6 yX6_signAt yX6_signAt : Cond) ∈ pw := pin_5 (List.mem_of_getElem? (i := 3) rfl)
theorem mw_20_4 : (.code yX6_isKeyword cX6_isKeyword 2 (some .boolean) : Cond) ∈ pw := pin_20 (List.mem_of_getElem? (i := 4) rfl)
theorem mw_20_5 : (.code yX5_init cX5_init 1 none : Cond) ∈ pw := pin_20 (List.mem_of_getElem? (i := 5) rfl)
theorem mw_5_4 : (.methodLink RX5 3 objectInit : Cond) ∈ pw := pin_5 (List.mem_of_getElem? (i := 4) rfl)
theorem mw_5_5 : (.fieldLink RX5 9 "ShapeReader$Shapes" "planCount" "I" : Cond) ∈ pw := pin_5 (List.mem_of_getElem? (i := 5) rfl)
theorem mw_5_6 : (.fieldLink RX5 15 "ShapeReader$Shapes" "typeCount" "I" : Cond) ∈ pw := pin_5 (List.mem_of_getElem? (i := 6) rfl)
theorem mw_5_7 : (.fieldLink RX5 18 "ShapeReader$Shapes" "recordCounts" "[I" : Cond) ∈ pw := pin_5 (List.mem_of_getElem? (i := 7) rfl)
theorem mw_5_8 : (.fieldLink RX5 22 "ShapeReader$Shapes" "rootTypes" "[I" : Cond) ∈ pw := pin_5 (List.mem_of_getElem? (i := 8) rfl)
theorem mw_5_9 : (.fieldLink RX5 25 "ShapeReader$Shapes" "fieldCounts" "[I" : Cond) ∈ pw := pin_5 (List.mem_of_getElem? (i := 9) rfl)
theorem mw_5_10 : (.fieldLink RX5 28 "ShapeReader$Shapes" "recordNames" "[J" : Cond) ∈ pw := pin_5 (List.mem_of_getElem? (i := 10) rfl)
theorem mw_5_11 : (.fieldLink RX5 32 "ShapeReader$Shapes" "elseBits" "[I" : Cond) ∈ pw := pin_5 (List.mem_of_getElem? (i := 11) rfl)
theorem mw_5_12 : (.fieldLink RX5 35 "ShapeReader$Shapes" "emptyHeights" "[I" : Cond) ∈ pw := pin_5 (List.mem_of_getElem? (i := 12) rfl)
theorem mw_5_13 : (.fieldLink RX5 38 "ShapeReader$Shapes" "fieldNames" "[J" : Cond) ∈ pw := pin_5 (List.mem_of_getElem? (i := 13) rfl)
theorem mw_5_14 : (.fieldLink RX5 41 "ShapeReader$Shapes" "formerNames" "[J" : Cond) ∈ pw := pin_5 (List.mem_of_getElem? (i := 14) rfl)
theorem mw_5_15 : (.fieldLink RX5 44 "ShapeReader$Shapes" "fieldTypes" "[I" : Cond) ∈ pw := pin_5 (List.mem_of_getElem? (i := 15) rfl)
theorem mw_5_16 : (.fieldLink RX5 47 "ShapeReader$Shapes" "elseWorths" "[J" : Cond) ∈ pw := pin_5 (List.mem_of_getElem? (i := 16) rfl)
theorem mw_5_17 : (.fieldLink RX5 50 "ShapeReader$Shapes" "sorts" "[I" : Cond) ∈ pw := pin_5 (List.mem_of_getElem? (i := 17) rfl)
theorem mw_5_18 : (.fieldLink RX5 53 "ShapeReader$Shapes" "inners" "[I" : Cond) ∈ pw := pin_5 (List.mem_of_getElem? (i := 18) rfl)
theorem mw_5_19 : (.fieldLink RX5 56 "ShapeReader$Shapes" "nextBranches" "[I" : Cond) ∈ pw := pin_5 (List.mem_of_getElem? (i := 19) rfl)
theorem mw_5_20 : (.fieldLink RX5 59 "ShapeReader$Shapes" "askedNames" "[J" : Cond) ∈ pw := pin_5 (List.mem_of_getElem? (i := 20) rfl)
theorem mw_5_21 : (.fieldLink RX5 62 "ShapeReader$Shapes" "askedPlaces" "[I" : Cond) ∈ pw := pin_5 (List.mem_of_getElem? (i := 21) rfl)
theorem mw_20_6 : (.code yX5_clear cX5_clear 1 none : Cond) ∈ pw := pin_20 (List.mem_of_getElem? (i := 6) rfl)
theorem mw_20_7 : (.code yX5_recordsOf cX5_recordsOf 2 (some .int) : Cond) ∈ pw := pin_20 (List.mem_of_getElem? (i := 7) rfl)
theorem mw_20_8 : (.code yX3_init cX3_init 3 none : Cond) ∈ pw := pin_20 (List.mem_of_getElem? (i := 8) rfl)
theorem mw_5_22 : (.methodLink RX3 3 objectInit : Cond) ∈ pw := pin_5 (List.mem_of_getElem? (i := 22) rfl)
theorem mw_5_23 : (.fieldLink RX3 9 "ShapeReader$PlanText" "tokens" "LShapeReader$Tokens;" : Cond) ∈ pw := pin_5 (List.mem_of_getElem? (i := 23) rfl)
theorem mw_5_24 : (.fieldLink RX3 15 "ShapeReader$PlanText" "draft" "LShapeReader$Shapes;" : Cond) ∈ pw := pin_5 (List.mem_of_getElem? (i := 24) rfl)
theorem mw_20_9 : (.code yX3_parse cX3_parse 6 (some .boolean) : Cond) ∈ pw := pin_20 (List.mem_of_getElem? (i := 9) rfl)
theorem mw_5_25 : (.methodLink RX3 19 yX5_clear : Cond) ∈ pw := pin_5 (List.mem_of_getElem? (i := 25) rfl)
theorem mw_5_26 : (.instanceMethod yX5_clear : Cond) ∈ pw := pin_5 (List.mem_of_getElem? (i := 26) rfl)
theorem mw_5_27 : (.selects RX5 yX5_clear yX5_clear : Cond) ∈ pw := pin_5 (List.mem_of_getElem? (i := 27) rfl)
theorem mw_5_28 : (.methodLink RX3 24 yX5_recordsOf : Cond) ∈ pw := pin_5 (List.mem_of_getElem? (i := 28) rfl)
theorem mw_5_29 : (.methodLink RX3 30 yX6_isKeyword : Cond) ∈ pw := pin_5 (List.mem_of_getElem? (i := 29) rfl)
theorem mw_6_0 : (.instanceMethod yX6_isKeyword : Cond) ∈ pw := pin_6 (List.mem_of_getElem? (i := 0) rfl)
theorem mw_6_1 : (.selects RX6 yX6_isKeyword yX6_isKeyword : Cond) ∈ pw := pin_6 (List.mem_of_getElem? (i := 1) rfl)
theorem mw_6_2 : (.fieldLink RX3 37 "ShapeReader$Tokens" "kind" "I" : Cond) ∈ pw := pin_6 (List.mem_of_getElem? (i := 2) rfl)
theorem mw_6_3 : (.methodLink RX3 41 yX6_refuse : Cond) ∈ pw := pin_6 (List.mem_of_getElem? (i := 3) rfl)
theorem mw_20_10 : (.code yX1_init cX1_init 1 none : Cond) ∈ pw := pin_20 (List.mem_of_getElem? (i := 10) rfl)
theorem mw_6_4 : (.methodLink RX1 3 objectInit : Cond) ∈ pw := pin_6 (List.mem_of_getElem? (i := 4) rfl)
theorem mw_6_5 : (.fieldLink RX1 9 "ShapeReader$Messages" "bytes" "[B" : Cond) ∈ pw := pin_6 (List.mem_of_getElem? (i := 5) rfl)
theorem mw_6_6 : (.fieldLink RX1 15 "ShapeReader$Messages" "sizes" "[I" : Cond) ∈ pw := pin_6 (List.mem_of_getElem? (i := 6) rfl)
theorem mw_6_7 : (.fieldLink RX1 19 "ShapeReader$Messages" "plansUsed" "[I" : Cond) ∈ pw := pin_6 (List.mem_of_getElem? (i := 7) rfl)
theorem mw_6_8 : (.methodLink RX1 22 yJ7_fill_53178 : Cond) ∈ pw := pin_6 (List.mem_of_getElem? (i := 8) rfl)
theorem mw_6_9 : (.static yJ7_fill_53178 : Cond) ∈ pw := pin_6 (List.mem_of_getElem? (i := 9) rfl)
theorem mw_6_10 : (.initialized RJ7 : Cond) ∈ pw := pin_6 (List.mem_of_getElem? (i := 10) rfl)
theorem mw_20_11 : (.code yX1_isNumber cX1_isNumber 2 (some .boolean) : Cond) ∈ pw := pin_20 (List.mem_of_getElem? (i := 11) rfl)
theorem mw_20_12 : (.code yX1_isWritten cX1_isWritten 2 (some .boolean) : Cond) ∈ pw := pin_20 (List.mem_of_getElem? (i := 12) rfl)
theorem mw_6_11 : (.methodLink RX1 28 yX1_isNumber : Cond) ∈ pw := pin_6 (List.mem_of_getElem? (i := 11) rfl)
theorem mw_20_13 : (.code yX1_hasByte cX1_hasByte 3 (some .boolean) : Cond) ∈ pw := pin_20 (List.mem_of_getElem? (i := 13) rfl)
theorem mw_6_12 : (.methodLink RX1 32 yX1_isWritten : Cond) ∈ pw := pin_6 (List.mem_of_getElem? (i := 12) rfl)
theorem mw_20_14 : (.code yX1_writtenBits cX1_writtenBits 3 (some .int) : Cond) ∈ pw := pin_20 (List.mem_of_getElem? (i := 14) rfl)
theorem mw_20_15 : (.code yX0_init cX0_init 2 none : Cond) ∈ pw := pin_20 (List.mem_of_getElem? (i := 15) rfl)
theorem mw_6_13 : (.methodLink RX0 3 objectInit : Cond) ∈ pw := pin_6 (List.mem_of_getElem? (i := 13) rfl)
theorem mw_6_14 : (.fieldLink RX0 9 "ShapeReader$Matcher" "relations" "[J" : Cond) ∈ pw := pin_6 (List.mem_of_getElem? (i := 14) rfl)
theorem mw_6_15 : (.fieldLink RX0 15 "ShapeReader$Matcher" "related" "J" : Cond) ∈ pw := pin_6 (List.mem_of_getElem? (i := 15) rfl)
theorem mw_6_16 : (.fieldLink RX0 19 "ShapeReader$Matcher" "verdicts" "[I" : Cond) ∈ pw := pin_6 (List.mem_of_getElem? (i := 16) rfl)
theorem mw_6_17 : (.fieldLink RX0 23 "ShapeReader$Matcher" "relation" "J" : Cond) ∈ pw := pin_6 (List.mem_of_getElem? (i := 17) rfl)
theorem mw_6_18 : (.fieldLink RX0 26 "ShapeReader$Matcher" "missPair" "I" : Cond) ∈ pw := pin_6 (List.mem_of_getElem? (i := 18) rfl)
theorem mw_6_19 : (.fieldLink RX0 30 "ShapeReader$Matcher" "missCount" "I" : Cond) ∈ pw := pin_6 (List.mem_of_getElem? (i := 19) rfl)
theorem mw_6_20 : (.fieldLink RX0 33 "ShapeReader$Matcher" "missKinds" "[I" : Cond) ∈ pw := pin_6 (List.mem_of_getElem? (i := 20) rfl)
theorem mw_6_21 : (.fieldLink RX0 36 "ShapeReader$Matcher" "missSizes" "[I" : Cond) ∈ pw := pin_6 (List.mem_of_getElem? (i := 21) rfl)
theorem mw_6_22 : (.fieldLink RX0 39 "ShapeReader$Matcher" "missPaths" "[I" : Cond) ∈ pw := pin_6 (List.mem_of_getElem? (i := 22) rfl)
theorem mw_6_23 : (.fieldLink RX0 42 "ShapeReader$Matcher" "path" "[I" : Cond) ∈ pw := pin_6 (List.mem_of_getElem? (i := 23) rfl)
theorem mw_6_24 : (.fieldLink RX0 45 "ShapeReader$Matcher" "steps" "I" : Cond) ∈ pw := pin_6 (List.mem_of_getElem? (i := 24) rfl)
theorem mw_6_25 : (.fieldLink RX0 48 "ShapeReader$Matcher" "seen" "J" : Cond) ∈ pw := pin_6 (List.mem_of_getElem? (i := 25) rfl)
theorem mw_6_26 : (.fieldLink RX0 51 "ShapeReader$Matcher" "shapes" "LShapeReader$Shapes;" : Cond) ∈ pw := pin_6 (List.mem_of_getElem? (i := 26) rfl)
theorem mw_6_27 : (.methodLink RX0 55 yJ7_fill_53178 : Cond) ∈ pw := pin_6 (List.mem_of_getElem? (i := 27) rfl)
theorem mw_20_16 : (.code yX9_init cX9_init 1 none : Cond) ∈ pw := pin_20 (List.mem_of_getElem? (i := 16) rfl)
theorem mw_6_28 : (.methodLink RX9 3 objectInit : Cond) ∈ pw := pin_6 (List.mem_of_getElem? (i := 28) rfl)
theorem mw_6_29 : (.fieldLink RX9 11 "ShapeReader$Ways" "pairs" "[I" : Cond) ∈ pw := pin_6 (List.mem_of_getElem? (i := 29) rfl)
theorem mw_7_0 : (.fieldLink RX9 15 "ShapeReader$Ways" "size" "I" : Cond) ∈ pw := pin_7 (List.mem_of_getElem? (i := 0) rfl)
theorem mw_7_1 : (.fieldLink RX9 19 "ShapeReader$Ways" "found" "I" : Cond) ∈ pw := pin_7 (List.mem_of_getElem? (i := 1) rfl)
theorem mw_7_2 : (.fieldLink RX9 22 "ShapeReader$Ways" "notFound" "I" : Cond) ∈ pw := pin_7 (List.mem_of_getElem? (i := 2) rfl)
theorem mw_20_17 : (.code yX9_pairAt cX9_pairAt 2 (some .int) : Cond) ∈ pw := pin_20 (List.mem_of_getElem? (i := 17) rfl)
theorem mw_20_18 : (.code yX7_init cX7_init 2 none : Cond) ∈ pw := pin_20 (List.mem_of_getElem? (i := 18) rfl)
theorem mw_7_3 : (.methodLink RX7 3 objectInit : Cond) ∈ pw := pin_7 (List.mem_of_getElem? (i := 3) rfl)
theorem mw_7_4 : (.fieldLink RX7 9 "ShapeReader$Tree" "size" "I" : Cond) ∈ pw := pin_7 (List.mem_of_getElem? (i := 4) rfl)
theorem mw_7_5 : (.fieldLink RX7 15 "ShapeReader$Tree" "rows" "I" : Cond) ∈ pw := pin_7 (List.mem_of_getElem? (i := 5) rfl)
theorem mw_7_6 : (.fieldLink RX7 18 "ShapeReader$Tree" "sorts" "[I" : Cond) ∈ pw := pin_7 (List.mem_of_getElem? (i := 6) rfl)
theorem mw_7_7 : (.fieldLink RX7 22 "ShapeReader$Tree" "parents" "[I" : Cond) ∈ pw := pin_7 (List.mem_of_getElem? (i := 7) rfl)
theorem mw_7_8 : (.fieldLink RX7 25 "ShapeReader$Tree" "places" "[I" : Cond) ∈ pw := pin_7 (List.mem_of_getElem? (i := 8) rfl)
theorem mw_7_9 : (.fieldLink RX7 28 "ShapeReader$Tree" "sizes" "[I" : Cond) ∈ pw := pin_7 (List.mem_of_getElem? (i := 9) rfl)
theorem mw_7_10 : (.fieldLink RX7 31 "ShapeReader$Tree" "filled" "[Z" : Cond) ∈ pw := pin_7 (List.mem_of_getElem? (i := 10) rfl)
theorem mw_7_11 : (.fieldLink RX7 35 "ShapeReader$Tree" "worths" "[J" : Cond) ∈ pw := pin_7 (List.mem_of_getElem? (i := 11) rfl)
theorem mw_7_12 : (.fieldLink RX7 39 "ShapeReader$Tree" "firsts" "[I" : Cond) ∈ pw := pin_7 (List.mem_of_getElem? (i := 12) rfl)
theorem mw_7_13 : (.fieldLink RX7 42 "ShapeReader$Tree" "lasts" "[I" : Cond) ∈ pw := pin_7 (List.mem_of_getElem? (i := 13) rfl)
theorem mw_7_14 : (.fieldLink RX7 45 "ShapeReader$Tree" "nexts" "[I" : Cond) ∈ pw := pin_7 (List.mem_of_getElem? (i := 14) rfl)
theorem mw_7_15 : (.fieldLink RX7 48 "ShapeReader$Tree" "order" "[I" : Cond) ∈ pw := pin_7 (List.mem_of_getElem? (i := 15) rfl)
theorem mw_7_16 : (.fieldLink RX7 51 "ShapeReader$Tree" "numbers" "[I" : Cond) ∈ pw := pin_7 (List.mem_of_getElem? (i := 16) rfl)
theorem mw_20_19 : (.code yX7_rowAt cX7_rowAt 2 (some .int) : Cond) ∈ pw := pin_20 (List.mem_of_getElem? (i := 19) rfl)
theorem mw_20_20 : (.code yX8_init cX8_init 4 none : Cond) ∈ pw := pin_20 (List.mem_of_getElem? (i := 20) rfl)
theorem mw_7_17 : (.methodLink RX8 3 objectInit : Cond) ∈ pw := pin_7 (List.mem_of_getElem? (i := 17) rfl)
theorem mw_7_18 : (.fieldLink RX8 9 "ShapeReader$ValueText" "tokens" "LShapeReader$Tokens;" : Cond) ∈ pw := pin_7 (List.mem_of_getElem? (i := 18) rfl)
theorem mw_7_19 : (.fieldLink RX8 15 "ShapeReader$ValueText" "shapes" "LShapeReader$Shapes;" : Cond) ∈ pw := pin_7 (List.mem_of_getElem? (i := 19) rfl)
theorem mw_7_20 : (.fieldLink RX8 19 "ShapeReader$ValueText" "tree" "LShapeReader$Tree;" : Cond) ∈ pw := pin_7 (List.mem_of_getElem? (i := 20) rfl)
theorem mw_20_21 : (.code yX2_init cX2_init 2 none : Cond) ∈ pw := pin_20 (List.mem_of_getElem? (i := 21) rfl)
theorem mw_7_21 : (.methodLink RX2 3 objectInit : Cond) ∈ pw := pin_7 (List.mem_of_getElem? (i := 21) rfl)
theorem mw_7_22 : (.fieldLink RX2 9 "ShapeReader$Packer" "bytes" "[B" : Cond) ∈ pw := pin_7 (List.mem_of_getElem? (i := 22) rfl)
theorem mw_7_23 : (.fieldLink RX2 15 "ShapeReader$Packer" "size" "I" : Cond) ∈ pw := pin_7 (List.mem_of_getElem? (i := 23) rfl)
theorem mw_7_24 : (.fieldLink RX2 19 "ShapeReader$Packer" "shapes" "LShapeReader$Shapes;" : Cond) ∈ pw := pin_7 (List.mem_of_getElem? (i := 24) rfl)
theorem mw_20_22 : (.code yX4_init cX4_init 5 none : Cond) ∈ pw := pin_20 (List.mem_of_getElem? (i := 22) rfl)
theorem mw_7_25 : (.methodLink RX4 3 objectInit : Cond) ∈ pw := pin_7 (List.mem_of_getElem? (i := 25) rfl)
theorem mw_7_26 : (.fieldLink RX4 9 "ShapeReader$Reading" "message" "I" : Cond) ∈ pw := pin_7 (List.mem_of_getElem? (i := 26) rfl)
theorem mw_7_27 : (.fieldLink RX4 15 "ShapeReader$Reading" "next" "I" : Cond) ∈ pw := pin_7 (List.mem_of_getElem? (i := 27) rfl)
theorem mw_7_28 : (.fieldLink RX4 18 "ShapeReader$Reading" "end" "I" : Cond) ∈ pw := pin_7 (List.mem_of_getElem? (i := 28) rfl)
theorem mw_7_29 : (.fieldLink RX4 21 "ShapeReader$Reading" "failure" "I" : Cond) ∈ pw := pin_7 (List.mem_of_getElem? (i := 29) rfl)
theorem mw_8_0 : (.fieldLink RX4 24 "ShapeReader$Reading" "failedAt" "I" : Cond) ∈ pw := pin_8 (List.mem_of_getElem? (i := 0) rfl)
theorem mw_8_1 : (.fieldLink RX4 27 "ShapeReader$Reading" "path" "[I" : Cond) ∈ pw := pin_8 (List.mem_of_getElem? (i := 1) rfl)
theorem mw_8_2 : (.fieldLink RX4 31 "ShapeReader$Reading" "steps" "I" : Cond) ∈ pw := pin_8 (List.mem_of_getElem? (i := 2) rfl)
theorem mw_8_3 : (.fieldLink RX4 34 "ShapeReader$Reading" "sources" "[I" : Cond) ∈ pw := pin_8 (List.mem_of_getElem? (i := 3) rfl)
theorem mw_8_4 : (.fieldLink RX4 37 "ShapeReader$Reading" "shapes" "LShapeReader$Shapes;" : Cond) ∈ pw := pin_8 (List.mem_of_getElem? (i := 4) rfl)
theorem mw_8_5 : (.fieldLink RX4 41 "ShapeReader$Reading" "messages" "LShapeReader$Messages;" : Cond) ∈ pw := pin_8 (List.mem_of_getElem? (i := 5) rfl)
theorem mw_8_6 : (.fieldLink RX4 45 "ShapeReader$Reading" "matcher" "LShapeReader$Matcher;" : Cond) ∈ pw := pin_8 (List.mem_of_getElem? (i := 6) rfl)
theorem mw_8_7 : (.fieldLink RX4 49 "ShapeReader$Reading" "tree" "LShapeReader$Tree;" : Cond) ∈ pw := pin_8 (List.mem_of_getElem? (i := 7) rfl)
theorem mw_20_23 : (.code yJ7_fill_53178 cJ7_fill_53178 4 none : Cond) ∈ pw := pin_20 (List.mem_of_getElem? (i := 23) rfl)
theorem mw_20_24 : (.code yJ0_length_8abf5 cJ0_length_8abf5 1 (some .int) : Cond) ∈ pw := pin_20 (List.mem_of_getElem? (i := 24) rfl)
theorem mw_8_8 : (.fieldLink RJ0 9 "java/lang/String" "value" "[B" : Cond) ∈ pw := pin_8 (List.mem_of_getElem? (i := 8) rfl)
theorem mw_8_9 : (.methodLink RJ0 335 yJ0_coder_7d493 : Cond) ∈ pw := pin_8 (List.mem_of_getElem? (i := 9) rfl)
theorem mw_8_10 : (.instanceMethod yJ0_coder_7d493 : Cond) ∈ pw := pin_8 (List.mem_of_getElem? (i := 10) rfl)
theorem mw_8_11 : (.selects RJ0 yJ0_coder_7d493 yJ0_coder_7d493 : Cond) ∈ pw := pin_8 (List.mem_of_getElem? (i := 11) rfl)
theorem mw_20_25 : (.code yJ0_coder_7d493 cJ0_coder_7d493 1 (some .byte) : Cond) ∈ pw := pin_20 (List.mem_of_getElem? (i := 25) rfl)
theorem mw_8_12 : (.fieldLink RJ0 38 "java/lang/String" "COMPACT_STRINGS" "Z" : Cond) ∈ pw := pin_8 (List.mem_of_getElem? (i := 12) rfl)
theorem mw_8_13 : (.fieldLink RJ0 15 "java/lang/String" "coder" "B" : Cond) ∈ pw := pin_8 (List.mem_of_getElem? (i := 13) rfl)
theorem mw_20_26 : (.code yJ0_isLatin1_aae02 cJ0_isLatin1_aae02 1 (some .boolean) : Cond) ∈ pw := pin_20 (List.mem_of_getElem? (i := 26) rfl)
theorem mw_20_27 : (.code yJ0_checkIndex_df160 cJ0_checkIndex_df160 2 none : Cond) ∈ pw := pin_20 (List.mem_of_getElem? (i := 27) rfl)
theorem mw_8_14 : (.fieldLink RJ0 1053 "jdk/internal/util/Preconditions" "SIOOBE_FORMATTER" "Ljava/util/function/BiFunction;" : Cond) ∈ pw := pin_8 (List.mem_of_getElem? (i := 14) rfl)
theorem mw_8_15 : (.methodLink RJ0 1059 yJ3_checkIndex_8e157 : Cond) ∈ pw := pin_8 (List.mem_of_getElem? (i := 15) rfl)
theorem mw_8_16 : (.static yJ3_checkIndex_8e157 : Cond) ∈ pw := pin_8 (List.mem_of_getElem? (i := 16) rfl)
theorem mw_8_17 : (.initialized RJ3 : Cond) ∈ pw := pin_8 (List.mem_of_getElem? (i := 17) rfl)
theorem mw_20_28 : (.code yJ0_charAt_5068e cJ0_charAt_5068e 2 (some .char) : Cond) ∈ pw := pin_20 (List.mem_of_getElem? (i := 28) rfl)
theorem mw_8_18 : (.methodLink RJ0 492 yJ0_isLatin1_aae02 : Cond) ∈ pw := pin_8 (List.mem_of_getElem? (i := 18) rfl)
theorem mw_8_19 : (.instanceMethod yJ0_isLatin1_aae02 : Cond) ∈ pw := pin_8 (List.mem_of_getElem? (i := 19) rfl)
theorem mw_8_20 : (.selects RJ0 yJ0_isLatin1_aae02 yJ0_isLatin1_aae02 : Cond) ∈ pw := pin_8 (List.mem_of_getElem? (i := 20) rfl)
theorem mw_8_21 : (.methodLink RJ0 495 yJ1_charAt_3b067 : Cond) ∈ pw := pin_8 (List.mem_of_getElem? (i := 21) rfl)
theorem mw_8_22 : (.static yJ1_charAt_3b067 : Cond) ∈ pw := pin_8 (List.mem_of_getElem? (i := 22) rfl)
theorem mw_8_23 : (.initialized RJ1 : Cond) ∈ pw := pin_8 (List.mem_of_getElem? (i := 23) rfl)
theorem mw_20_29 : (.code yJ3_checkIndex_8e157 cJ3_checkIndex_8e157 3 (some .int) : Cond) ∈ pw := pin_20 (List.mem_of_getElem? (i := 29) rfl)
theorem mw_21_0 : (.code yJ1_charAt_3b067 cJ1_charAt_3b067 2 (some .char) : Cond) ∈ pw := pin_21 (List.mem_of_getElem? (i := 0) rfl)
theorem mw_8_24 : (.methodLink RJ1 9 yJ0_checkIndex_df160 : Cond) ∈ pw := pin_8 (List.mem_of_getElem? (i := 24) rfl)
theorem mw_8_25 : (.static yJ0_checkIndex_df160 : Cond) ∈ pw := pin_8 (List.mem_of_getElem? (i := 25) rfl)
theorem mw_21_1 : (.code yX11_init cX11_init 1 none : Cond) ∈ pw := pin_21 (List.mem_of_getElem? (i := 1) rfl)
theorem mw_8_26 : (.methodLink RX11 1 objectInit : Cond) ∈ pw := pin_8 (List.mem_of_getElem? (i := 26) rfl)
theorem mw_8_27 : (.fieldLink RX11 7 "ShapeReaderModel" "tape" "[B" : Cond) ∈ pw := pin_8 (List.mem_of_getElem? (i := 27) rfl)
theorem mw_8_28 : (.fieldLink RX11 13 "ShapeReaderModel" "typeSort" "[I" : Cond) ∈ pw := pin_8 (List.mem_of_getElem? (i := 28) rfl)
theorem mw_8_29 : (.fieldLink RX11 17 "ShapeReaderModel" "typeArg" "[I" : Cond) ∈ pw := pin_8 (List.mem_of_getElem? (i := 29) rfl)
theorem mw_9_0 : (.fieldLink RX11 20 "ShapeReaderModel" "typeMany" "[I" : Cond) ∈ pw := pin_9 (List.mem_of_getElem? (i := 0) rfl)
theorem mw_9_1 : (.fieldLink RX11 23 "ShapeReaderModel" "branch" "[I" : Cond) ∈ pw := pin_9 (List.mem_of_getElem? (i := 1) rfl)
theorem mw_9_2 : (.fieldLink RX11 26 "ShapeReaderModel" "typeName" "[J" : Cond) ∈ pw := pin_9 (List.mem_of_getElem? (i := 2) rfl)
theorem mw_9_3 : (.fieldLink RX11 30 "ShapeReaderModel" "typePlace" "[I" : Cond) ∈ pw := pin_9 (List.mem_of_getElem? (i := 3) rfl)
theorem mw_9_4 : (.fieldLink RX11 33 "ShapeReaderModel" "recordMany" "[I" : Cond) ∈ pw := pin_9 (List.mem_of_getElem? (i := 4) rfl)
theorem mw_9_5 : (.fieldLink RX11 36 "ShapeReaderModel" "recordName" "[J" : Cond) ∈ pw := pin_9 (List.mem_of_getElem? (i := 5) rfl)
theorem mw_9_6 : (.fieldLink RX11 39 "ShapeReaderModel" "recordLetters" "[I" : Cond) ∈ pw := pin_9 (List.mem_of_getElem? (i := 6) rfl)
theorem mw_9_7 : (.fieldLink RX11 42 "ShapeReaderModel" "fieldMany" "[I" : Cond) ∈ pw := pin_9 (List.mem_of_getElem? (i := 7) rfl)
theorem mw_9_8 : (.fieldLink RX11 45 "ShapeReaderModel" "fieldName" "[J" : Cond) ∈ pw := pin_9 (List.mem_of_getElem? (i := 8) rfl)
theorem mw_9_9 : (.fieldLink RX11 48 "ShapeReaderModel" "fieldLetters" "[I" : Cond) ∈ pw := pin_9 (List.mem_of_getElem? (i := 9) rfl)
theorem mw_9_10 : (.fieldLink RX11 51 "ShapeReaderModel" "fieldWas" "[J" : Cond) ∈ pw := pin_9 (List.mem_of_getElem? (i := 10) rfl)
theorem mw_9_11 : (.fieldLink RX11 54 "ShapeReaderModel" "fieldType" "[I" : Cond) ∈ pw := pin_9 (List.mem_of_getElem? (i := 11) rfl)
theorem mw_9_12 : (.fieldLink RX11 57 "ShapeReaderModel" "hasElse" "[Z" : Cond) ∈ pw := pin_9 (List.mem_of_getElem? (i := 12) rfl)
theorem mw_9_13 : (.fieldLink RX11 61 "ShapeReaderModel" "elseBits" "[J" : Cond) ∈ pw := pin_9 (List.mem_of_getElem? (i := 13) rfl)
theorem mw_9_14 : (.fieldLink RX11 64 "ShapeReaderModel" "elseText" "[J" : Cond) ∈ pw := pin_9 (List.mem_of_getElem? (i := 14) rfl)
theorem mw_9_15 : (.fieldLink RX11 67 "ShapeReaderModel" "elseLetters" "[I" : Cond) ∈ pw := pin_9 (List.mem_of_getElem? (i := 15) rfl)
theorem mw_9_16 : (.fieldLink RX11 70 "ShapeReaderModel" "nodeSort" "[I" : Cond) ∈ pw := pin_9 (List.mem_of_getElem? (i := 16) rfl)
theorem mw_9_17 : (.fieldLink RX11 73 "ShapeReaderModel" "nodeBits" "[J" : Cond) ∈ pw := pin_9 (List.mem_of_getElem? (i := 17) rfl)
theorem mw_9_18 : (.fieldLink RX11 76 "ShapeReaderModel" "nodeText" "[J" : Cond) ∈ pw := pin_9 (List.mem_of_getElem? (i := 18) rfl)
theorem mw_9_19 : (.fieldLink RX11 79 "ShapeReaderModel" "nodeHas" "[I" : Cond) ∈ pw := pin_9 (List.mem_of_getElem? (i := 19) rfl)
theorem mw_9_20 : (.fieldLink RX11 82 "ShapeReaderModel" "nodeParent" "[I" : Cond) ∈ pw := pin_9 (List.mem_of_getElem? (i := 20) rfl)
theorem mw_9_21 : (.fieldLink RX11 85 "ShapeReaderModel" "nodeIndex" "[I" : Cond) ∈ pw := pin_9 (List.mem_of_getElem? (i := 21) rfl)
theorem mw_9_22 : (.fieldLink RX11 88 "ShapeReaderModel" "nodeBranch" "[I" : Cond) ∈ pw := pin_9 (List.mem_of_getElem? (i := 22) rfl)
theorem mw_9_23 : (.fieldLink RX11 91 "ShapeReaderModel" "nodeFilled" "[Z" : Cond) ∈ pw := pin_9 (List.mem_of_getElem? (i := 23) rfl)
theorem mw_9_24 : (.fieldLink RX11 94 "ShapeReaderModel" "nodeFirst" "[I" : Cond) ∈ pw := pin_9 (List.mem_of_getElem? (i := 24) rfl)
theorem mw_9_25 : (.fieldLink RX11 97 "ShapeReaderModel" "nodeLast" "[I" : Cond) ∈ pw := pin_9 (List.mem_of_getElem? (i := 25) rfl)
theorem mw_9_26 : (.fieldLink RX11 100 "ShapeReaderModel" "nodeNext" "[I" : Cond) ∈ pw := pin_9 (List.mem_of_getElem? (i := 26) rfl)
theorem mw_9_27 : (.fieldLink RX11 103 "ShapeReaderModel" "written" "[B" : Cond) ∈ pw := pin_9 (List.mem_of_getElem? (i := 27) rfl)
theorem mw_9_28 : (.fieldLink RX11 106 "ShapeReaderModel" "messagePlan" "[I" : Cond) ∈ pw := pin_9 (List.mem_of_getElem? (i := 28) rfl)
theorem mw_9_29 : (.fieldLink RX11 109 "ShapeReaderModel" "messageMany" "[I" : Cond) ∈ pw := pin_9 (List.mem_of_getElem? (i := 29) rfl)
theorem mw_10_0 : (.fieldLink RX11 112 "ShapeReaderModel" "bytes" "[B" : Cond) ∈ pw := pin_10 (List.mem_of_getElem? (i := 0) rfl)
theorem mw_10_1 : (.fieldLink RX11 115 "ShapeReaderModel" "pair" "[Z" : Cond) ∈ pw := pin_10 (List.mem_of_getElem? (i := 1) rfl)
theorem mw_10_2 : (.fieldLink RX11 118 "ShapeReaderModel" "step" "[I" : Cond) ∈ pw := pin_10 (List.mem_of_getElem? (i := 2) rfl)
theorem mw_10_3 : (.fieldLink RX11 121 "ShapeReaderModel" "missKind" "[I" : Cond) ∈ pw := pin_10 (List.mem_of_getElem? (i := 3) rfl)
theorem mw_10_4 : (.fieldLink RX11 124 "ShapeReaderModel" "missSteps" "[I" : Cond) ∈ pw := pin_10 (List.mem_of_getElem? (i := 4) rfl)
theorem mw_10_5 : (.fieldLink RX11 127 "ShapeReaderModel" "missPath" "[I" : Cond) ∈ pw := pin_10 (List.mem_of_getElem? (i := 5) rfl)
theorem mw_10_6 : (.fieldLink RX11 130 "ShapeReaderModel" "looked" "[Z" : Cond) ∈ pw := pin_10 (List.mem_of_getElem? (i := 6) rfl)
theorem mw_10_7 : (.fieldLink RX11 133 "ShapeReaderModel" "failPath" "[I" : Cond) ∈ pw := pin_10 (List.mem_of_getElem? (i := 7) rfl)
theorem mw_10_8 : (.fieldLink RX11 136 "ShapeReaderModel" "toldSort" "[I" : Cond) ∈ pw := pin_10 (List.mem_of_getElem? (i := 8) rfl)
theorem mw_10_9 : (.fieldLink RX11 139 "ShapeReaderModel" "toldParent" "[I" : Cond) ∈ pw := pin_10 (List.mem_of_getElem? (i := 9) rfl)
theorem mw_10_10 : (.fieldLink RX11 142 "ShapeReaderModel" "toldIndex" "[I" : Cond) ∈ pw := pin_10 (List.mem_of_getElem? (i := 10) rfl)
theorem mw_10_11 : (.fieldLink RX11 145 "ShapeReaderModel" "toldHas" "[I" : Cond) ∈ pw := pin_10 (List.mem_of_getElem? (i := 11) rfl)
theorem mw_10_12 : (.fieldLink RX11 148 "ShapeReaderModel" "toldFilled" "[Z" : Cond) ∈ pw := pin_10 (List.mem_of_getElem? (i := 12) rfl)
theorem mw_10_13 : (.fieldLink RX11 151 "ShapeReaderModel" "toldBits" "[J" : Cond) ∈ pw := pin_10 (List.mem_of_getElem? (i := 13) rfl)
theorem mw_10_14 : (.fieldLink RX11 154 "ShapeReaderModel" "toldText" "[J" : Cond) ∈ pw := pin_10 (List.mem_of_getElem? (i := 14) rfl)
theorem mw_10_15 : (.fieldLink RX11 157 "ShapeReaderModel" "failurePath" "[I" : Cond) ∈ pw := pin_10 (List.mem_of_getElem? (i := 15) rfl)
theorem mw_10_16 : (.fieldLink RX11 160 "ShapeReaderModel" "orderOf" "[I" : Cond) ∈ pw := pin_10 (List.mem_of_getElem? (i := 16) rfl)
theorem mw_10_17 : (.fieldLink RX11 163 "ShapeReaderModel" "alikeNumbers" "[I" : Cond) ∈ pw := pin_10 (List.mem_of_getElem? (i := 17) rfl)
theorem mw_10_18 : (.fieldLink RX11 166 "ShapeReaderModel" "alikeLongs" "[J" : Cond) ∈ pw := pin_10 (List.mem_of_getElem? (i := 18) rfl)
theorem mw_10_19 : (.fieldLink RX11 169 "ShapeReaderModel" "firstNumbers" "[I" : Cond) ∈ pw := pin_10 (List.mem_of_getElem? (i := 19) rfl)
theorem mw_10_20 : (.fieldLink RX11 172 "ShapeReaderModel" "firstLongs" "[J" : Cond) ∈ pw := pin_10 (List.mem_of_getElem? (i := 20) rfl)
theorem mw_10_21 : (.fieldLink RX11 175 "ShapeReaderModel" "keptPair" "[I" : Cond) ∈ pw := pin_10 (List.mem_of_getElem? (i := 21) rfl)
theorem mw_21_2 : (.code yX11_thrown cX11_thrown 1 (some .int) : Cond) ∈ pw := pin_21 (List.mem_of_getElem? (i := 2) rfl)
theorem mw_10_22 : (.fieldLink RX11 178 "ShapeReaderModel" "thrown" "I" : Cond) ∈ pw := pin_10 (List.mem_of_getElem? (i := 22) rfl)
theorem mw_21_3 : (.code yX11_within cX11_within 6 (some .boolean) : Cond) ∈ pw := pin_21 (List.mem_of_getElem? (i := 3) rfl)
theorem mw_21_4 : (.code yX11_feed cX11_feed 6 (some .int) : Cond) ∈ pw := pin_21 (List.mem_of_getElem? (i := 4) rfl)
theorem mw_10_23 : (.fieldLink RX11 182 "ShapeReaderModel" "taped" "I" : Cond) ∈ pw := pin_10 (List.mem_of_getElem? (i := 23) rfl)
theorem mw_10_24 : (.methodLink RX11 185 yX11_puts : Cond) ∈ pw := pin_10 (List.mem_of_getElem? (i := 24) rfl)
theorem mw_10_25 : (.instanceMethod yX11_puts : Cond) ∈ pw := pin_10 (List.mem_of_getElem? (i := 25) rfl)
theorem mw_10_26 : (.selects RX11 yX11_puts yX11_puts : Cond) ∈ pw := pin_10 (List.mem_of_getElem? (i := 26) rfl)
theorem mw_21_5 : (.code yX11_puts cX11_puts 3 none : Cond) ∈ pw := pin_21 (List.mem_of_getElem? (i := 5) rfl)
theorem mw_21_6 : (.code yX11_plans cX11_plans 4 (some .int) : Cond) ∈ pw := pin_21 (List.mem_of_getElem? (i := 6) rfl)
theorem mw_10_27 : (.methodLink RX11 196 yX11_within : Cond) ∈ pw := pin_10 (List.mem_of_getElem? (i := 27) rfl)
theorem mw_10_28 : (.static yX11_within : Cond) ∈ pw := pin_10 (List.mem_of_getElem? (i := 28) rfl)
theorem mw_10_29 : (.methodLink RX11 383 yX11_begins : Cond) ∈ pw := pin_10 (List.mem_of_getElem? (i := 29) rfl)
theorem mw_11_0 : (.instanceMethod yX11_begins : Cond) ∈ pw := pin_11 (List.mem_of_getElem? (i := 0) rfl)
theorem mw_11_1 : (.selects RX11 yX11_begins yX11_begins : Cond) ∈ pw := pin_11 (List.mem_of_getElem? (i := 1) rfl)
theorem mw_11_2 : (.fieldLink RX11 368 "ShapeReaderModel" "readPlans" "I" : Cond) ∈ pw := pin_11 (List.mem_of_getElem? (i := 2) rfl)
theorem mw_11_3 : (.fieldLink RX11 318 "ShapeReaderModel" "types" "I" : Cond) ∈ pw := pin_11 (List.mem_of_getElem? (i := 3) rfl)
theorem mw_11_4 : (.methodLink RX11 386 yX11_plan : Cond) ∈ pw := pin_11 (List.mem_of_getElem? (i := 4) rfl)
theorem mw_11_5 : (.instanceMethod yX11_plan : Cond) ∈ pw := pin_11 (List.mem_of_getElem? (i := 5) rfl)
theorem mw_11_6 : (.selects RX11 yX11_plan yX11_plan : Cond) ∈ pw := pin_11 (List.mem_of_getElem? (i := 6) rfl)
theorem mw_11_7 : (.fieldLink RX11 244 "ShapeReaderModel" "token" "I" : Cond) ∈ pw := pin_11 (List.mem_of_getElem? (i := 7) rfl)
theorem mw_11_8 : (.fieldLink RX11 265 "ShapeReaderModel" "fault" "I" : Cond) ∈ pw := pin_11 (List.mem_of_getElem? (i := 8) rfl)
theorem mw_11_9 : (.fieldLink RX11 392 "ShapeReaderModel" "nodeMany" "I" : Cond) ∈ pw := pin_11 (List.mem_of_getElem? (i := 9) rfl)
theorem mw_11_10 : (.fieldLink RX11 395 "ShapeReaderModel" "failureKind" "I" : Cond) ∈ pw := pin_11 (List.mem_of_getElem? (i := 10) rfl)
theorem mw_11_11 : (.fieldLink RX11 398 "ShapeReaderModel" "keptMany" "I" : Cond) ∈ pw := pin_11 (List.mem_of_getElem? (i := 11) rfl)
theorem mw_11_12 : (.fieldLink RX11 401 "ShapeReaderModel" "found" "I" : Cond) ∈ pw := pin_11 (List.mem_of_getElem? (i := 12) rfl)
theorem mw_11_13 : (.fieldLink RX11 404 "ShapeReaderModel" "notFound" "I" : Cond) ∈ pw := pin_11 (List.mem_of_getElem? (i := 13) rfl)
theorem mw_11_14 : (.fieldLink RX11 377 "ShapeReaderModel" "planMany" "I" : Cond) ∈ pw := pin_11 (List.mem_of_getElem? (i := 14) rfl)
theorem mw_21_7 : (.code yX11_begins cX11_begins 2 none : Cond) ∈ pw := pin_21 (List.mem_of_getElem? (i := 7) rfl)
theorem mw_11_15 : (.fieldLink RX11 189 "ShapeReaderModel" "size" "I" : Cond) ∈ pw := pin_11 (List.mem_of_getElem? (i := 15) rfl)
theorem mw_11_16 : (.fieldLink RX11 211 "ShapeReaderModel" "next" "I" : Cond) ∈ pw := pin_11 (List.mem_of_getElem? (i := 16) rfl)
theorem mw_11_17 : (.methodLink RX11 275 yX11_go : Cond) ∈ pw := pin_11 (List.mem_of_getElem? (i := 17) rfl)
theorem mw_11_18 : (.instanceMethod yX11_go : Cond) ∈ pw := pin_11 (List.mem_of_getElem? (i := 18) rfl)
theorem mw_11_19 : (.selects RX11 yX11_go yX11_go : Cond) ∈ pw := pin_11 (List.mem_of_getElem? (i := 19) rfl)
theorem mw_21_8 : (.code yX11_go cX11_go 2 none : Cond) ∈ pw := pin_21 (List.mem_of_getElem? (i := 8) rfl)
theorem mw_11_20 : (.methodLink RX11 214 yX11_byteAt : Cond) ∈ pw := pin_11 (List.mem_of_getElem? (i := 20) rfl)
theorem mw_11_21 : (.instanceMethod yX11_byteAt : Cond) ∈ pw := pin_11 (List.mem_of_getElem? (i := 21) rfl)
theorem mw_11_22 : (.selects RX11 yX11_byteAt yX11_byteAt : Cond) ∈ pw := pin_11 (List.mem_of_getElem? (i := 22) rfl)
theorem mw_11_23 : (.fieldLink RX11 250 "ShapeReaderModel" "at" "I" : Cond) ∈ pw := pin_11 (List.mem_of_getElem? (i := 23) rfl)
theorem mw_11_24 : (.fieldLink RX11 253 "ShapeReaderModel" "sign" "I" : Cond) ∈ pw := pin_11 (List.mem_of_getElem? (i := 24) rfl)
theorem mw_11_25 : (.fieldLink RX11 208 "ShapeReaderModel" "letterMany" "I" : Cond) ∈ pw := pin_11 (List.mem_of_getElem? (i := 25) rfl)
theorem mw_21_9 : (.code yX11_byteAt cX11_byteAt 2 (some .int) : Cond) ∈ pw := pin_21 (List.mem_of_getElem? (i := 9) rfl)
theorem mw_21_10 : (.code yX11_plan cX11_plan 4 (some .boolean) : Cond) ∈ pw := pin_21 (List.mem_of_getElem? (i := 10) rfl)
theorem mw_11_26 : (.methodLink RX11 290 yX11_isPlan : Cond) ∈ pw := pin_11 (List.mem_of_getElem? (i := 26) rfl)
theorem mw_11_27 : (.instanceMethod yX11_isPlan : Cond) ∈ pw := pin_11 (List.mem_of_getElem? (i := 27) rfl)
theorem mw_11_28 : (.selects RX11 yX11_isPlan yX11_isPlan : Cond) ∈ pw := pin_11 (List.mem_of_getElem? (i := 28) rfl)
theorem mw_11_29 : (.methodLink RX11 272 yX11_wrongHere : Cond) ∈ pw := pin_11 (List.mem_of_getElem? (i := 29) rfl)
theorem mw_12_0 : (.instanceMethod yX11_wrongHere : Cond) ∈ pw := pin_12 (List.mem_of_getElem? (i := 0) rfl)
theorem mw_12_1 : (.selects RX11 yX11_wrongHere yX11_wrongHere : Cond) ∈ pw := pin_12 (List.mem_of_getElem? (i := 1) rfl)
theorem mw_21_11 : (.code yX11_isPlan cX11_isPlan 1 (some .boolean) : Cond) ∈ pw := pin_21 (List.mem_of_getElem? (i := 11) rfl)
theorem mw_12_2 : (.methodLink RX11 278 yX11_spelt : Cond) ∈ pw := pin_12 (List.mem_of_getElem? (i := 2) rfl)
theorem mw_12_3 : (.static yX11_spelt : Cond) ∈ pw := pin_12 (List.mem_of_getElem? (i := 3) rfl)
theorem mw_12_4 : (.methodLink RX11 282 yX11_isWord : Cond) ∈ pw := pin_12 (List.mem_of_getElem? (i := 4) rfl)
theorem mw_12_5 : (.instanceMethod yX11_isWord : Cond) ∈ pw := pin_12 (List.mem_of_getElem? (i := 5) rfl)
theorem mw_12_6 : (.selects RX11 yX11_isWord yX11_isWord : Cond) ∈ pw := pin_12 (List.mem_of_getElem? (i := 6) rfl)
theorem mw_21_12 : (.code yX11_spelt cX11_spelt 10 (some .long) : Cond) ∈ pw := pin_21 (List.mem_of_getElem? (i := 12) rfl)
theorem mw_12_7 : (.constantLong RX11 222 (27) : Cond) ∈ pw := pin_12 (List.mem_of_getElem? (i := 7) rfl)
theorem mw_12_8 : (.constantLong RX11 224 (96) : Cond) ∈ pw := pin_12 (List.mem_of_getElem? (i := 8) rfl)
theorem mw_21_13 : (.code yX11_isWord cX11_isWord 3 (some .boolean) : Cond) ∈ pw := pin_21 (List.mem_of_getElem? (i := 13) rfl)
theorem mw_12_9 : (.fieldLink RX11 204 "ShapeReaderModel" "letters" "J" : Cond) ∈ pw := pin_12 (List.mem_of_getElem? (i := 9) rfl)
theorem mw_21_14 : (.code yX11_wrongHere cX11_wrongHere 2 (some .boolean) : Cond) ∈ pw := pin_21 (List.mem_of_getElem? (i := 14) rfl)
theorem mw_12_10 : (.methodLink RX11 268 yX11_wrong : Cond) ∈ pw := pin_12 (List.mem_of_getElem? (i := 10) rfl)
theorem mw_12_11 : (.instanceMethod yX11_wrong : Cond) ∈ pw := pin_12 (List.mem_of_getElem? (i := 11) rfl)
theorem mw_12_12 : (.selects RX11 yX11_wrong yX11_wrong : Cond) ∈ pw := pin_12 (List.mem_of_getElem? (i := 12) rfl)
theorem mw_21_15 : (.code yX11_wrong cX11_wrong 3 (some .boolean) : Cond) ∈ pw := pin_21 (List.mem_of_getElem? (i := 15) rfl)
theorem mw_21_16 : (.code yX11_isPlanAt cX11_isPlanAt 2 (some .boolean) : Cond) ∈ pw := pin_21 (List.mem_of_getElem? (i := 16) rfl)
theorem mw_21_17 : (.code yX11_record_ cX11_record_ 5 (some .int) : Cond) ∈ pw := pin_21 (List.mem_of_getElem? (i := 17) rfl)
theorem mw_12_13 : (.methodLink RX11 407 yX11_isPlanAt : Cond) ∈ pw := pin_12 (List.mem_of_getElem? (i := 13) rfl)
theorem mw_12_14 : (.instanceMethod yX11_isPlanAt : Cond) ∈ pw := pin_12 (List.mem_of_getElem? (i := 14) rfl)
theorem mw_12_15 : (.selects RX11 yX11_isPlanAt yX11_isPlanAt : Cond) ∈ pw := pin_12 (List.mem_of_getElem? (i := 15) rfl)
theorem mw_21_18 : (.code yX11_field_ cX11_field_ 8 (some .int) : Cond) ∈ pw := pin_21 (List.mem_of_getElem? (i := 18) rfl)
theorem mw_21_19 : (.code yX11_isMessage cX11_isMessage 2 (some .boolean) : Cond) ∈ pw := pin_21 (List.mem_of_getElem? (i := 19) rfl)
theorem mw_12_16 : (.constantLong RX11 475 (3) : Cond) ∈ pw := pin_12 (List.mem_of_getElem? (i := 16) rfl)
theorem mw_21_20 : (.code yX11_write cX11_write 5 (some .int) : Cond) ∈ pw := pin_21 (List.mem_of_getElem? (i := 20) rfl)
theorem mw_12_17 : (.fieldLink RX11 413 "ShapeReaderModel" "trees" "I" : Cond) ∈ pw := pin_12 (List.mem_of_getElem? (i := 17) rfl)
theorem mw_12_18 : (.fieldLink RX11 451 "ShapeReaderModel" "isTooLong" "Z" : Cond) ∈ pw := pin_12 (List.mem_of_getElem? (i := 18) rfl)
theorem mw_12_19 : (.fieldLink RX11 448 "ShapeReaderModel" "writtenMany" "I" : Cond) ∈ pw := pin_12 (List.mem_of_getElem? (i := 19) rfl)
theorem mw_21_21 : (.code yX11_message cX11_message 3 (some .int) : Cond) ∈ pw := pin_21 (List.mem_of_getElem? (i := 21) rfl)
theorem mw_12_20 : (.methodLink RX11 486 yX11_isMessage : Cond) ∈ pw := pin_12 (List.mem_of_getElem? (i := 20) rfl)
theorem mw_12_21 : (.instanceMethod yX11_isMessage : Cond) ∈ pw := pin_12 (List.mem_of_getElem? (i := 21) rfl)
theorem mw_12_22 : (.selects RX11 yX11_isMessage yX11_isMessage : Cond) ∈ pw := pin_12 (List.mem_of_getElem? (i := 22) rfl)
theorem mw_21_22 : (.code yX11_byteAt_ cX11_byteAt_ 3 (some .int) : Cond) ∈ pw := pin_21 (List.mem_of_getElem? (i := 22) rfl)
theorem mw_12_23 : (.methodLink RX11 489 yX11_isByte : Cond) ∈ pw := pin_12 (List.mem_of_getElem? (i := 23) rfl)
theorem mw_12_24 : (.instanceMethod yX11_isByte : Cond) ∈ pw := pin_12 (List.mem_of_getElem? (i := 24) rfl)
theorem mw_12_25 : (.selects RX11 yX11_isByte yX11_isByte : Cond) ∈ pw := pin_12 (List.mem_of_getElem? (i := 25) rfl)
theorem mw_21_23 : (.code yX11_isByte cX11_isByte 3 (some .boolean) : Cond) ∈ pw := pin_21 (List.mem_of_getElem? (i := 23) rfl)
theorem mw_21_24 : (.code yX11_spoil cX11_spoil 5 (some .int) : Cond) ∈ pw := pin_21 (List.mem_of_getElem? (i := 24) rfl)
theorem mw_21_25 : (.code yX11_cut cX11_cut 4 (some .int) : Cond) ∈ pw := pin_21 (List.mem_of_getElem? (i := 25) rfl)
theorem mw_21_26 : (.code yX11_matches cX11_matches 3 (some .int) : Cond) ∈ pw := pin_21 (List.mem_of_getElem? (i := 26) rfl)
theorem mw_21_27 : (.code yX11_miss cX11_miss 5 (some .int) : Cond) ∈ pw := pin_21 (List.mem_of_getElem? (i := 27) rfl)
theorem mw_12_26 : (.fieldLink RX11 513 "ShapeReaderModel" "misses" "I" : Cond) ∈ pw := pin_12 (List.mem_of_getElem? (i := 26) rfl)
theorem mw_21_28 : (.code yX11_missStep cX11_missStep 5 (some .int) : Cond) ∈ pw := pin_21 (List.mem_of_getElem? (i := 28) rfl)
theorem mw_21_29 : (.code yX11_readers cX11_readers 5 (some .int) : Cond) ∈ pw := pin_21 (List.mem_of_getElem? (i := 29) rfl)
theorem mw_22_0 : (.code yX11_read cX11_read 4 (some .int) : Cond) ∈ pw := pin_22 (List.mem_of_getElem? (i := 0) rfl)
theorem mw_22_1 : (.code yX11_failure cX11_failure 2 (some .int) : Cond) ∈ pw := pin_22 (List.mem_of_getElem? (i := 1) rfl)
theorem mw_12_27 : (.fieldLink RX11 621 "ShapeReaderModel" "failureSteps" "I" : Cond) ∈ pw := pin_12 (List.mem_of_getElem? (i := 27) rfl)
theorem mw_12_28 : (.fieldLink RX11 618 "ShapeReaderModel" "failureByte" "I" : Cond) ∈ pw := pin_12 (List.mem_of_getElem? (i := 28) rfl)
theorem mw_22_2 : (.code yX11_failureStep cX11_failureStep 2 (some .int) : Cond) ∈ pw := pin_22 (List.mem_of_getElem? (i := 2) rfl)
theorem mw_22_3 : (.code yX11_node cX11_node 3 (some .int) : Cond) ∈ pw := pin_22 (List.mem_of_getElem? (i := 3) rfl)
theorem mw_12_29 : (.constantLong RX11 627 (4) : Cond) ∈ pw := pin_12 (List.mem_of_getElem? (i := 29) rfl)
theorem mw_22_4 : (.code yX11_value_ cX11_value_ 2 (some .long) : Cond) ∈ pw := pin_22 (List.mem_of_getElem? (i := 4) rfl)
theorem mw_22_5 : (.code yX11_letter cX11_letter 6 (some .int) : Cond) ∈ pw := pin_22 (List.mem_of_getElem? (i := 5) rfl)
theorem mw_22_6 : (.code yX11_convert cX11_convert 5 (some .int) : Cond) ∈ pw := pin_22 (List.mem_of_getElem? (i := 6) rfl)
theorem mw_22_7 : (.code yX11_alike cX11_alike 8 (some .int) : Cond) ∈ pw := pin_22 (List.mem_of_getElem? (i := 7) rfl)
theorem mw_13_0 : (.fieldLink RX11 629 "ShapeReaderModel" "ordered" "I" : Cond) ∈ pw := pin_13 (List.mem_of_getElem? (i := 0) rfl)
theorem mw_22_8 : (.code yX11_kept cX11_kept 2 (some .int) : Cond) ∈ pw := pin_22 (List.mem_of_getElem? (i := 8) rfl)
theorem mw_22_9 : (.code yX11_count cX11_count 2 (some .int) : Cond) ∈ pw := pin_22 (List.mem_of_getElem? (i := 9) rfl)
theorem mw_13_1 : (.methodLink RX11 635 yX11_messageSet : Cond) ∈ pw := pin_13 (List.mem_of_getElem? (i := 1) rfl)
theorem mw_13_2 : (.instanceMethod yX11_messageSet : Cond) ∈ pw := pin_13 (List.mem_of_getElem? (i := 2) rfl)
theorem mw_13_3 : (.selects RX11 yX11_messageSet yX11_messageSet : Cond) ∈ pw := pin_13 (List.mem_of_getElem? (i := 3) rfl)
theorem mw_22_10 : (.code yX11_messageSet cX11_messageSet 3 (some .int) : Cond) ∈ pw := pin_22 (List.mem_of_getElem? (i := 10) rfl)
theorem mw_13_4 : (.methodLink RL 7 yX10_byteAt : Cond) ∈ pw := pin_13 (List.mem_of_getElem? (i := 4) rfl)
theorem mw_13_5 : (.instanceMethod yX10_byteAt : Cond) ∈ pw := pin_13 (List.mem_of_getElem? (i := 5) rfl)
theorem mw_13_6 : (.selects RX10 yX10_byteAt yX10_byteAt : Cond) ∈ pw := pin_13 (List.mem_of_getElem? (i := 6) rfl)
theorem mw_13_7 : (.methodLink RL 15 yX10_node : Cond) ∈ pw := pin_13 (List.mem_of_getElem? (i := 7) rfl)
theorem mw_13_8 : (.instanceMethod yX10_node : Cond) ∈ pw := pin_13 (List.mem_of_getElem? (i := 8) rfl)
theorem mw_13_9 : (.selects RX10 yX10_node yX10_node : Cond) ∈ pw := pin_13 (List.mem_of_getElem? (i := 9) rfl)
theorem mw_13_10 : (.methodLink RL 18 yX10_value : Cond) ∈ pw := pin_13 (List.mem_of_getElem? (i := 10) rfl)
theorem mw_13_11 : (.instanceMethod yX10_value : Cond) ∈ pw := pin_13 (List.mem_of_getElem? (i := 11) rfl)
theorem mw_13_12 : (.selects RX10 yX10_value yX10_value : Cond) ∈ pw := pin_13 (List.mem_of_getElem? (i := 12) rfl)
theorem mw_13_13 : (.methodLink RL 22 yX10_letter : Cond) ∈ pw := pin_13 (List.mem_of_getElem? (i := 13) rfl)
theorem mw_13_14 : (.instanceMethod yX10_letter : Cond) ∈ pw := pin_13 (List.mem_of_getElem? (i := 14) rfl)
theorem mw_13_15 : (.selects RX10 yX10_letter yX10_letter : Cond) ∈ pw := pin_13 (List.mem_of_getElem? (i := 15) rfl)
theorem mw_13_16 : (.classLink RL 8 RX10 : Cond) ∈ pw := pin_13 (List.mem_of_getElem? (i := 16) rfl)
theorem mw_13_17 : (.instantiable RX10 16 : Cond) ∈ pw := pin_13 (List.mem_of_getElem? (i := 17) rfl)
theorem mw_13_18 : (.methodLink RL 25 yX10_init : Cond) ∈ pw := pin_13 (List.mem_of_getElem? (i := 18) rfl)
theorem mw_13_19 : (.instanceMethod yX10_init : Cond) ∈ pw := pin_13 (List.mem_of_getElem? (i := 19) rfl)
theorem mw_13_20 : (.classLink RL 26 RX11 : Cond) ∈ pw := pin_13 (List.mem_of_getElem? (i := 20) rfl)
theorem mw_13_21 : (.instantiable RX11 95 : Cond) ∈ pw := pin_13 (List.mem_of_getElem? (i := 21) rfl)
theorem mw_13_22 : (.methodLink RL 28 yX11_init : Cond) ∈ pw := pin_13 (List.mem_of_getElem? (i := 22) rfl)
theorem mw_13_23 : (.instanceMethod yX11_init : Cond) ∈ pw := pin_13 (List.mem_of_getElem? (i := 23) rfl)
theorem mw_13_24 : (.methodLink RL 29 yX10_feed : Cond) ∈ pw := pin_13 (List.mem_of_getElem? (i := 24) rfl)
theorem mw_13_25 : (.instanceMethod yX10_feed : Cond) ∈ pw := pin_13 (List.mem_of_getElem? (i := 25) rfl)
theorem mw_13_26 : (.selects RX10 yX10_feed yX10_feed : Cond) ∈ pw := pin_13 (List.mem_of_getElem? (i := 26) rfl)
theorem mw_13_27 : (.methodLink RL 33 yX11_feed : Cond) ∈ pw := pin_13 (List.mem_of_getElem? (i := 27) rfl)
theorem mw_13_28 : (.instanceMethod yX11_feed : Cond) ∈ pw := pin_13 (List.mem_of_getElem? (i := 28) rfl)
theorem mw_13_29 : (.selects RX11 yX11_feed yX11_feed : Cond) ∈ pw := pin_13 (List.mem_of_getElem? (i := 29) rfl)
theorem mw_14_0 : (.methodLink RL 34 yX10_plans : Cond) ∈ pw := pin_14 (List.mem_of_getElem? (i := 0) rfl)
theorem mw_14_1 : (.instanceMethod yX10_plans : Cond) ∈ pw := pin_14 (List.mem_of_getElem? (i := 1) rfl)
theorem mw_14_2 : (.selects RX10 yX10_plans yX10_plans : Cond) ∈ pw := pin_14 (List.mem_of_getElem? (i := 2) rfl)
theorem mw_14_3 : (.methodLink RL 38 yX11_plans : Cond) ∈ pw := pin_14 (List.mem_of_getElem? (i := 3) rfl)
theorem mw_14_4 : (.instanceMethod yX11_plans : Cond) ∈ pw := pin_14 (List.mem_of_getElem? (i := 4) rfl)
theorem mw_14_5 : (.selects RX11 yX11_plans yX11_plans : Cond) ∈ pw := pin_14 (List.mem_of_getElem? (i := 5) rfl)
theorem mw_14_6 : (.methodLink RL 39 yX10_write : Cond) ∈ pw := pin_14 (List.mem_of_getElem? (i := 6) rfl)
theorem mw_14_7 : (.instanceMethod yX10_write : Cond) ∈ pw := pin_14 (List.mem_of_getElem? (i := 7) rfl)
theorem mw_14_8 : (.selects RX10 yX10_write yX10_write : Cond) ∈ pw := pin_14 (List.mem_of_getElem? (i := 8) rfl)
theorem mw_14_9 : (.methodLink RL 43 yX11_write : Cond) ∈ pw := pin_14 (List.mem_of_getElem? (i := 9) rfl)
theorem mw_14_10 : (.instanceMethod yX11_write : Cond) ∈ pw := pin_14 (List.mem_of_getElem? (i := 10) rfl)
theorem mw_14_11 : (.selects RX11 yX11_write yX11_write : Cond) ∈ pw := pin_14 (List.mem_of_getElem? (i := 11) rfl)
theorem mw_14_12 : (.methodLink RL 44 yX10_record : Cond) ∈ pw := pin_14 (List.mem_of_getElem? (i := 12) rfl)
theorem mw_14_13 : (.instanceMethod yX10_record : Cond) ∈ pw := pin_14 (List.mem_of_getElem? (i := 13) rfl)
theorem mw_14_14 : (.selects RX10 yX10_record yX10_record : Cond) ∈ pw := pin_14 (List.mem_of_getElem? (i := 14) rfl)
theorem mw_14_15 : (.methodLink RL 47 yX11_record_ : Cond) ∈ pw := pin_14 (List.mem_of_getElem? (i := 15) rfl)
theorem mw_14_16 : (.instanceMethod yX11_record_ : Cond) ∈ pw := pin_14 (List.mem_of_getElem? (i := 16) rfl)
theorem mw_14_17 : (.selects RX11 yX11_record_ yX11_record_ : Cond) ∈ pw := pin_14 (List.mem_of_getElem? (i := 17) rfl)
theorem mw_14_18 : (.methodLink RL 48 yX10_field : Cond) ∈ pw := pin_14 (List.mem_of_getElem? (i := 18) rfl)
theorem mw_14_19 : (.instanceMethod yX10_field : Cond) ∈ pw := pin_14 (List.mem_of_getElem? (i := 19) rfl)
theorem mw_14_20 : (.selects RX10 yX10_field yX10_field : Cond) ∈ pw := pin_14 (List.mem_of_getElem? (i := 20) rfl)
theorem mw_14_21 : (.methodLink RL 52 yX11_field_ : Cond) ∈ pw := pin_14 (List.mem_of_getElem? (i := 21) rfl)
theorem mw_14_22 : (.instanceMethod yX11_field_ : Cond) ∈ pw := pin_14 (List.mem_of_getElem? (i := 22) rfl)
theorem mw_14_23 : (.selects RX11 yX11_field_ yX11_field_ : Cond) ∈ pw := pin_14 (List.mem_of_getElem? (i := 23) rfl)
theorem mw_14_24 : (.methodLink RL 53 yX10_message : Cond) ∈ pw := pin_14 (List.mem_of_getElem? (i := 24) rfl)
theorem mw_14_25 : (.instanceMethod yX10_message : Cond) ∈ pw := pin_14 (List.mem_of_getElem? (i := 25) rfl)
theorem mw_14_26 : (.selects RX10 yX10_message yX10_message : Cond) ∈ pw := pin_14 (List.mem_of_getElem? (i := 26) rfl)
theorem mw_14_27 : (.methodLink RL 56 yX11_message : Cond) ∈ pw := pin_14 (List.mem_of_getElem? (i := 27) rfl)
theorem mw_14_28 : (.instanceMethod yX11_message : Cond) ∈ pw := pin_14 (List.mem_of_getElem? (i := 28) rfl)
theorem mw_14_29 : (.selects RX11 yX11_message yX11_message : Cond) ∈ pw := pin_14 (List.mem_of_getElem? (i := 29) rfl)
theorem mw_15_0 : (.methodLink RL 57 yL_byteAt : Cond) ∈ pw := pin_15 (List.mem_of_getElem? (i := 0) rfl)
theorem mw_15_1 : (.static yL_byteAt : Cond) ∈ pw := pin_15 (List.mem_of_getElem? (i := 1) rfl)
theorem mw_15_2 : (.initialized RL : Cond) ∈ pw := pin_15 (List.mem_of_getElem? (i := 2) rfl)
theorem mw_15_3 : (.methodLink RL 62 yX11_byteAt_ : Cond) ∈ pw := pin_15 (List.mem_of_getElem? (i := 3) rfl)
theorem mw_15_4 : (.instanceMethod yX11_byteAt_ : Cond) ∈ pw := pin_15 (List.mem_of_getElem? (i := 4) rfl)
theorem mw_15_5 : (.selects RX11 yX11_byteAt_ yX11_byteAt_ : Cond) ∈ pw := pin_15 (List.mem_of_getElem? (i := 5) rfl)
theorem mw_15_6 : (.methodLink RL 63 yX11_thrown : Cond) ∈ pw := pin_15 (List.mem_of_getElem? (i := 6) rfl)
theorem mw_15_7 : (.instanceMethod yX11_thrown : Cond) ∈ pw := pin_15 (List.mem_of_getElem? (i := 7) rfl)
theorem mw_15_8 : (.selects RX11 yX11_thrown yX11_thrown : Cond) ∈ pw := pin_15 (List.mem_of_getElem? (i := 8) rfl)
theorem mw_15_9 : (.methodLink RL 67 yX10_spoil : Cond) ∈ pw := pin_15 (List.mem_of_getElem? (i := 9) rfl)
theorem mw_15_10 : (.instanceMethod yX10_spoil : Cond) ∈ pw := pin_15 (List.mem_of_getElem? (i := 10) rfl)
theorem mw_15_11 : (.selects RX10 yX10_spoil yX10_spoil : Cond) ∈ pw := pin_15 (List.mem_of_getElem? (i := 11) rfl)
theorem mw_15_12 : (.methodLink RL 70 yX11_spoil : Cond) ∈ pw := pin_15 (List.mem_of_getElem? (i := 12) rfl)
theorem mw_15_13 : (.instanceMethod yX11_spoil : Cond) ∈ pw := pin_15 (List.mem_of_getElem? (i := 13) rfl)
theorem mw_15_14 : (.selects RX11 yX11_spoil yX11_spoil : Cond) ∈ pw := pin_15 (List.mem_of_getElem? (i := 14) rfl)
theorem mw_15_15 : (.methodLink RL 71 yX10_cut : Cond) ∈ pw := pin_15 (List.mem_of_getElem? (i := 15) rfl)
theorem mw_15_16 : (.instanceMethod yX10_cut : Cond) ∈ pw := pin_15 (List.mem_of_getElem? (i := 16) rfl)
theorem mw_15_17 : (.selects RX10 yX10_cut yX10_cut : Cond) ∈ pw := pin_15 (List.mem_of_getElem? (i := 17) rfl)
theorem mw_15_18 : (.methodLink RL 74 yX11_cut : Cond) ∈ pw := pin_15 (List.mem_of_getElem? (i := 18) rfl)
theorem mw_15_19 : (.instanceMethod yX11_cut : Cond) ∈ pw := pin_15 (List.mem_of_getElem? (i := 19) rfl)
theorem mw_15_20 : (.selects RX11 yX11_cut yX11_cut : Cond) ∈ pw := pin_15 (List.mem_of_getElem? (i := 20) rfl)
theorem mw_15_21 : (.methodLink RL 75 yX10_matches : Cond) ∈ pw := pin_15 (List.mem_of_getElem? (i := 21) rfl)
theorem mw_15_22 : (.instanceMethod yX10_matches : Cond) ∈ pw := pin_15 (List.mem_of_getElem? (i := 22) rfl)
theorem mw_15_23 : (.selects RX10 yX10_matches yX10_matches : Cond) ∈ pw := pin_15 (List.mem_of_getElem? (i := 23) rfl)
theorem mw_15_24 : (.methodLink RL 78 yX11_matches : Cond) ∈ pw := pin_15 (List.mem_of_getElem? (i := 24) rfl)
theorem mw_15_25 : (.instanceMethod yX11_matches : Cond) ∈ pw := pin_15 (List.mem_of_getElem? (i := 25) rfl)
theorem mw_15_26 : (.selects RX11 yX11_matches yX11_matches : Cond) ∈ pw := pin_15 (List.mem_of_getElem? (i := 26) rfl)
theorem mw_15_27 : (.methodLink RL 79 yX10_miss : Cond) ∈ pw := pin_15 (List.mem_of_getElem? (i := 27) rfl)
theorem mw_15_28 : (.instanceMethod yX10_miss : Cond) ∈ pw := pin_15 (List.mem_of_getElem? (i := 28) rfl)
theorem mw_15_29 : (.selects RX10 yX10_miss yX10_miss : Cond) ∈ pw := pin_15 (List.mem_of_getElem? (i := 29) rfl)
theorem mw_16_0 : (.methodLink RL 82 yX11_miss : Cond) ∈ pw := pin_16 (List.mem_of_getElem? (i := 0) rfl)
theorem mw_16_1 : (.instanceMethod yX11_miss : Cond) ∈ pw := pin_16 (List.mem_of_getElem? (i := 1) rfl)
theorem mw_16_2 : (.selects RX11 yX11_miss yX11_miss : Cond) ∈ pw := pin_16 (List.mem_of_getElem? (i := 2) rfl)
theorem mw_16_3 : (.methodLink RL 83 yX10_missStep : Cond) ∈ pw := pin_16 (List.mem_of_getElem? (i := 3) rfl)
theorem mw_16_4 : (.instanceMethod yX10_missStep : Cond) ∈ pw := pin_16 (List.mem_of_getElem? (i := 4) rfl)
theorem mw_16_5 : (.selects RX10 yX10_missStep yX10_missStep : Cond) ∈ pw := pin_16 (List.mem_of_getElem? (i := 5) rfl)
theorem mw_16_6 : (.methodLink RL 86 yX11_missStep : Cond) ∈ pw := pin_16 (List.mem_of_getElem? (i := 6) rfl)
theorem mw_16_7 : (.instanceMethod yX11_missStep : Cond) ∈ pw := pin_16 (List.mem_of_getElem? (i := 7) rfl)
theorem mw_16_8 : (.selects RX11 yX11_missStep yX11_missStep : Cond) ∈ pw := pin_16 (List.mem_of_getElem? (i := 8) rfl)
theorem mw_16_9 : (.methodLink RL 87 yX10_readers : Cond) ∈ pw := pin_16 (List.mem_of_getElem? (i := 9) rfl)
theorem mw_16_10 : (.instanceMethod yX10_readers : Cond) ∈ pw := pin_16 (List.mem_of_getElem? (i := 10) rfl)
theorem mw_16_11 : (.selects RX10 yX10_readers yX10_readers : Cond) ∈ pw := pin_16 (List.mem_of_getElem? (i := 11) rfl)
theorem mw_16_12 : (.methodLink RL 90 yX11_readers : Cond) ∈ pw := pin_16 (List.mem_of_getElem? (i := 12) rfl)
theorem mw_16_13 : (.instanceMethod yX11_readers : Cond) ∈ pw := pin_16 (List.mem_of_getElem? (i := 13) rfl)
theorem mw_16_14 : (.selects RX11 yX11_readers yX11_readers : Cond) ∈ pw := pin_16 (List.mem_of_getElem? (i := 14) rfl)
theorem mw_16_15 : (.methodLink RL 91 yX10_read : Cond) ∈ pw := pin_16 (List.mem_of_getElem? (i := 15) rfl)
theorem mw_16_16 : (.instanceMethod yX10_read : Cond) ∈ pw := pin_16 (List.mem_of_getElem? (i := 16) rfl)
theorem mw_16_17 : (.selects RX10 yX10_read yX10_read : Cond) ∈ pw := pin_16 (List.mem_of_getElem? (i := 17) rfl)
theorem mw_16_18 : (.methodLink RL 94 yX11_read : Cond) ∈ pw := pin_16 (List.mem_of_getElem? (i := 18) rfl)
theorem mw_16_19 : (.instanceMethod yX11_read : Cond) ∈ pw := pin_16 (List.mem_of_getElem? (i := 19) rfl)
theorem mw_16_20 : (.selects RX11 yX11_read yX11_read : Cond) ∈ pw := pin_16 (List.mem_of_getElem? (i := 20) rfl)
theorem mw_16_21 : (.methodLink RL 95 yX10_failure : Cond) ∈ pw := pin_16 (List.mem_of_getElem? (i := 21) rfl)
theorem mw_16_22 : (.instanceMethod yX10_failure : Cond) ∈ pw := pin_16 (List.mem_of_getElem? (i := 22) rfl)
theorem mw_16_23 : (.selects RX10 yX10_failure yX10_failure : Cond) ∈ pw := pin_16 (List.mem_of_getElem? (i := 23) rfl)
theorem mw_16_24 : (.methodLink RL 98 yX11_failure : Cond) ∈ pw := pin_16 (List.mem_of_getElem? (i := 24) rfl)
theorem mw_16_25 : (.instanceMethod yX11_failure : Cond) ∈ pw := pin_16 (List.mem_of_getElem? (i := 25) rfl)
theorem mw_16_26 : (.selects RX11 yX11_failure yX11_failure : Cond) ∈ pw := pin_16 (List.mem_of_getElem? (i := 26) rfl)
theorem mw_16_27 : (.methodLink RL 99 yX10_failureStep : Cond) ∈ pw := pin_16 (List.mem_of_getElem? (i := 27) rfl)
theorem mw_16_28 : (.instanceMethod yX10_failureStep : Cond) ∈ pw := pin_16 (List.mem_of_getElem? (i := 28) rfl)
theorem mw_16_29 : (.selects RX10 yX10_failureStep yX10_failureStep : Cond) ∈ pw := pin_16 (List.mem_of_getElem? (i := 29) rfl)
theorem mw_17_0 : (.methodLink RL 102 yX11_failureStep : Cond) ∈ pw := pin_17 (List.mem_of_getElem? (i := 0) rfl)
theorem mw_17_1 : (.instanceMethod yX11_failureStep : Cond) ∈ pw := pin_17 (List.mem_of_getElem? (i := 1) rfl)
theorem mw_17_2 : (.selects RX11 yX11_failureStep yX11_failureStep : Cond) ∈ pw := pin_17 (List.mem_of_getElem? (i := 2) rfl)
theorem mw_17_3 : (.methodLink RL 103 yL_node : Cond) ∈ pw := pin_17 (List.mem_of_getElem? (i := 3) rfl)
theorem mw_17_4 : (.static yL_node : Cond) ∈ pw := pin_17 (List.mem_of_getElem? (i := 4) rfl)
theorem mw_17_5 : (.methodLink RL 105 yX11_node : Cond) ∈ pw := pin_17 (List.mem_of_getElem? (i := 5) rfl)
theorem mw_17_6 : (.instanceMethod yX11_node : Cond) ∈ pw := pin_17 (List.mem_of_getElem? (i := 6) rfl)
theorem mw_17_7 : (.selects RX11 yX11_node yX11_node : Cond) ∈ pw := pin_17 (List.mem_of_getElem? (i := 7) rfl)
theorem mw_17_8 : (.methodLink RL 106 yL_value : Cond) ∈ pw := pin_17 (List.mem_of_getElem? (i := 8) rfl)
theorem mw_17_9 : (.static yL_value : Cond) ∈ pw := pin_17 (List.mem_of_getElem? (i := 9) rfl)
theorem mw_17_10 : (.methodLink RL 109 yX11_value_ : Cond) ∈ pw := pin_17 (List.mem_of_getElem? (i := 10) rfl)
theorem mw_17_11 : (.instanceMethod yX11_value_ : Cond) ∈ pw := pin_17 (List.mem_of_getElem? (i := 11) rfl)
theorem mw_17_12 : (.selects RX11 yX11_value_ yX11_value_ : Cond) ∈ pw := pin_17 (List.mem_of_getElem? (i := 12) rfl)
theorem mw_17_13 : (.methodLink RL 110 yL_letter : Cond) ∈ pw := pin_17 (List.mem_of_getElem? (i := 13) rfl)
theorem mw_17_14 : (.static yL_letter : Cond) ∈ pw := pin_17 (List.mem_of_getElem? (i := 14) rfl)
theorem mw_17_15 : (.methodLink RL 112 yX11_letter : Cond) ∈ pw := pin_17 (List.mem_of_getElem? (i := 15) rfl)
theorem mw_17_16 : (.instanceMethod yX11_letter : Cond) ∈ pw := pin_17 (List.mem_of_getElem? (i := 16) rfl)
theorem mw_17_17 : (.selects RX11 yX11_letter yX11_letter : Cond) ∈ pw := pin_17 (List.mem_of_getElem? (i := 17) rfl)
theorem mw_17_18 : (.methodLink RL 113 yX10_convert : Cond) ∈ pw := pin_17 (List.mem_of_getElem? (i := 18) rfl)
theorem mw_17_19 : (.instanceMethod yX10_convert : Cond) ∈ pw := pin_17 (List.mem_of_getElem? (i := 19) rfl)
theorem mw_17_20 : (.selects RX10 yX10_convert yX10_convert : Cond) ∈ pw := pin_17 (List.mem_of_getElem? (i := 20) rfl)
theorem mw_17_21 : (.methodLink RL 116 yX11_convert : Cond) ∈ pw := pin_17 (List.mem_of_getElem? (i := 21) rfl)
theorem mw_17_22 : (.instanceMethod yX11_convert : Cond) ∈ pw := pin_17 (List.mem_of_getElem? (i := 22) rfl)
theorem mw_17_23 : (.selects RX11 yX11_convert yX11_convert : Cond) ∈ pw := pin_17 (List.mem_of_getElem? (i := 23) rfl)
theorem mw_17_24 : (.methodLink RL 117 yX10_alike : Cond) ∈ pw := pin_17 (List.mem_of_getElem? (i := 24) rfl)
theorem mw_17_25 : (.instanceMethod yX10_alike : Cond) ∈ pw := pin_17 (List.mem_of_getElem? (i := 25) rfl)
theorem mw_17_26 : (.selects RX10 yX10_alike yX10_alike : Cond) ∈ pw := pin_17 (List.mem_of_getElem? (i := 26) rfl)
theorem mw_17_27 : (.methodLink RL 120 yX11_alike : Cond) ∈ pw := pin_17 (List.mem_of_getElem? (i := 27) rfl)
theorem mw_17_28 : (.instanceMethod yX11_alike : Cond) ∈ pw := pin_17 (List.mem_of_getElem? (i := 28) rfl)
theorem mw_17_29 : (.selects RX11 yX11_alike yX11_alike : Cond) ∈ pw := pin_17 (List.mem_of_getElem? (i := 29) rfl)
theorem mw_18_0 : (.methodLink RL 121 yX10_kept : Cond) ∈ pw := pin_18 (List.mem_of_getElem? (i := 0) rfl)
theorem mw_18_1 : (.instanceMethod yX10_kept : Cond) ∈ pw := pin_18 (List.mem_of_getElem? (i := 1) rfl)
theorem mw_18_2 : (.selects RX10 yX10_kept yX10_kept : Cond) ∈ pw := pin_18 (List.mem_of_getElem? (i := 2) rfl)
theorem mw_18_3 : (.methodLink RL 124 yX11_kept : Cond) ∈ pw := pin_18 (List.mem_of_getElem? (i := 3) rfl)
theorem mw_18_4 : (.instanceMethod yX11_kept : Cond) ∈ pw := pin_18 (List.mem_of_getElem? (i := 4) rfl)
theorem mw_18_5 : (.selects RX11 yX11_kept yX11_kept : Cond) ∈ pw := pin_18 (List.mem_of_getElem? (i := 5) rfl)
theorem mw_18_6 : (.methodLink RL 125 yX10_count : Cond) ∈ pw := pin_18 (List.mem_of_getElem? (i := 6) rfl)
theorem mw_18_7 : (.instanceMethod yX10_count : Cond) ∈ pw := pin_18 (List.mem_of_getElem? (i := 7) rfl)
theorem mw_18_8 : (.selects RX10 yX10_count yX10_count : Cond) ∈ pw := pin_18 (List.mem_of_getElem? (i := 8) rfl)
theorem mw_18_9 : (.methodLink RL 128 yX11_count : Cond) ∈ pw := pin_18 (List.mem_of_getElem? (i := 9) rfl)
theorem mw_18_10 : (.instanceMethod yX11_count : Cond) ∈ pw := pin_18 (List.mem_of_getElem? (i := 10) rfl)
theorem mw_18_11 : (.selects RX11 yX11_count yX11_count : Cond) ∈ pw := pin_18 (List.mem_of_getElem? (i := 11) rfl)
theorem mw_22_11 : (.codeWith yL_byteAt cL_byteAt 5 (some .int) [(0, 10, 13, 13)] : Cond) ∈ pw := pin_22 (List.mem_of_getElem? (i := 11) rfl)
theorem mw_18_12 : (.classLink RL 13 "java/util/NoSuchElementException" : Cond) ∈ pw := pin_18 (List.mem_of_getElem? (i := 12) rfl)
theorem mw_22_12 : (.codeWith yL_node cL_node 5 (some .int) [(0, 10, 13, 13)] : Cond) ∈ pw := pin_22 (List.mem_of_getElem? (i := 12) rfl)
theorem mw_22_13 : (.codeWith yL_value cL_value 4 (some .int) [(0, 8, 11, 13)] : Cond) ∈ pw := pin_22 (List.mem_of_getElem? (i := 13) rfl)
theorem mw_22_14 : (.codeWith yL_letter cL_letter 5 (some .int) [(0, 10, 13, 13)] : Cond) ∈ pw := pin_22 (List.mem_of_getElem? (i := 14) rfl)
end
section
/-! what the contracts are said in: a start over a list of cells, an end over a list of cells -/
abbrev vPre (dC : Nat → ClassId) (dI : Nat → Nat → Nat) (ws : va_W) (tys : List (ClassId × FieldType)) (sz : Nat) : State → Prop := fun U => U.heap.size = sz ∧ va_P (dC, dI) vwCl ws U.heap ∧ va_K (dC, dI) vwCl tys U ∧ va_D (fun _ => True) ws
abbrev vPst (dC : Nat → ClassId) (dI : Nat → Nat → Nat) (A : Nat → Prop) (ws : va_W) (tys : List (ClassId × FieldType)) (t : State) : Prop := va_P (dC, dI) vwCl ws t.heap ∧ va_K (dC, dI) vwCl tys t ∧ va_D A ws
theorem vPre_call {dC : Nat → ClassId} {dI : Nat → Nat → Nat} {ws : va_W} {tys : List (ClassId × FieldType)} {sz : Nat} {a : Array Value} {U : State} {g : JFrame} {mk : MethodId} (q : vPre dC dI ws tys sz U) : vPre dC dI ws tys sz (U.calling g mk a) := by
  obtain ⟨q1, qP, qK, qD⟩ := q
  exact ⟨q1, qP, va_K.moved (u := U) (U := U.calling g mk a) (Vm.Alike.refl U.vm) qK, qD⟩
theorem vPre_at {dC : Nat → ClassId} {dI : Nat → Nat → Nat} {s : State} {H : Heap} {A : Nat → Prop} {ws : va_W} {tys : List (ClassId × FieldType)} (hKc : va_K (dC, dI) vwCl tys s) (hPc : va_P (dC, dI) vwCl ws H) (hDc : va_D A ws) {U : State} (hU : U.heap = H) (hW : s.WarmedH U.vm) : vPre dC dI ws tys H.size U :=
  ⟨by rw [hU], by rw [hU]; exact hPc, va_K.moved hW.alike hKc, hDc.weaken (fun _ _ _ _ => trivial)⟩
theorem vBlind {dC : Nat → ClassId} {dI : Nat → Nat → Nat} {ws : va_W} {tys : List (ClassId × FieldType)} {sz : Nat} {av : List Value} : FrameBlind (va_Pc av (vPre dC dI ws tys sz)) := fun _ _ _ _ q => ⟨q.1, vPre_call q.2⟩
theorem vS {dC : Nat → ClassId} {dI : Nat → Nat → Nat} {s : State} {H : Heap} {A : Nat → Prop} {ws : va_W} {tys : List (ClassId × FieldType)} {As : List Value} (hKc : va_K (dC, dI) vwCl tys s) (hPc : va_P (dC, dI) vwCl ws H) (hDc : va_D A ws) : PreS s H (va_Pc As (vPre dC dI ws tys H.size)) As :=
  ⟨vBlind, fun _ hU hW => ⟨rfl, vPre_at hKc hPc hDc hU hW⟩⟩
theorem vV {dC : Nat → ClassId} {dI : Nat → Nat → Nat} {s : State} {H : Heap} {A : Nat → Prop} {ws : va_W} {tys : List (ClassId × FieldType)} {As : List Value} {ci q0 b N : Nat} {C : String} {T : u_T} {fs : List Value} (hKc : va_K (dC, dI) vwCl tys s) (hPc : va_P (dC, dI) vwCl ws H) (hDc : va_D A ws) (hc : vwCl[ci]? = some (C, T, N)) (he : ws[q0]? = some (b, .inr (ci, fs))) : PreV s H C b (va_Pc (.ref b :: As) (vPre dC dI ws tys H.size)) As :=
  ⟨vBlind, va_recv hKc hPc hc he, fun _ hU hW => ⟨rfl, vPre_at hKc hPc hDc hU hW⟩⟩
theorem gI {y : MethodName} {c : ByteArray} {n : Nat} {r : Option FieldType} (h : Cond.code y c n r ∈ pw) : GoodIn pw (.code y c n r :: pw) := fun w hw => (List.mem_cons.mp hw).elim (fun e => by rw [e]; exact pw_self _ h) (fun h => pw_self w h)
theorem gS {own : String} {i : Nat} {y : MethodName} {c : ByteArray} {n : Nat} {r : Option FieldType} (h1 : Cond.methodLink own i y ∈ pw) (h2 : Cond.static y ∈ pw) (h3 : Cond.initialized y.cls ∈ pw) (h : Cond.code y c n r ∈ pw) : GoodIn pw (va_wsS own i y (.code y c n r :: pw)) := by
  unfold va_wsS
  refine goodIn_app ?_ (gI h)
  intro w hw
  simp only [List.mem_cons, List.not_mem_nil, or_false] at hw
  rcases hw with rfl | rfl | rfl
  · exact pw_self _ h1
  · exact pw_self _ h2
  · exact pw_self _ h3
theorem gV {own C : String} {i : Nat} {y : MethodName} {c : ByteArray} {n : Nat} {r : Option FieldType} (h1 : Cond.methodLink own i y ∈ pw) (h2 : Cond.instanceMethod y ∈ pw) (h3 : Cond.selects C y y ∈ pw) (h4 : Cond.initialized C ∈ pw) (h : Cond.code y c n r ∈ pw) : GoodIn pw (wsV own i C y (.code y c n r :: pw)) := by
  unfold wsV
  refine goodIn_app ?_ (gI h)
  intro w hw
  simp only [List.mem_cons, List.not_mem_nil, or_false] at hw
  rcases hw with rfl | rfl | rfl | rfl
  · exact pw_self _ h1
  · exact pw_self _ h2
  · exact pw_self _ h3
  · exact pw_self _ h4
theorem il_lt {x y : Int32} (h : x < y) : x.toInt < y.toInt := Int32.lt_iff_toInt_lt.mp h
theorem il_le {x y : Int32} (h : x ≤ y) : x.toInt ≤ y.toInt := Int32.le_iff_toInt_le.mp h
theorem il_nlt {x y : Int32} (h : ¬ x < y) : y.toInt ≤ x.toInt := by rw [Int32.lt_iff_toInt_lt] at h; omega
theorem il_nle {x y : Int32} (h : ¬ x ≤ y) : y.toInt < x.toInt := by rw [Int32.le_iff_toInt_le] at h; omega
theorem il_eq {x y : Int32} (h : x = y) : x.toInt = y.toInt := by rw [h]
theorem va_P_arr {D : va_G} {cl : List vw_C} {ws : va_W} {H : Heap} {k q n : Nat} {cA : ClassId} {f : Nat → Int32} (g : Nat → Int32) (hP : va_P D cl ws H) (hk : ws[k]? = some (q, .inl (cA, n, .inl f))) (h : ∀ j, j < n → f j = g j) : va_P D cl (ws.set k (q, .inl (cA, n, .inl g))) H := by
  have hc : vp_cell cA (n, .inl f) = vp_cell cA (n, .inl g) := by
    show arrV cA n (fun j => .int (f j)) = arrV cA n (fun j => .int (g j))
    unfold arrV
    congr 1
    apply Array.ext
    · simp
    · intro i h1 h2
      simp only [Array.size_ofFn] at h1
      simp only [Array.getElem_ofFn]
      rw [h i h1]
  intro i p hp
  by_cases hi : i = k
  · subst hi
    have hlt : i < ws.length := (List.getElem?_eq_some_iff.mp hk).1
    rw [List.getElem?_set_self hlt] at hp
    cases hp
    have h0 := hP i _ hk
    show H[q]? = some (vp_cell cA (n, .inl g))
    rw [← hc]
    exact h0
  · rw [List.getElem?_set_ne (fun e => hi e.symm)] at hp
    exact hP i p hp
theorem vd_X0 : ∀ j, j < 13 → defaultValue (tyX0 j) = vp_V [.null, .null, .long 0, .null, .long 0, .int 0, .int 0, .null, .null, .null, .null, .int 0, .long 0] j := by decide +kernel
end
section
theorem dX1_hasByte_0 : decode cX1_hasByte 0 = .ok (.aload_n 0, 1) := by decide +kernel
theorem dX1_hasByte_1 : decode cX1_hasByte 1 = .ok (.iload_n 1, 1) := by decide +kernel
theorem dX1_hasByte_2 : decode cX1_hasByte 2 = .ok (.invokevirtual 32, 3) := by decide +kernel
theorem dX1_hasByte_5 : decode cX1_hasByte 5 = .ok (.ifCond .eq 28, 3) := by decide +kernel
theorem dX1_hasByte_33 : decode cX1_hasByte 33 = .ok (.iconst 0, 1) := by decide +kernel
theorem dX1_hasByte_34 : decode cX1_hasByte 34 = .ok (.ireturn, 1) := by decide +kernel
theorem dX1_isNumber_0 : decode cX1_isNumber 0 = .ok (.iload_n 1, 1) := by decide +kernel
theorem dX1_isNumber_1 : decode cX1_isNumber 1 = .ok (.ifCond .lt 12, 3) := by decide +kernel
theorem dX1_isNumber_4 : decode cX1_isNumber 4 = .ok (.iload_n 1, 1) := by decide +kernel
theorem dX1_isNumber_5 : decode cX1_isNumber 5 = .ok (.iconst 4, 1) := by decide +kernel
theorem dX1_isNumber_6 : decode cX1_isNumber 6 = .ok (.if_icmp .ge 7, 3) := by decide +kernel
theorem dX1_isNumber_9 : decode cX1_isNumber 9 = .ok (.iconst 1, 1) := by decide +kernel
theorem dX1_isNumber_10 : decode cX1_isNumber 10 = .ok (.goto 4, 3) := by decide +kernel
theorem dX1_isNumber_13 : decode cX1_isNumber 13 = .ok (.iconst 0, 1) := by decide +kernel
theorem dX1_isNumber_14 : decode cX1_isNumber 14 = .ok (.ireturn, 1) := by decide +kernel
theorem dX1_isWritten_0 : decode cX1_isWritten 0 = .ok (.aload_n 0, 1) := by decide +kernel
theorem dX1_isWritten_1 : decode cX1_isWritten 1 = .ok (.iload_n 1, 1) := by decide +kernel
theorem dX1_isWritten_2 : decode cX1_isWritten 2 = .ok (.invokevirtual 28, 3) := by decide +kernel
theorem dX1_isWritten_5 : decode cX1_isWritten 5 = .ok (.ifCond .eq 17, 3) := by decide +kernel
theorem dX1_isWritten_8 : decode cX1_isWritten 8 = .ok (.aload_n 0, 1) := by decide +kernel
theorem dX1_isWritten_9 : decode cX1_isWritten 9 = .ok (.getfield 19, 3) := by decide +kernel
theorem dX1_isWritten_12 : decode cX1_isWritten 12 = .ok (.iload_n 1, 1) := by decide +kernel
theorem dX1_isWritten_13 : decode cX1_isWritten 13 = .ok (.iaload, 1) := by decide +kernel
theorem dX1_isWritten_14 : decode cX1_isWritten 14 = .ok (.iconst (-1), 1) := by decide +kernel
theorem dX1_isWritten_15 : decode cX1_isWritten 15 = .ok (.if_icmp .eq 7, 3) := by decide +kernel
theorem dX1_isWritten_22 : decode cX1_isWritten 22 = .ok (.iconst 0, 1) := by decide +kernel
theorem dX1_isWritten_23 : decode cX1_isWritten 23 = .ok (.ireturn, 1) := by decide +kernel
set_option maxRecDepth 100000 in
set_option maxHeartbeats 4000000 in
/-- isNumber(p0): 0 to 3 -/
theorem c_isNumber (l : Launch) (dC : Nat → ClassId) (dI : Nat → Nat → Nat) (h0 : Nat) (g : Nat → Value) (p0 : Int32) (sz : Nat) : Met l yX1_isNumber (.code yX1_isNumber cX1_isNumber 2 (some .boolean) :: pw) ({ frames := 0, cells := 0, slots := 0, locals := 0 }) (va_Pc [.ref h0, .int p0] (vPre dC dI [(h0, .inr (1, [(g 0), (g 1), (g 2)]))] [] sz)) (va_Qi (fun (r : Int32) (_ : Unit) => (r = 1 ∧ ¬ p0 < 0 ∧ ¬ 4 ≤ p0) ∨ (r = 0)) (fun (_ : Unit) t => vPst dC dI (va_A [(h0, .inr (1, [(g 0), (g 1), (g 2)]))] sz) [(h0, .inr (1, [(g 0), (g 1), (g 2)]))] [] t) (va_A [(h0, .inr (1, [(g 0), (g 1), (g 2)]))] sz)) 0 0 (va_A [(h0, .inr (1, [(g 0), (g 1), (g 2)]))] sz) := by
  refine Met.ofW (cc := cX1_isNumber) (maxL := 2) (ret := (some .boolean)) (by decide) rfl ?_
  intro p e s m args below meth c s₁ B hml hv
  obtain ⟨rfl, hsz, hP, hK, hD0⟩ := hv
  have hx := B.exec
  have hb := B.bytes
  have hr := B.returns
  have hts := atoms_spec (ws := .code yX1_isNumber cX1_isNumber 2 (some .boolean) :: pw) B.pre
  have hts : ∀ w ∈ pw, w.before _ s = true := fun w h => hts w (List.mem_cons_of_mem _ h)
  have hown : s.vm.findClass RX1 = some m.cls := findClass_of_methodNamed B.named
  have hlocks := B.notSynchronized
  subst hsz
  have hD := hD0.self (sz := s.heap.size)
  generalize hAe : va_A [(h0, .inr (1, [(g 0), (g 1), (g 2)]))] s.heap.size = A at hD ⊢
  have hA : ∀ q : Nat, s.heap.size ≤ q → A q := fun q h => by rw [← hAe]; exact Or.inr h
  have hS : va_S A s.heap s.heap [] := va_S.rf
  have hP : va_P (dC, dI) vwCl [(h0, .inr (1, [(g 0), (g 1), (g 2)]))] s.heap := hP
  have hl := lv_entry ([.ref h0, .int p0]) (n := 2) (Nat.le_of_ble_eq_true rfl)
  rw [lg_entry_eq]
  generalize (lg_sl ([.ref h0, .int p0]) ++ List.replicate (2 - (lg_sl ([.ref h0, .int p0])).length) Slot.unset).toArray = ls at hl ⊢
  have hl : lv_has ls 2 [(0, .ref h0), (1, .int p0)] := hl
  refine lv_iload_n hx hb dX1_isNumber_0 rfl (lv_at hl 1 rfl) ?_
  refine lv_if_lt (tgt := 13) hx hb dX1_isNumber_1 (by decide) (fun c_1 => ?_) (fun c_1 => ?_)
  · refine lv_iconst (v := 0) hx hb dX1_isNumber_13 (by decide) ?_
    have hP9 := hP.sub (ws' := [(h0, .inr (1, [(g 0), (g 1), (g 2)]))]) [0] rfl
    have hD9 := hD.sub (ws' := [(h0, .inr (1, [(g 0), (g 1), (g 2)]))]) [0] (by decide) rfl
    have hK9 := hK.sub (tys' := []) [] rfl
    refine W.widen (k := 0) (n := 0) (Nat.le_of_ble_eq_true rfl) (Nat.le_of_ble_eq_true rfl) ?_
    exact W.zret (v := 0) hx hb hr rfl (fun t ht hW => ⟨⟨0, (), rfl, Or.inr (rfl), by rw [ht]; exact hP9, va_K.moved hW.alike hK9, hD9⟩, hS.F ht⟩) hS.2.2 dX1_isNumber_14
  · refine lv_iload_n hx hb dX1_isNumber_4 rfl (lv_at hl 1 rfl) ?_
    refine lv_iconst (v := 4) hx hb dX1_isNumber_5 (by decide) ?_
    refine lv_icmp_ge (tgt := 13) hx hb dX1_isNumber_6 (by decide) (fun c_2 => ?_) (fun c_2 => ?_)
    · refine lv_iconst (v := 0) hx hb dX1_isNumber_13 (by decide) ?_
      have hP9 := hP.sub (ws' := [(h0, .inr (1, [(g 0), (g 1), (g 2)]))]) [0] rfl
      have hD9 := hD.sub (ws' := [(h0, .inr (1, [(g 0), (g 1), (g 2)]))]) [0] (by decide) rfl
      have hK9 := hK.sub (tys' := []) [] rfl
      refine W.widen (k := 0) (n := 0) (Nat.le_of_ble_eq_true rfl) (Nat.le_of_ble_eq_true rfl) ?_
      exact W.zret (v := 0) hx hb hr rfl (fun t ht hW => ⟨⟨0, (), rfl, Or.inr (rfl), by rw [ht]; exact hP9, va_K.moved hW.alike hK9, hD9⟩, hS.F ht⟩) hS.2.2 dX1_isNumber_14
    · refine lv_iconst (v := 1) hx hb dX1_isNumber_9 (by decide) ?_
      refine lv_goto (tgt := 14) hx hb dX1_isNumber_10 (by decide) ?_
      have hP9 := hP.sub (ws' := [(h0, .inr (1, [(g 0), (g 1), (g 2)]))]) [0] rfl
      have hD9 := hD.sub (ws' := [(h0, .inr (1, [(g 0), (g 1), (g 2)]))]) [0] (by decide) rfl
      have hK9 := hK.sub (tys' := []) [] rfl
      refine W.widen (k := 0) (n := 0) (Nat.le_of_ble_eq_true rfl) (Nat.le_of_ble_eq_true rfl) ?_
      exact W.zret (v := 1) hx hb hr rfl (fun t ht hW => ⟨⟨1, (), rfl, Or.inl (⟨rfl, c_1, c_2⟩), by rw [ht]; exact hP9, va_K.moved hW.alike hK9, hD9⟩, hS.F ht⟩) hS.2.2 dX1_isNumber_14

set_option maxRecDepth 100000 in
set_option maxHeartbeats 4000000 in
theorem c_isWritten (l : Launch) (dC : Nat → ClassId) (dI : Nat → Nat → Nat) (h0 : Nat) (h1 : Nat) (cA : ClassId) (g : Nat → Value) (p0 : Int32) (sz : Nat) : Met l yX1_isWritten (.code yX1_isWritten cX1_isWritten 2 (some .boolean) :: pw) ({ frames := 1, cells := 0, slots := 0, locals := 21 }) (va_Pc [.ref h0, .int p0] (vPre dC dI [(h0, .inr (1, [(g 0), (g 1), .ref h1])), (h1, .inl (cA, 4, .inl (fun _ => (-1))))] [(cA, .int)] sz)) (va_Qi (fun (r : Int32) (_ : Unit) => r = 0) (fun (_ : Unit) t => vPst dC dI (va_A [(h0, .inr (1, [(g 0), (g 1), .ref h1])), (h1, .inl (cA, 4, .inl (fun _ => (-1))))] sz) [(h0, .inr (1, [(g 0), (g 1), .ref h1])), (h1, .inl (cA, 4, .inl (fun _ => (-1))))] [(cA, .int)] t) (va_A [(h0, .inr (1, [(g 0), (g 1), .ref h1])), (h1, .inl (cA, 4, .inl (fun _ => (-1))))] sz)) 0 0 (va_A [(h0, .inr (1, [(g 0), (g 1), .ref h1])), (h1, .inl (cA, 4, .inl (fun _ => (-1))))] sz) := by
  refine Met.ofW (cc := cX1_isWritten) (maxL := 2) (ret := (some .boolean)) (by decide) rfl ?_
  intro p e s m args below meth c s₁ B hml hv
  obtain ⟨rfl, hsz, hP, hK, hD0⟩ := hv
  have hx := B.exec
  have hb := B.bytes
  have hr := B.returns
  have hts := atoms_spec (ws := .code yX1_isWritten cX1_isWritten 2 (some .boolean) :: pw) B.pre
  have hts : ∀ w ∈ pw, w.before _ s = true := fun w h => hts w (List.mem_cons_of_mem _ h)
  have hown : s.vm.findClass RX1 = some m.cls := findClass_of_methodNamed B.named
  have hlocks := B.notSynchronized
  subst hsz
  have hD := hD0.self (sz := s.heap.size)
  generalize hAe : va_A [(h0, .inr (1, [(g 0), (g 1), .ref h1])), (h1, .inl (cA, 4, .inl (fun _ => (-1))))] s.heap.size = A at hD ⊢
  have hA : ∀ q : Nat, s.heap.size ≤ q → A q := fun q h => by rw [← hAe]; exact Or.inr h
  have hS : va_S A s.heap s.heap [] := va_S.rf
  have hP : va_P (dC, dI) vwCl [(h0, .inr (1, [(g 0), (g 1), .ref h1])), (h1, .inl (cA, 4, .inl (fun _ => (-1))))] s.heap := hP
  have hl := lv_entry ([.ref h0, .int p0]) (n := 2) (Nat.le_of_ble_eq_true rfl)
  rw [lg_entry_eq]
  generalize (lg_sl ([.ref h0, .int p0]) ++ List.replicate (2 - (lg_sl ([.ref h0, .int p0])).length) Slot.unset).toArray = ls at hl ⊢
  have hl : lv_has ls 2 [(0, .ref h0), (1, .int p0)] := hl
  refine lv_aload_n hx hb dX1_isWritten_0 rfl (lv_at hl 0 rfl) ?_
  refine lv_iload_n hx hb dX1_isWritten_1 rfl (lv_at hl 1 rfl) ?_
  have hPc := hP.sub (ws' := [(h0, .inr (1, [(g 0), (g 1), .ref h1]))]) [0] rfl
  have hDc := hD.sub (ws' := [(h0, .inr (1, [(g 0), (g 1), .ref h1]))]) [0] (by decide) rfl
  have hKc := hK.sub (tys' := []) [] rfl
  have hFc := va_free (wc := [(h0, .inr (1, [(g 0), (g 1), .ref h1]))]) hD hS hA [0] rfl
  refine va_calli (va_runV (As := [.int p0]) (rest := []) ⟨hx, hb, hml, hown, hts⟩ (c_isNumber l dC dI h0 (fun k => ([(g 0), (g 1), .ref h1] : List Value).getD k .null) p0 s.heap.size) (cwV 1 hts (gV mw_6_11 mw_2_26 mw_2_27 mw_0_5 mw_20_11) rfl rfl rfl (by decide +kernel) ⟨(Nat.le_of_ble_eq_true rfl), (Nat.le_of_ble_eq_true rfl)⟩) (vV (ci := 1) (q0 := 0) hKc hPc hDc rfl rfl) rfl rfl hl.1 rfl (lv_room (Nat.le_of_ble_eq_true rfl)) dX1_isWritten_2 ⟨(Nat.le_of_ble_eq_true rfl), (Nat.le_of_ble_eq_true rfl)⟩) hS (fun q _ h => hFc q h) hFc (fun r_1 u t H1 locs ht hvm hw hB hz1 hk1 hS => ?_)
  obtain ⟨hP1, hK1, hD1⟩ := hB
  rw [ht] at hP1
  have hK1 := va_K.moved hvm.symm hK1
  obtain ⟨hP, hD⟩ := va_join (wr := [(h1, .inl (cA, 4, .inl (fun _ => (-1))))]) (w1 := [(h0, .inr (1, [(g 0), (g 1), .ref h1]))]) hP hD [0] [1] rfl rfl (by decide) (by decide) hk1 hFc hP1 hD1
  clear hPc hDc hKc hP1 hK1 hD1 hFc hk1 hz1
  generalize H1 = H at hP hS ⊢
  have hP : va_P (dC, dI) vwCl [(h1, .inl (cA, 4, .inl (fun _ => (-1)))), (h0, .inr (1, [(g 0), (g 1), .ref h1]))] H := hP
  have hD : va_D A [(h1, .inl (cA, 4, .inl (fun _ => (-1)))), (h0, .inr (1, [(g 0), (g 1), .ref h1]))] := hD
  rcases hw with ⟨rfl, g_2, g_3⟩ | rfl
  · refine lv_if_eq (tgt := 22) hx hb dX1_isWritten_5 (by decide) (fun h => absurd h (by decide)) (fun _ => ?_)
    refine lv_aload_n hx hb dX1_isWritten_8 rfl (lv_at hl 0 rfl) ?_
    refine va_get (D := (dC, dI)) (ci := 1) (v := .ref h1) (C := RX1) (T := TX1) (N := 3) hx hb hts inlX1 hown hK hP 1 rfl rfl 2 (by decide) (hts (.fieldLink RX1 19 "ShapeReader$Messages" "plansUsed" "[I") mw_6_7) (fun _ h9 => h9) rfl dX1_isWritten_9 ?_
    refine lv_iload_n hx hb dX1_isWritten_12 rfl (lv_at hl 1 rfl) ?_
    refine va_iald hx hb hK hP 0 0 rfl rfl (vp_in_iff.mpr (by have a0 := il_nlt g_2; have a1 := il_nle g_3; have e0 : (0 : Int32).toInt = 0 := (by decide); have e1 : (4 : Int32).toInt = 4 := (by decide); omega)) dX1_isWritten_13 ?_
    refine lv_topi (fun k_5 ek_5 => ?_)
    obtain rfl : k_5 = (-1) := ek_5.trans rfl
    refine lv_iconst (v := (-1)) hx hb dX1_isWritten_14 (by decide) ?_
    refine lv_icmp_eq (tgt := 22) hx hb dX1_isWritten_15 (by decide) (fun _ => ?_) (fun h => absurd (by decide) h)
    refine lv_iconst (v := 0) hx hb dX1_isWritten_22 (by decide) ?_
    have hP9 := hP.sub (ws' := [(h0, .inr (1, [(g 0), (g 1), .ref h1])), (h1, .inl (cA, 4, .inl (fun _ => (-1))))]) [1, 0] rfl
    have hD9 := hD.sub (ws' := [(h0, .inr (1, [(g 0), (g 1), .ref h1])), (h1, .inl (cA, 4, .inl (fun _ => (-1))))]) [1, 0] (by decide) rfl
    have hK9 := hK.sub (tys' := [(cA, .int)]) [0] rfl
    refine W.widen (k := 0) (n := 0) (Nat.le_of_ble_eq_true rfl) (Nat.le_of_ble_eq_true rfl) ?_
    exact W.zret (v := 0) hx hb hr rfl (fun t ht hW => ⟨⟨0, (), rfl, rfl, by rw [ht]; exact hP9, va_K.moved hW.alike hK9, hD9⟩, hS.F ht⟩) hS.2.2 dX1_isWritten_23
  · refine lv_if_eq (tgt := 22) hx hb dX1_isWritten_5 (by decide) (fun _ => ?_) (fun h => absurd (by decide) h)
    refine lv_iconst (v := 0) hx hb dX1_isWritten_22 (by decide) ?_
    have hP9 := hP.sub (ws' := [(h0, .inr (1, [(g 0), (g 1), .ref h1])), (h1, .inl (cA, 4, .inl (fun _ => (-1))))]) [1, 0] rfl
    have hD9 := hD.sub (ws' := [(h0, .inr (1, [(g 0), (g 1), .ref h1])), (h1, .inl (cA, 4, .inl (fun _ => (-1))))]) [1, 0] (by decide) rfl
    have hK9 := hK.sub (tys' := [(cA, .int)]) [0] rfl
    refine W.widen (k := 0) (n := 0) (Nat.le_of_ble_eq_true rfl) (Nat.le_of_ble_eq_true rfl) ?_
    exact W.zret (v := 0) hx hb hr rfl (fun t ht hW => ⟨⟨0, (), rfl, rfl, by rw [ht]; exact hP9, va_K.moved hW.alike hK9, hD9⟩, hS.F ht⟩) hS.2.2 dX1_isWritten_23

set_option maxRecDepth 100000 in
set_option maxHeartbeats 4000000 in
theorem c_hasByte (l : Launch) (dC : Nat → ClassId) (dI : Nat → Nat → Nat) (h0 : Nat) (h1 : Nat) (cA : ClassId) (g : Nat → Value) (p0 : Int32) (p1 : Int32) (sz : Nat) : Met l yX1_hasByte (.code yX1_hasByte cX1_hasByte 3 (some .boolean) :: pw) ({ frames := 2, cells := 0, slots := 0, locals := 42 }) (va_Pc [.ref h0, .int p0, .int p1] (vPre dC dI [(h0, .inr (1, [(g 0), (g 1), .ref h1])), (h1, .inl (cA, 4, .inl (fun _ => (-1))))] [(cA, .int)] sz)) (va_Qi (fun (r : Int32) (_ : Unit) => r = 0) (fun (_ : Unit) t => vPst dC dI (va_A [(h0, .inr (1, [(g 0), (g 1), .ref h1])), (h1, .inl (cA, 4, .inl (fun _ => (-1))))] sz) [(h0, .inr (1, [(g 0), (g 1), .ref h1])), (h1, .inl (cA, 4, .inl (fun _ => (-1))))] [(cA, .int)] t) (va_A [(h0, .inr (1, [(g 0), (g 1), .ref h1])), (h1, .inl (cA, 4, .inl (fun _ => (-1))))] sz)) 0 0 (va_A [(h0, .inr (1, [(g 0), (g 1), .ref h1])), (h1, .inl (cA, 4, .inl (fun _ => (-1))))] sz) := by
  refine Met.ofW (cc := cX1_hasByte) (maxL := 3) (ret := (some .boolean)) (by decide) rfl ?_
  intro p e s m args below meth c s₁ B hml hv
  obtain ⟨rfl, hsz, hP, hK, hD0⟩ := hv
  have hx := B.exec
  have hb := B.bytes
  have hr := B.returns
  have hts := atoms_spec (ws := .code yX1_hasByte cX1_hasByte 3 (some .boolean) :: pw) B.pre
  have hts : ∀ w ∈ pw, w.before _ s = true := fun w h => hts w (List.mem_cons_of_mem _ h)
  have hown : s.vm.findClass RX1 = some m.cls := findClass_of_methodNamed B.named
  have hlocks := B.notSynchronized
  subst hsz
  have hD := hD0.self (sz := s.heap.size)
  generalize hAe : va_A [(h0, .inr (1, [(g 0), (g 1), .ref h1])), (h1, .inl (cA, 4, .inl (fun _ => (-1))))] s.heap.size = A at hD ⊢
  have hA : ∀ q : Nat, s.heap.size ≤ q → A q := fun q h => by rw [← hAe]; exact Or.inr h
  have hS : va_S A s.heap s.heap [] := va_S.rf
  have hP : va_P (dC, dI) vwCl [(h0, .inr (1, [(g 0), (g 1), .ref h1])), (h1, .inl (cA, 4, .inl (fun _ => (-1))))] s.heap := hP
  have hl := lv_entry ([.ref h0, .int p0, .int p1]) (n := 3) (Nat.le_of_ble_eq_true rfl)
  rw [lg_entry_eq]
  generalize (lg_sl ([.ref h0, .int p0, .int p1]) ++ List.replicate (3 - (lg_sl ([.ref h0, .int p0, .int p1])).length) Slot.unset).toArray = ls at hl ⊢
  have hl : lv_has ls 3 [(0, .ref h0), (1, .int p0), (2, .int p1)] := hl
  refine lv_aload_n hx hb dX1_hasByte_0 rfl (lv_at hl 0 rfl) ?_
  refine lv_iload_n hx hb dX1_hasByte_1 rfl (lv_at hl 1 rfl) ?_
  have hPc := hP.sub (ws' := [(h0, .inr (1, [(g 0), (g 1), .ref h1])), (h1, .inl (cA, 4, .inl (fun _ => (-1))))]) [0, 1] rfl
  have hDc := hD.sub (ws' := [(h0, .inr (1, [(g 0), (g 1), .ref h1])), (h1, .inl (cA, 4, .inl (fun _ => (-1))))]) [0, 1] (by decide) rfl
  have hKc := hK.sub (tys' := [(cA, .int)]) [0] rfl
  have hFc := va_free (wc := [(h0, .inr (1, [(g 0), (g 1), .ref h1])), (h1, .inl (cA, 4, .inl (fun _ => (-1))))]) hD hS hA [0, 1] rfl
  refine va_calli (va_runV (As := [.int p0]) (rest := []) ⟨hx, hb, hml, hown, hts⟩ (c_isWritten l dC dI h0 h1 cA g p0 s.heap.size) (cwV 1 hts (gV mw_6_12 mw_3_9 mw_3_10 mw_0_5 mw_20_12) rfl rfl rfl (by decide +kernel) ⟨(Nat.le_of_ble_eq_true rfl), (Nat.le_of_ble_eq_true rfl)⟩) (vV (ci := 1) (q0 := 0) hKc hPc hDc rfl rfl) rfl rfl hl.1 rfl (lv_room (Nat.le_of_ble_eq_true rfl)) dX1_hasByte_2 ⟨(Nat.le_of_ble_eq_true rfl), (Nat.le_of_ble_eq_true rfl)⟩) hS (fun q _ h => hFc q h) hFc (fun r_1 u t H1 locs ht hvm hw hB hz1 hk1 hS => ?_)
  obtain ⟨hP1, hK1, hD1⟩ := hB
  rw [ht] at hP1
  have hK1 := va_K.moved hvm.symm hK1
  obtain ⟨hP, hD⟩ := va_join (wr := []) (w1 := [(h0, .inr (1, [(g 0), (g 1), .ref h1])), (h1, .inl (cA, 4, .inl (fun _ => (-1))))]) hP hD [0, 1] [] rfl rfl (by decide) (by decide) hk1 hFc hP1 hD1
  clear hPc hDc hKc hP1 hK1 hD1 hFc hk1 hz1
  generalize H1 = H at hP hS ⊢
  have hP : va_P (dC, dI) vwCl [(h0, .inr (1, [(g 0), (g 1), .ref h1])), (h1, .inl (cA, 4, .inl (fun _ => (-1))))] H := hP
  have hD : va_D A [(h0, .inr (1, [(g 0), (g 1), .ref h1])), (h1, .inl (cA, 4, .inl (fun _ => (-1))))] := hD
  obtain rfl : r_1 = 0 := hw
  refine lv_if_eq (tgt := 33) hx hb dX1_hasByte_5 (by decide) (fun _ => ?_) (fun h => absurd (by decide) h)
  refine lv_iconst (v := 0) hx hb dX1_hasByte_33 (by decide) ?_
  have hP9 := hP.sub (ws' := [(h0, .inr (1, [(g 0), (g 1), .ref h1])), (h1, .inl (cA, 4, .inl (fun _ => (-1))))]) [0, 1] rfl
  have hD9 := hD.sub (ws' := [(h0, .inr (1, [(g 0), (g 1), .ref h1])), (h1, .inl (cA, 4, .inl (fun _ => (-1))))]) [0, 1] (by decide) rfl
  have hK9 := hK.sub (tys' := [(cA, .int)]) [0] rfl
  refine W.widen (k := 0) (n := 0) (Nat.le_of_ble_eq_true rfl) (Nat.le_of_ble_eq_true rfl) ?_
  exact W.zret (v := 0) hx hb hr rfl (fun t ht hW => ⟨⟨0, (), rfl, rfl, by rw [ht]; exact hP9, va_K.moved hW.alike hK9, hD9⟩, hS.F ht⟩) hS.2.2 dX1_hasByte_34
end
section
theorem dX10_alike_0 : decode cX10_alike 0 = .ok (.aload_n 0, 1) := by decide +kernel
theorem dX10_alike_1 : decode cX10_alike 1 = .ok (.getfield 48, 3) := by decide +kernel
theorem dX10_alike_4 : decode cX10_alike 4 = .ok (.iload_n 1, 1) := by decide +kernel
theorem dX10_alike_5 : decode cX10_alike 5 = .ok (.invokevirtual 205, 3) := by decide +kernel
theorem dX10_alike_8 : decode cX10_alike 8 = .ok (.ifCond .eq 22, 3) := by decide +kernel
theorem dX10_alike_30 : decode cX10_alike 30 = .ok (.iconst (-1), 1) := by decide +kernel
theorem dX10_alike_31 : decode cX10_alike 31 = .ok (.ireturn, 1) := by decide +kernel
theorem dX10_convert_0 : decode cX10_convert 0 = .ok (.aload_n 0, 1) := by decide +kernel
theorem dX10_convert_1 : decode cX10_convert 1 = .ok (.getfield 48, 3) := by decide +kernel
theorem dX10_convert_4 : decode cX10_convert 4 = .ok (.iload_n 1, 1) := by decide +kernel
theorem dX10_convert_5 : decode cX10_convert 5 = .ok (.invokevirtual 205, 3) := by decide +kernel
theorem dX10_convert_8 : decode cX10_convert 8 = .ok (.ifCond .eq 22, 3) := by decide +kernel
theorem dX10_convert_30 : decode cX10_convert 30 = .ok (.iconst (-1), 1) := by decide +kernel
theorem dX10_convert_31 : decode cX10_convert 31 = .ok (.ireturn, 1) := by decide +kernel
theorem dX10_count_0 : decode cX10_count 0 = .ok (.iload_n 1, 1) := by decide +kernel
theorem dX10_count_1 : decode cX10_count 1 = .ok (.tableswitch 84 0 5 #[39, 47, 55, 63, 71, 79], 39) := by decide +kernel
theorem dX10_count_40 : decode cX10_count 40 = .ok (.aload_n 0, 1) := by decide +kernel
theorem dX10_count_41 : decode cX10_count 41 = .ok (.getfield 29, 3) := by decide +kernel
theorem dX10_count_44 : decode cX10_count 44 = .ok (.getfield 137, 3) := by decide +kernel
theorem dX10_count_47 : decode cX10_count 47 = .ok (.ireturn, 1) := by decide +kernel
theorem dX10_count_48 : decode cX10_count 48 = .ok (.aload_n 0, 1) := by decide +kernel
theorem dX10_count_49 : decode cX10_count 49 = .ok (.getfield 48, 3) := by decide +kernel
theorem dX10_count_52 : decode cX10_count 52 = .ok (.invokevirtual 302, 3) := by decide +kernel
theorem dX10_count_55 : decode cX10_count 55 = .ok (.ireturn, 1) := by decide +kernel
theorem dX10_count_56 : decode cX10_count 56 = .ok (.aload_n 0, 1) := by decide +kernel
theorem dX10_count_57 : decode cX10_count 57 = .ok (.getfield 73, 3) := by decide +kernel
theorem dX10_count_60 : decode cX10_count 60 = .ok (.getfield 305, 3) := by decide +kernel
theorem dX10_count_63 : decode cX10_count 63 = .ok (.ireturn, 1) := by decide +kernel
theorem dX10_count_64 : decode cX10_count 64 = .ok (.aload_n 0, 1) := by decide +kernel
theorem dX10_count_65 : decode cX10_count 65 = .ok (.getfield 64, 3) := by decide +kernel
theorem dX10_count_68 : decode cX10_count 68 = .ok (.getfield 306, 3) := by decide +kernel
theorem dX10_count_71 : decode cX10_count 71 = .ok (.ireturn, 1) := by decide +kernel
theorem dX10_count_72 : decode cX10_count 72 = .ok (.aload_n 0, 1) := by decide +kernel
theorem dX10_count_73 : decode cX10_count 73 = .ok (.getfield 64, 3) := by decide +kernel
theorem dX10_count_76 : decode cX10_count 76 = .ok (.getfield 309, 3) := by decide +kernel
theorem dX10_count_79 : decode cX10_count 79 = .ok (.ireturn, 1) := by decide +kernel
theorem dX10_count_80 : decode cX10_count 80 = .ok (.aload_n 0, 1) := by decide +kernel
theorem dX10_count_81 : decode cX10_count 81 = .ok (.getfield 13, 3) := by decide +kernel
theorem dX10_count_84 : decode cX10_count 84 = .ok (.ireturn, 1) := by decide +kernel
theorem dX10_count_85 : decode cX10_count 85 = .ok (.iconst (-1), 1) := by decide +kernel
theorem dX10_count_86 : decode cX10_count 86 = .ok (.ireturn, 1) := by decide +kernel
theorem dX10_cut_0 : decode cX10_cut 0 = .ok (.aload_n 0, 1) := by decide +kernel
theorem dX10_cut_1 : decode cX10_cut 1 = .ok (.getfield 48, 3) := by decide +kernel
theorem dX10_cut_4 : decode cX10_cut 4 = .ok (.iload_n 1, 1) := by decide +kernel
theorem dX10_cut_5 : decode cX10_cut 5 = .ok (.invokevirtual 205, 3) := by decide +kernel
theorem dX10_cut_8 : decode cX10_cut 8 = .ok (.ifCond .eq 19, 3) := by decide +kernel
theorem dX10_cut_27 : decode cX10_cut 27 = .ok (.iconst (-1), 1) := by decide +kernel
theorem dX10_cut_28 : decode cX10_cut 28 = .ok (.ireturn, 1) := by decide +kernel
theorem dX10_failure_0 : decode cX10_failure 0 = .ok (.aload_n 0, 1) := by decide +kernel
theorem dX10_failure_1 : decode cX10_failure 1 = .ok (.getfield 104, 3) := by decide +kernel
theorem dX10_failure_4 : decode cX10_failure 4 = .ok (.getfield 256, 3) := by decide +kernel
theorem dX10_failure_7 : decode cX10_failure 7 = .ok (.ifCond .ne 5, 3) := by decide +kernel
theorem dX10_failure_10 : decode cX10_failure 10 = .ok (.iconst (-1), 1) := by decide +kernel
theorem dX10_failure_11 : decode cX10_failure 11 = .ok (.ireturn, 1) := by decide +kernel
theorem dX10_failureStep_0 : decode cX10_failureStep 0 = .ok (.aload_n 0, 1) := by decide +kernel
theorem dX10_failureStep_1 : decode cX10_failureStep 1 = .ok (.getfield 104, 3) := by decide +kernel
theorem dX10_failureStep_4 : decode cX10_failureStep 4 = .ok (.getfield 256, 3) := by decide +kernel
theorem dX10_failureStep_7 : decode cX10_failureStep 7 = .ok (.ifCond .ne 7, 3) := by decide +kernel
theorem dX10_failureStep_10 : decode cX10_failureStep 10 = .ok (.iconst (-1), 1) := by decide +kernel
theorem dX10_failureStep_11 : decode cX10_failureStep 11 = .ok (.goto 11, 3) := by decide +kernel
theorem dX10_failureStep_22 : decode cX10_failureStep 22 = .ok (.ireturn, 1) := by decide +kernel
theorem dX10_field_0 : decode cX10_field 0 = .ok (.aload_n 0, 1) := by decide +kernel
theorem dX10_field_1 : decode cX10_field 1 = .ok (.iload_n 1, 1) := by decide +kernel
theorem dX10_field_2 : decode cX10_field 2 = .ok (.invokevirtual 144, 3) := by decide +kernel
theorem dX10_field_5 : decode cX10_field 5 = .ok (.ifCond .eq 19, 3) := by decide +kernel
theorem dX10_field_24 : decode cX10_field 24 = .ok (.iconst (-1), 1) := by decide +kernel
theorem dX10_field_25 : decode cX10_field 25 = .ok (.ireturn, 1) := by decide +kernel
theorem dX10_isPlan_0 : decode cX10_isPlan 0 = .ok (.iload_n 1, 1) := by decide +kernel
theorem dX10_isPlan_1 : decode cX10_isPlan 1 = .ok (.ifCond .lt 18, 3) := by decide +kernel
theorem dX10_isPlan_4 : decode cX10_isPlan 4 = .ok (.iload_n 1, 1) := by decide +kernel
theorem dX10_isPlan_5 : decode cX10_isPlan 5 = .ok (.aload_n 0, 1) := by decide +kernel
theorem dX10_isPlan_6 : decode cX10_isPlan 6 = .ok (.getfield 29, 3) := by decide +kernel
theorem dX10_isPlan_9 : decode cX10_isPlan 9 = .ok (.getfield 137, 3) := by decide +kernel
theorem dX10_isPlan_12 : decode cX10_isPlan 12 = .ok (.if_icmp .ge 7, 3) := by decide +kernel
theorem dX10_isPlan_19 : decode cX10_isPlan 19 = .ok (.iconst 0, 1) := by decide +kernel
theorem dX10_isPlan_20 : decode cX10_isPlan 20 = .ok (.ireturn, 1) := by decide +kernel
theorem dX10_kept_0 : decode cX10_kept 0 = .ok (.iload_n 1, 1) := by decide +kernel
theorem dX10_kept_1 : decode cX10_kept 1 = .ok (.iconst (-1), 1) := by decide +kernel
theorem dX10_kept_2 : decode cX10_kept 2 = .ok (.if_icmp .ne 13, 3) := by decide +kernel
theorem dX10_kept_5 : decode cX10_kept 5 = .ok (.aload_n 0, 1) := by decide +kernel
theorem dX10_kept_6 : decode cX10_kept 6 = .ok (.getfield 64, 3) := by decide +kernel
theorem dX10_kept_9 : decode cX10_kept 9 = .ok (.getfield 298, 3) := by decide +kernel
theorem dX10_kept_12 : decode cX10_kept 12 = .ok (.goto 11, 3) := by decide +kernel
theorem dX10_kept_15 : decode cX10_kept 15 = .ok (.aload_n 0, 1) := by decide +kernel
theorem dX10_kept_16 : decode cX10_kept 16 = .ok (.getfield 64, 3) := by decide +kernel
theorem dX10_kept_19 : decode cX10_kept 19 = .ok (.iload_n 1, 1) := by decide +kernel
theorem dX10_kept_20 : decode cX10_kept 20 = .ok (.invokevirtual 299, 3) := by decide +kernel
theorem dX10_kept_23 : decode cX10_kept 23 = .ok (.ireturn, 1) := by decide +kernel
theorem dX10_matches_0 : decode cX10_matches 0 = .ok (.aload_n 0, 1) := by decide +kernel
theorem dX10_matches_1 : decode cX10_matches 1 = .ok (.iload_n 1, 1) := by decide +kernel
theorem dX10_matches_2 : decode cX10_matches 2 = .ok (.invokevirtual 144, 3) := by decide +kernel
theorem dX10_matches_5 : decode cX10_matches 5 = .ok (.ifCond .eq 11, 3) := by decide +kernel
theorem dX10_matches_16 : decode cX10_matches 16 = .ok (.iconst (-1), 1) := by decide +kernel
theorem dX10_matches_17 : decode cX10_matches 17 = .ok (.ireturn, 1) := by decide +kernel
theorem dX10_message_0 : decode cX10_message 0 = .ok (.aload_n 0, 1) := by decide +kernel
theorem dX10_message_1 : decode cX10_message 1 = .ok (.getfield 48, 3) := by decide +kernel
theorem dX10_message_4 : decode cX10_message 4 = .ok (.iload_n 1, 1) := by decide +kernel
theorem dX10_message_5 : decode cX10_message 5 = .ok (.invokevirtual 205, 3) := by decide +kernel
theorem dX10_message_8 : decode cX10_message 8 = .ok (.ifCond .ne 5, 3) := by decide +kernel
theorem dX10_message_11 : decode cX10_message 11 = .ok (.iconst (-1), 1) := by decide +kernel
theorem dX10_message_12 : decode cX10_message 12 = .ok (.ireturn, 1) := by decide +kernel
theorem dX10_miss_0 : decode cX10_miss 0 = .ok (.aload_n 0, 1) := by decide +kernel
theorem dX10_miss_1 : decode cX10_miss 1 = .ok (.iload_n 1, 1) := by decide +kernel
theorem dX10_miss_2 : decode cX10_miss 2 = .ok (.invokevirtual 144, 3) := by decide +kernel
theorem dX10_miss_5 : decode cX10_miss 5 = .ok (.ifCond .eq 11, 3) := by decide +kernel
theorem dX10_miss_16 : decode cX10_miss 16 = .ok (.iconst (-1), 1) := by decide +kernel
theorem dX10_miss_17 : decode cX10_miss 17 = .ok (.ireturn, 1) := by decide +kernel
theorem dX10_missStep_0 : decode cX10_missStep 0 = .ok (.aload_n 0, 1) := by decide +kernel
theorem dX10_missStep_1 : decode cX10_missStep 1 = .ok (.iload_n 1, 1) := by decide +kernel
theorem dX10_missStep_2 : decode cX10_missStep 2 = .ok (.invokevirtual 144, 3) := by decide +kernel
theorem dX10_missStep_5 : decode cX10_missStep 5 = .ok (.ifCond .eq 11, 3) := by decide +kernel
theorem dX10_missStep_16 : decode cX10_missStep 16 = .ok (.iconst (-1), 1) := by decide +kernel
theorem dX10_missStep_17 : decode cX10_missStep 17 = .ok (.ireturn, 1) := by decide +kernel
theorem dX10_read_0 : decode cX10_read 0 = .ok (.aload_n 0, 1) := by decide +kernel
theorem dX10_read_1 : decode cX10_read 1 = .ok (.getfield 48, 3) := by decide +kernel
theorem dX10_read_4 : decode cX10_read 4 = .ok (.iload_n 1, 1) := by decide +kernel
theorem dX10_read_5 : decode cX10_read 5 = .ok (.invokevirtual 205, 3) := by decide +kernel
theorem dX10_read_8 : decode cX10_read 8 = .ok (.ifCond .eq 11, 3) := by decide +kernel
theorem dX10_read_19 : decode cX10_read 19 = .ok (.iconst (-1), 1) := by decide +kernel
theorem dX10_read_20 : decode cX10_read 20 = .ok (.ireturn, 1) := by decide +kernel
theorem dX10_readers_0 : decode cX10_readers 0 = .ok (.aload_n 0, 1) := by decide +kernel
theorem dX10_readers_1 : decode cX10_readers 1 = .ok (.iload_n 1, 1) := by decide +kernel
theorem dX10_readers_2 : decode cX10_readers 2 = .ok (.invokevirtual 144, 3) := by decide +kernel
theorem dX10_readers_5 : decode cX10_readers 5 = .ok (.ifCond .eq 12, 3) := by decide +kernel
theorem dX10_readers_17 : decode cX10_readers 17 = .ok (.iconst (-1), 1) := by decide +kernel
theorem dX10_readers_18 : decode cX10_readers 18 = .ok (.ireturn, 1) := by decide +kernel
theorem dX10_record_0 : decode cX10_record 0 = .ok (.aload_n 0, 1) := by decide +kernel
theorem dX10_record_1 : decode cX10_record 1 = .ok (.iload_n 1, 1) := by decide +kernel
theorem dX10_record_2 : decode cX10_record 2 = .ok (.invokevirtual 144, 3) := by decide +kernel
theorem dX10_record_5 : decode cX10_record 5 = .ok (.ifCond .ne 5, 3) := by decide +kernel
theorem dX10_record_8 : decode cX10_record 8 = .ok (.iconst (-1), 1) := by decide +kernel
theorem dX10_record_9 : decode cX10_record 9 = .ok (.ireturn, 1) := by decide +kernel
theorem dX10_spoil_0 : decode cX10_spoil 0 = .ok (.aload_n 0, 1) := by decide +kernel
theorem dX10_spoil_1 : decode cX10_spoil 1 = .ok (.getfield 48, 3) := by decide +kernel
theorem dX10_spoil_4 : decode cX10_spoil 4 = .ok (.iload_n 1, 1) := by decide +kernel
theorem dX10_spoil_5 : decode cX10_spoil 5 = .ok (.iload_n 2, 1) := by decide +kernel
theorem dX10_spoil_6 : decode cX10_spoil 6 = .ok (.invokevirtual 214, 3) := by decide +kernel
theorem dX10_spoil_9 : decode cX10_spoil 9 = .ok (.ifCond .ne 5, 3) := by decide +kernel
theorem dX10_spoil_12 : decode cX10_spoil 12 = .ok (.iconst (-1), 1) := by decide +kernel
theorem dX10_spoil_13 : decode cX10_spoil 13 = .ok (.ireturn, 1) := by decide +kernel
theorem dX10_write_0 : decode cX10_write 0 = .ok (.aload_n 0, 1) := by decide +kernel
theorem dX10_write_1 : decode cX10_write 1 = .ok (.getfield 48, 3) := by decide +kernel
theorem dX10_write_4 : decode cX10_write 4 = .ok (.iload_n 1, 1) := by decide +kernel
theorem dX10_write_5 : decode cX10_write 5 = .ok (.invokevirtual 140, 3) := by decide +kernel
theorem dX10_write_8 : decode cX10_write 8 = .ok (.ifCond .eq 23, 3) := by decide +kernel
theorem dX10_write_11 : decode cX10_write 11 = .ok (.aload_n 0, 1) := by decide +kernel
theorem dX10_write_12 : decode cX10_write 12 = .ok (.iload_n 2, 1) := by decide +kernel
theorem dX10_write_13 : decode cX10_write 13 = .ok (.invokevirtual 144, 3) := by decide +kernel
theorem dX10_write_16 : decode cX10_write 16 = .ok (.ifCond .eq 15, 3) := by decide +kernel
theorem dX10_write_31 : decode cX10_write 31 = .ok (.iconst (-1), 1) := by decide +kernel
theorem dX10_write_32 : decode cX10_write 32 = .ok (.ireturn, 1) := by decide +kernel
theorem dX1_writtenBits_0 : decode cX1_writtenBits 0 = .ok (.iconst 0, 1) := by decide +kernel
theorem dX1_writtenBits_1 : decode cX1_writtenBits 1 = .ok (.istore_n 1, 1) := by decide +kernel
theorem dX1_writtenBits_2 : decode cX1_writtenBits 2 = .ok (.iconst 0, 1) := by decide +kernel
theorem dX1_writtenBits_3 : decode cX1_writtenBits 3 = .ok (.istore_n 2, 1) := by decide +kernel
theorem dX1_writtenBits_4 : decode cX1_writtenBits 4 = .ok (.iload_n 2, 1) := by decide +kernel
theorem dX1_writtenBits_5 : decode cX1_writtenBits 5 = .ok (.iconst 4, 1) := by decide +kernel
theorem dX1_writtenBits_6 : decode cX1_writtenBits 6 = .ok (.if_icmp .ge 23, 3) := by decide +kernel
theorem dX1_writtenBits_9 : decode cX1_writtenBits 9 = .ok (.aload_n 0, 1) := by decide +kernel
theorem dX1_writtenBits_10 : decode cX1_writtenBits 10 = .ok (.iload_n 2, 1) := by decide +kernel
theorem dX1_writtenBits_11 : decode cX1_writtenBits 11 = .ok (.invokevirtual 32, 3) := by decide +kernel
theorem dX1_writtenBits_14 : decode cX1_writtenBits 14 = .ok (.ifCond .eq 9, 3) := by decide +kernel
theorem dX1_writtenBits_23 : decode cX1_writtenBits 23 = .ok (.iinc 2 1, 3) := by decide +kernel
theorem dX1_writtenBits_26 : decode cX1_writtenBits 26 = .ok (.goto (-22), 3) := by decide +kernel
theorem dX1_writtenBits_29 : decode cX1_writtenBits 29 = .ok (.iload_n 1, 1) := by decide +kernel
theorem dX1_writtenBits_30 : decode cX1_writtenBits 30 = .ok (.ireturn, 1) := by decide +kernel
theorem dX7_rowAt_0 : decode cX7_rowAt 0 = .ok (.iload_n 1, 1) := by decide +kernel
theorem dX7_rowAt_1 : decode cX7_rowAt 1 = .ok (.ifCond .lt 28, 3) := by decide +kernel
theorem dX7_rowAt_4 : decode cX7_rowAt 4 = .ok (.iload_n 1, 1) := by decide +kernel
theorem dX7_rowAt_5 : decode cX7_rowAt 5 = .ok (.aload_n 0, 1) := by decide +kernel
theorem dX7_rowAt_6 : decode cX7_rowAt 6 = .ok (.getfield 9, 3) := by decide +kernel
theorem dX7_rowAt_9 : decode cX7_rowAt 9 = .ok (.if_icmp .ge 20, 3) := by decide +kernel
theorem dX7_rowAt_29 : decode cX7_rowAt 29 = .ok (.iconst (-1), 1) := by decide +kernel
theorem dX7_rowAt_30 : decode cX7_rowAt 30 = .ok (.ireturn, 1) := by decide +kernel
theorem dX9_pairAt_0 : decode cX9_pairAt 0 = .ok (.iload_n 1, 1) := by decide +kernel
theorem dX9_pairAt_1 : decode cX9_pairAt 1 = .ok (.ifCond .lt 25, 3) := by decide +kernel
theorem dX9_pairAt_4 : decode cX9_pairAt 4 = .ok (.iload_n 1, 1) := by decide +kernel
theorem dX9_pairAt_5 : decode cX9_pairAt 5 = .ok (.aload_n 0, 1) := by decide +kernel
theorem dX9_pairAt_6 : decode cX9_pairAt 6 = .ok (.getfield 15, 3) := by decide +kernel
theorem dX9_pairAt_9 : decode cX9_pairAt 9 = .ok (.if_icmp .ge 17, 3) := by decide +kernel
theorem dX9_pairAt_26 : decode cX9_pairAt 26 = .ok (.iconst (-1), 1) := by decide +kernel
theorem dX9_pairAt_27 : decode cX9_pairAt 27 = .ok (.ireturn, 1) := by decide +kernel
set_option maxRecDepth 100000 in
set_option maxHeartbeats 4000000 in
theorem c_isPlan (l : Launch) (dC : Nat → ClassId) (dI : Nat → Nat → Nat) (h0 : Nat) (h3 : Nat) (g : Nat → Value) (ga : Nat → Value) (p0 : Int32) (sz : Nat) : Met l yX10_isPlan (.code yX10_isPlan cX10_isPlan 2 (some .boolean) :: pw) ({ frames := 0, cells := 0, slots := 0, locals := 0 }) (va_Pc [.ref h0, .int p0] (vPre dC dI [(h0, .inr (10, [(g 0), (g 1), (g 2), .ref h3, (g 4), (g 5), (g 6), (g 7), (g 8), (g 9), (g 10), (g 11), (g 12), (g 13), (g 14), (g 15)])), (h3, .inr (5, [.int 0, (ga 1), (ga 2), (ga 3), (ga 4), (ga 5), (ga 6), (ga 7), (ga 8), (ga 9), (ga 10), (ga 11), (ga 12), (ga 13), (ga 14), (ga 15), (ga 16)]))] [] sz)) (va_Qi (fun (r : Int32) (_ : Unit) => r = 0) (fun (_ : Unit) t => vPst dC dI (va_A [(h0, .inr (10, [(g 0), (g 1), (g 2), .ref h3, (g 4), (g 5), (g 6), (g 7), (g 8), (g 9), (g 10), (g 11), (g 12), (g 13), (g 14), (g 15)])), (h3, .inr (5, [.int 0, (ga 1), (ga 2), (ga 3), (ga 4), (ga 5), (ga 6), (ga 7), (ga 8), (ga 9), (ga 10), (ga 11), (ga 12), (ga 13), (ga 14), (ga 15), (ga 16)]))] sz) [(h0, .inr (10, [(g 0), (g 1), (g 2), .ref h3, (g 4), (g 5), (g 6), (g 7), (g 8), (g 9), (g 10), (g 11), (g 12), (g 13), (g 14), (g 15)])), (h3, .inr (5, [.int 0, (ga 1), (ga 2), (ga 3), (ga 4), (ga 5), (ga 6), (ga 7), (ga 8), (ga 9), (ga 10), (ga 11), (ga 12), (ga 13), (ga 14), (ga 15), (ga 16)]))] [] t) (va_A [(h0, .inr (10, [(g 0), (g 1), (g 2), .ref h3, (g 4), (g 5), (g 6), (g 7), (g 8), (g 9), (g 10), (g 11), (g 12), (g 13), (g 14), (g 15)])), (h3, .inr (5, [.int 0, (ga 1), (ga 2), (ga 3), (ga 4), (ga 5), (ga 6), (ga 7), (ga 8), (ga 9), (ga 10), (ga 11), (ga 12), (ga 13), (ga 14), (ga 15), (ga 16)]))] sz)) 0 0 (va_A [(h0, .inr (10, [(g 0), (g 1), (g 2), .ref h3, (g 4), (g 5), (g 6), (g 7), (g 8), (g 9), (g 10), (g 11), (g 12), (g 13), (g 14), (g 15)])), (h3, .inr (5, [.int 0, (ga 1), (ga 2), (ga 3), (ga 4), (ga 5), (ga 6), (ga 7), (ga 8), (ga 9), (ga 10), (ga 11), (ga 12), (ga 13), (ga 14), (ga 15), (ga 16)]))] sz) := by
  refine Met.ofW (cc := cX10_isPlan) (maxL := 2) (ret := (some .boolean)) (by decide) rfl ?_
  intro p e s m args below meth c s₁ B hml hv
  obtain ⟨rfl, hsz, hP, hK, hD0⟩ := hv
  have hx := B.exec
  have hb := B.bytes
  have hr := B.returns
  have hts := atoms_spec (ws := .code yX10_isPlan cX10_isPlan 2 (some .boolean) :: pw) B.pre
  have hts : ∀ w ∈ pw, w.before _ s = true := fun w h => hts w (List.mem_cons_of_mem _ h)
  have hown : s.vm.findClass RX10 = some m.cls := findClass_of_methodNamed B.named
  have hlocks := B.notSynchronized
  subst hsz
  have hD := hD0.self (sz := s.heap.size)
  generalize hAe : va_A [(h0, .inr (10, [(g 0), (g 1), (g 2), .ref h3, (g 4), (g 5), (g 6), (g 7), (g 8), (g 9), (g 10), (g 11), (g 12), (g 13), (g 14), (g 15)])), (h3, .inr (5, [.int 0, (ga 1), (ga 2), (ga 3), (ga 4), (ga 5), (ga 6), (ga 7), (ga 8), (ga 9), (ga 10), (ga 11), (ga 12), (ga 13), (ga 14), (ga 15), (ga 16)]))] s.heap.size = A at hD ⊢
  have hA : ∀ q : Nat, s.heap.size ≤ q → A q := fun q h => by rw [← hAe]; exact Or.inr h
  have hS : va_S A s.heap s.heap [] := va_S.rf
  have hP : va_P (dC, dI) vwCl [(h0, .inr (10, [(g 0), (g 1), (g 2), .ref h3, (g 4), (g 5), (g 6), (g 7), (g 8), (g 9), (g 10), (g 11), (g 12), (g 13), (g 14), (g 15)])), (h3, .inr (5, [.int 0, (ga 1), (ga 2), (ga 3), (ga 4), (ga 5), (ga 6), (ga 7), (ga 8), (ga 9), (ga 10), (ga 11), (ga 12), (ga 13), (ga 14), (ga 15), (ga 16)]))] s.heap := hP
  have hl := lv_entry ([.ref h0, .int p0]) (n := 2) (Nat.le_of_ble_eq_true rfl)
  rw [lg_entry_eq]
  generalize (lg_sl ([.ref h0, .int p0]) ++ List.replicate (2 - (lg_sl ([.ref h0, .int p0])).length) Slot.unset).toArray = ls at hl ⊢
  have hl : lv_has ls 2 [(0, .ref h0), (1, .int p0)] := hl
  refine lv_iload_n hx hb dX10_isPlan_0 rfl (lv_at hl 1 rfl) ?_
  refine lv_if_lt (tgt := 19) hx hb dX10_isPlan_1 (by decide) (fun c_1 => ?_) (fun c_1 => ?_)
  · refine lv_iconst (v := 0) hx hb dX10_isPlan_19 (by decide) ?_
    have hP9 := hP.sub (ws' := [(h0, .inr (10, [(g 0), (g 1), (g 2), .ref h3, (g 4), (g 5), (g 6), (g 7), (g 8), (g 9), (g 10), (g 11), (g 12), (g 13), (g 14), (g 15)])), (h3, .inr (5, [.int 0, (ga 1), (ga 2), (ga 3), (ga 4), (ga 5), (ga 6), (ga 7), (ga 8), (ga 9), (ga 10), (ga 11), (ga 12), (ga 13), (ga 14), (ga 15), (ga 16)]))]) [0, 1] rfl
    have hD9 := hD.sub (ws' := [(h0, .inr (10, [(g 0), (g 1), (g 2), .ref h3, (g 4), (g 5), (g 6), (g 7), (g 8), (g 9), (g 10), (g 11), (g 12), (g 13), (g 14), (g 15)])), (h3, .inr (5, [.int 0, (ga 1), (ga 2), (ga 3), (ga 4), (ga 5), (ga 6), (ga 7), (ga 8), (ga 9), (ga 10), (ga 11), (ga 12), (ga 13), (ga 14), (ga 15), (ga 16)]))]) [0, 1] (by decide) rfl
    have hK9 := hK.sub (tys' := []) [] rfl
    refine W.widen (k := 0) (n := 0) (Nat.le_of_ble_eq_true rfl) (Nat.le_of_ble_eq_true rfl) ?_
    exact W.zret (v := 0) hx hb hr rfl (fun t ht hW => ⟨⟨0, (), rfl, rfl, by rw [ht]; exact hP9, va_K.moved hW.alike hK9, hD9⟩, hS.F ht⟩) hS.2.2 dX10_isPlan_20
  · refine lv_iload_n hx hb dX10_isPlan_4 rfl (lv_at hl 1 rfl) ?_
    refine lv_aload_n hx hb dX10_isPlan_5 rfl (lv_at hl 0 rfl) ?_
    refine va_get (D := (dC, dI)) (ci := 10) (v := .ref h3) (C := RX10) (T := TX10) (N := 16) hx hb hts inlX10 hown hK hP 0 rfl rfl 3 (by decide) (hts (.fieldLink RX10 29 "ShapeReader" "shapes" "LShapeReader$Shapes;") mw_0_28) (fun _ h9 => h9) rfl dX10_isPlan_6 ?_
    refine va_get (D := (dC, dI)) (ci := 5) (v := .int 0) (C := RX5) (T := TX5) (N := 17) hx hb hts inlX5 hown hK hP 1 rfl rfl 0 (by decide) (hts (.fieldLink RX10 137 "ShapeReader$Shapes" "planCount" "I") mw_2_24) (fun _ h9 => h9) rfl dX10_isPlan_9 ?_
    refine lv_icmp_ge (tgt := 19) hx hb dX10_isPlan_12 (by decide) (fun c_2 => ?_) (fun c_2 => False.elim (by have a0 := il_nlt c_1; have a1 := il_nle c_2; have e0 : (0 : Int32).toInt = 0 := (by decide); omega))
    refine lv_iconst (v := 0) hx hb dX10_isPlan_19 (by decide) ?_
    have hP9 := hP.sub (ws' := [(h0, .inr (10, [(g 0), (g 1), (g 2), .ref h3, (g 4), (g 5), (g 6), (g 7), (g 8), (g 9), (g 10), (g 11), (g 12), (g 13), (g 14), (g 15)])), (h3, .inr (5, [.int 0, (ga 1), (ga 2), (ga 3), (ga 4), (ga 5), (ga 6), (ga 7), (ga 8), (ga 9), (ga 10), (ga 11), (ga 12), (ga 13), (ga 14), (ga 15), (ga 16)]))]) [0, 1] rfl
    have hD9 := hD.sub (ws' := [(h0, .inr (10, [(g 0), (g 1), (g 2), .ref h3, (g 4), (g 5), (g 6), (g 7), (g 8), (g 9), (g 10), (g 11), (g 12), (g 13), (g 14), (g 15)])), (h3, .inr (5, [.int 0, (ga 1), (ga 2), (ga 3), (ga 4), (ga 5), (ga 6), (ga 7), (ga 8), (ga 9), (ga 10), (ga 11), (ga 12), (ga 13), (ga 14), (ga 15), (ga 16)]))]) [0, 1] (by decide) rfl
    have hK9 := hK.sub (tys' := []) [] rfl
    refine W.widen (k := 0) (n := 0) (Nat.le_of_ble_eq_true rfl) (Nat.le_of_ble_eq_true rfl) ?_
    exact W.zret (v := 0) hx hb hr rfl (fun t ht hW => ⟨⟨0, (), rfl, rfl, by rw [ht]; exact hP9, va_K.moved hW.alike hK9, hD9⟩, hS.F ht⟩) hS.2.2 dX10_isPlan_20

set_option maxRecDepth 100000 in
set_option maxHeartbeats 4000000 in
theorem c_record (l : Launch) (dC : Nat → ClassId) (dI : Nat → Nat → Nat) (h0 : Nat) (h3 : Nat) (g : Nat → Value) (ga : Nat → Value) (p0 : Int32) (p1 : Int32) (p2 : Int32) (sz : Nat) : Met l yX10_record (.code yX10_record cX10_record 6 (some .int) :: pw) ({ frames := 1, cells := 0, slots := 0, locals := 21 }) (va_Pc [.ref h0, .int p0, .int p1, .int p2] (vPre dC dI [(h0, .inr (10, [(g 0), (g 1), (g 2), .ref h3, (g 4), (g 5), (g 6), (g 7), (g 8), (g 9), (g 10), (g 11), (g 12), (g 13), (g 14), (g 15)])), (h3, .inr (5, [.int 0, (ga 1), (ga 2), (ga 3), (ga 4), (ga 5), (ga 6), (ga 7), (ga 8), (ga 9), (ga 10), (ga 11), (ga 12), (ga 13), (ga 14), (ga 15), (ga 16)]))] [] sz)) (va_Qi (fun (r : Int32) (_ : Unit) => r = (-1)) (fun (_ : Unit) t => vPst dC dI (va_A [(h0, .inr (10, [(g 0), (g 1), (g 2), .ref h3, (g 4), (g 5), (g 6), (g 7), (g 8), (g 9), (g 10), (g 11), (g 12), (g 13), (g 14), (g 15)])), (h3, .inr (5, [.int 0, (ga 1), (ga 2), (ga 3), (ga 4), (ga 5), (ga 6), (ga 7), (ga 8), (ga 9), (ga 10), (ga 11), (ga 12), (ga 13), (ga 14), (ga 15), (ga 16)]))] sz) [(h0, .inr (10, [(g 0), (g 1), (g 2), .ref h3, (g 4), (g 5), (g 6), (g 7), (g 8), (g 9), (g 10), (g 11), (g 12), (g 13), (g 14), (g 15)])), (h3, .inr (5, [.int 0, (ga 1), (ga 2), (ga 3), (ga 4), (ga 5), (ga 6), (ga 7), (ga 8), (ga 9), (ga 10), (ga 11), (ga 12), (ga 13), (ga 14), (ga 15), (ga 16)]))] [] t) (va_A [(h0, .inr (10, [(g 0), (g 1), (g 2), .ref h3, (g 4), (g 5), (g 6), (g 7), (g 8), (g 9), (g 10), (g 11), (g 12), (g 13), (g 14), (g 15)])), (h3, .inr (5, [.int 0, (ga 1), (ga 2), (ga 3), (ga 4), (ga 5), (ga 6), (ga 7), (ga 8), (ga 9), (ga 10), (ga 11), (ga 12), (ga 13), (ga 14), (ga 15), (ga 16)]))] sz)) 0 0 (va_A [(h0, .inr (10, [(g 0), (g 1), (g 2), .ref h3, (g 4), (g 5), (g 6), (g 7), (g 8), (g 9), (g 10), (g 11), (g 12), (g 13), (g 14), (g 15)])), (h3, .inr (5, [.int 0, (ga 1), (ga 2), (ga 3), (ga 4), (ga 5), (ga 6), (ga 7), (ga 8), (ga 9), (ga 10), (ga 11), (ga 12), (ga 13), (ga 14), (ga 15), (ga 16)]))] sz) := by
  refine Met.ofW (cc := cX10_record) (maxL := 6) (ret := (some .int)) (by decide) rfl ?_
  intro p e s m args below meth c s₁ B hml hv
  obtain ⟨rfl, hsz, hP, hK, hD0⟩ := hv
  have hx := B.exec
  have hb := B.bytes
  have hr := B.returns
  have hts := atoms_spec (ws := .code yX10_record cX10_record 6 (some .int) :: pw) B.pre
  have hts : ∀ w ∈ pw, w.before _ s = true := fun w h => hts w (List.mem_cons_of_mem _ h)
  have hown : s.vm.findClass RX10 = some m.cls := findClass_of_methodNamed B.named
  have hlocks := B.notSynchronized
  subst hsz
  have hD := hD0.self (sz := s.heap.size)
  generalize hAe : va_A [(h0, .inr (10, [(g 0), (g 1), (g 2), .ref h3, (g 4), (g 5), (g 6), (g 7), (g 8), (g 9), (g 10), (g 11), (g 12), (g 13), (g 14), (g 15)])), (h3, .inr (5, [.int 0, (ga 1), (ga 2), (ga 3), (ga 4), (ga 5), (ga 6), (ga 7), (ga 8), (ga 9), (ga 10), (ga 11), (ga 12), (ga 13), (ga 14), (ga 15), (ga 16)]))] s.heap.size = A at hD ⊢
  have hA : ∀ q : Nat, s.heap.size ≤ q → A q := fun q h => by rw [← hAe]; exact Or.inr h
  have hS : va_S A s.heap s.heap [] := va_S.rf
  have hP : va_P (dC, dI) vwCl [(h0, .inr (10, [(g 0), (g 1), (g 2), .ref h3, (g 4), (g 5), (g 6), (g 7), (g 8), (g 9), (g 10), (g 11), (g 12), (g 13), (g 14), (g 15)])), (h3, .inr (5, [.int 0, (ga 1), (ga 2), (ga 3), (ga 4), (ga 5), (ga 6), (ga 7), (ga 8), (ga 9), (ga 10), (ga 11), (ga 12), (ga 13), (ga 14), (ga 15), (ga 16)]))] s.heap := hP
  have hl := lv_entry ([.ref h0, .int p0, .int p1, .int p2]) (n := 6) (Nat.le_of_ble_eq_true rfl)
  rw [lg_entry_eq]
  generalize (lg_sl ([.ref h0, .int p0, .int p1, .int p2]) ++ List.replicate (6 - (lg_sl ([.ref h0, .int p0, .int p1, .int p2])).length) Slot.unset).toArray = ls at hl ⊢
  have hl : lv_has ls 6 [(0, .ref h0), (1, .int p0), (2, .int p1), (3, .int p2)] := hl
  refine lv_aload_n hx hb dX10_record_0 rfl (lv_at hl 0 rfl) ?_
  refine lv_iload_n hx hb dX10_record_1 rfl (lv_at hl 1 rfl) ?_
  have hPc := hP.sub (ws' := [(h0, .inr (10, [(g 0), (g 1), (g 2), .ref h3, (g 4), (g 5), (g 6), (g 7), (g 8), (g 9), (g 10), (g 11), (g 12), (g 13), (g 14), (g 15)])), (h3, .inr (5, [.int 0, (ga 1), (ga 2), (ga 3), (ga 4), (ga 5), (ga 6), (ga 7), (ga 8), (ga 9), (ga 10), (ga 11), (ga 12), (ga 13), (ga 14), (ga 15), (ga 16)]))]) [0, 1] rfl
  have hDc := hD.sub (ws' := [(h0, .inr (10, [(g 0), (g 1), (g 2), .ref h3, (g 4), (g 5), (g 6), (g 7), (g 8), (g 9), (g 10), (g 11), (g 12), (g 13), (g 14), (g 15)])), (h3, .inr (5, [.int 0, (ga 1), (ga 2), (ga 3), (ga 4), (ga 5), (ga 6), (ga 7), (ga 8), (ga 9), (ga 10), (ga 11), (ga 12), (ga 13), (ga 14), (ga 15), (ga 16)]))]) [0, 1] (by decide) rfl
  have hKc := hK.sub (tys' := []) [] rfl
  have hFc := va_free (wc := [(h0, .inr (10, [(g 0), (g 1), (g 2), .ref h3, (g 4), (g 5), (g 6), (g 7), (g 8), (g 9), (g 10), (g 11), (g 12), (g 13), (g 14), (g 15)])), (h3, .inr (5, [.int 0, (ga 1), (ga 2), (ga 3), (ga 4), (ga 5), (ga 6), (ga 7), (ga 8), (ga 9), (ga 10), (ga 11), (ga 12), (ga 13), (ga 14), (ga 15), (ga 16)]))]) hD hS hA [0, 1] rfl
  refine va_calli (va_runV (As := [.int p0]) (rest := []) ⟨hx, hb, hml, hown, hts⟩ (c_isPlan l dC dI h0 h3 g ga p0 s.heap.size) (cwV 1 hts (gV mw_2_28 mw_2_29 mw_3_0 mw_0_14 mw_19_6) rfl rfl rfl (by decide +kernel) ⟨(Nat.le_of_ble_eq_true rfl), (Nat.le_of_ble_eq_true rfl)⟩) (vV (ci := 10) (q0 := 0) hKc hPc hDc rfl rfl) rfl rfl hl.1 rfl (lv_room (Nat.le_of_ble_eq_true rfl)) dX10_record_2 ⟨(Nat.le_of_ble_eq_true rfl), (Nat.le_of_ble_eq_true rfl)⟩) hS (fun q _ h => hFc q h) hFc (fun r_1 u t H1 locs ht hvm hw hB hz1 hk1 hS => ?_)
  obtain ⟨hP1, hK1, hD1⟩ := hB
  rw [ht] at hP1
  have hK1 := va_K.moved hvm.symm hK1
  obtain ⟨hP, hD⟩ := va_join (wr := []) (w1 := [(h0, .inr (10, [(g 0), (g 1), (g 2), .ref h3, (g 4), (g 5), (g 6), (g 7), (g 8), (g 9), (g 10), (g 11), (g 12), (g 13), (g 14), (g 15)])), (h3, .inr (5, [.int 0, (ga 1), (ga 2), (ga 3), (ga 4), (ga 5), (ga 6), (ga 7), (ga 8), (ga 9), (ga 10), (ga 11), (ga 12), (ga 13), (ga 14), (ga 15), (ga 16)]))]) hP hD [0, 1] [] rfl rfl (by decide) (by decide) hk1 hFc hP1 hD1
  clear hPc hDc hKc hP1 hK1 hD1 hFc hk1 hz1
  generalize H1 = H at hP hS ⊢
  have hP : va_P (dC, dI) vwCl [(h0, .inr (10, [(g 0), (g 1), (g 2), .ref h3, (g 4), (g 5), (g 6), (g 7), (g 8), (g 9), (g 10), (g 11), (g 12), (g 13), (g 14), (g 15)])), (h3, .inr (5, [.int 0, (ga 1), (ga 2), (ga 3), (ga 4), (ga 5), (ga 6), (ga 7), (ga 8), (ga 9), (ga 10), (ga 11), (ga 12), (ga 13), (ga 14), (ga 15), (ga 16)]))] H := hP
  have hD : va_D A [(h0, .inr (10, [(g 0), (g 1), (g 2), .ref h3, (g 4), (g 5), (g 6), (g 7), (g 8), (g 9), (g 10), (g 11), (g 12), (g 13), (g 14), (g 15)])), (h3, .inr (5, [.int 0, (ga 1), (ga 2), (ga 3), (ga 4), (ga 5), (ga 6), (ga 7), (ga 8), (ga 9), (ga 10), (ga 11), (ga 12), (ga 13), (ga 14), (ga 15), (ga 16)]))] := hD
  obtain rfl : r_1 = 0 := hw
  refine lv_if_ne (tgt := 10) hx hb dX10_record_5 (by decide) (fun h => absurd rfl h) (fun _ => ?_)
  refine lv_iconst (v := (-1)) hx hb dX10_record_8 (by decide) ?_
  have hP9 := hP.sub (ws' := [(h0, .inr (10, [(g 0), (g 1), (g 2), .ref h3, (g 4), (g 5), (g 6), (g 7), (g 8), (g 9), (g 10), (g 11), (g 12), (g 13), (g 14), (g 15)])), (h3, .inr (5, [.int 0, (ga 1), (ga 2), (ga 3), (ga 4), (ga 5), (ga 6), (ga 7), (ga 8), (ga 9), (ga 10), (ga 11), (ga 12), (ga 13), (ga 14), (ga 15), (ga 16)]))]) [0, 1] rfl
  have hD9 := hD.sub (ws' := [(h0, .inr (10, [(g 0), (g 1), (g 2), .ref h3, (g 4), (g 5), (g 6), (g 7), (g 8), (g 9), (g 10), (g 11), (g 12), (g 13), (g 14), (g 15)])), (h3, .inr (5, [.int 0, (ga 1), (ga 2), (ga 3), (ga 4), (ga 5), (ga 6), (ga 7), (ga 8), (ga 9), (ga 10), (ga 11), (ga 12), (ga 13), (ga 14), (ga 15), (ga 16)]))]) [0, 1] (by decide) rfl
  have hK9 := hK.sub (tys' := []) [] rfl
  refine W.widen (k := 0) (n := 0) (Nat.le_of_ble_eq_true rfl) (Nat.le_of_ble_eq_true rfl) ?_
  exact W.iret (v := (-1)) hx hb hr (fun t ht hW => ⟨⟨(-1), (), rfl, rfl, by rw [ht]; exact hP9, va_K.moved hW.alike hK9, hD9⟩, hS.F ht⟩) hS.2.2 dX10_record_9

set_option maxRecDepth 100000 in
set_option maxHeartbeats 4000000 in
theorem c_field (l : Launch) (dC : Nat → ClassId) (dI : Nat → Nat → Nat) (h0 : Nat) (h3 : Nat) (g : Nat → Value) (ga : Nat → Value) (p0 : Int32) (p1 : Int32) (p2 : Int32) (p3 : Int32) (sz : Nat) : Met l yX10_field (.code yX10_field cX10_field 7 (some .int) :: pw) ({ frames := 1, cells := 0, slots := 0, locals := 21 }) (va_Pc [.ref h0, .int p0, .int p1, .int p2, .int p3] (vPre dC dI [(h0, .inr (10, [(g 0), (g 1), (g 2), .ref h3, (g 4), (g 5), (g 6), (g 7), (g 8), (g 9), (g 10), (g 11), (g 12), (g 13), (g 14), (g 15)])), (h3, .inr (5, [.int 0, (ga 1), (ga 2), (ga 3), (ga 4), (ga 5), (ga 6), (ga 7), (ga 8), (ga 9), (ga 10), (ga 11), (ga 12), (ga 13), (ga 14), (ga 15), (ga 16)]))] [] sz)) (va_Qi (fun (r : Int32) (_ : Unit) => r = (-1)) (fun (_ : Unit) t => vPst dC dI (va_A [(h0, .inr (10, [(g 0), (g 1), (g 2), .ref h3, (g 4), (g 5), (g 6), (g 7), (g 8), (g 9), (g 10), (g 11), (g 12), (g 13), (g 14), (g 15)])), (h3, .inr (5, [.int 0, (ga 1), (ga 2), (ga 3), (ga 4), (ga 5), (ga 6), (ga 7), (ga 8), (ga 9), (ga 10), (ga 11), (ga 12), (ga 13), (ga 14), (ga 15), (ga 16)]))] sz) [(h0, .inr (10, [(g 0), (g 1), (g 2), .ref h3, (g 4), (g 5), (g 6), (g 7), (g 8), (g 9), (g 10), (g 11), (g 12), (g 13), (g 14), (g 15)])), (h3, .inr (5, [.int 0, (ga 1), (ga 2), (ga 3), (ga 4), (ga 5), (ga 6), (ga 7), (ga 8), (ga 9), (ga 10), (ga 11), (ga 12), (ga 13), (ga 14), (ga 15), (ga 16)]))] [] t) (va_A [(h0, .inr (10, [(g 0), (g 1), (g 2), .ref h3, (g 4), (g 5), (g 6), (g 7), (g 8), (g 9), (g 10), (g 11), (g 12), (g 13), (g 14), (g 15)])), (h3, .inr (5, [.int 0, (ga 1), (ga 2), (ga 3), (ga 4), (ga 5), (ga 6), (ga 7), (ga 8), (ga 9), (ga 10), (ga 11), (ga 12), (ga 13), (ga 14), (ga 15), (ga 16)]))] sz)) 0 0 (va_A [(h0, .inr (10, [(g 0), (g 1), (g 2), .ref h3, (g 4), (g 5), (g 6), (g 7), (g 8), (g 9), (g 10), (g 11), (g 12), (g 13), (g 14), (g 15)])), (h3, .inr (5, [.int 0, (ga 1), (ga 2), (ga 3), (ga 4), (ga 5), (ga 6), (ga 7), (ga 8), (ga 9), (ga 10), (ga 11), (ga 12), (ga 13), (ga 14), (ga 15), (ga 16)]))] sz) := by
  refine Met.ofW (cc := cX10_field) (maxL := 7) (ret := (some .int)) (by decide) rfl ?_
  intro p e s m args below meth c s₁ B hml hv
  obtain ⟨rfl, hsz, hP, hK, hD0⟩ := hv
  have hx := B.exec
  have hb := B.bytes
  have hr := B.returns
  have hts := atoms_spec (ws := .code yX10_field cX10_field 7 (some .int) :: pw) B.pre
  have hts : ∀ w ∈ pw, w.before _ s = true := fun w h => hts w (List.mem_cons_of_mem _ h)
  have hown : s.vm.findClass RX10 = some m.cls := findClass_of_methodNamed B.named
  have hlocks := B.notSynchronized
  subst hsz
  have hD := hD0.self (sz := s.heap.size)
  generalize hAe : va_A [(h0, .inr (10, [(g 0), (g 1), (g 2), .ref h3, (g 4), (g 5), (g 6), (g 7), (g 8), (g 9), (g 10), (g 11), (g 12), (g 13), (g 14), (g 15)])), (h3, .inr (5, [.int 0, (ga 1), (ga 2), (ga 3), (ga 4), (ga 5), (ga 6), (ga 7), (ga 8), (ga 9), (ga 10), (ga 11), (ga 12), (ga 13), (ga 14), (ga 15), (ga 16)]))] s.heap.size = A at hD ⊢
  have hA : ∀ q : Nat, s.heap.size ≤ q → A q := fun q h => by rw [← hAe]; exact Or.inr h
  have hS : va_S A s.heap s.heap [] := va_S.rf
  have hP : va_P (dC, dI) vwCl [(h0, .inr (10, [(g 0), (g 1), (g 2), .ref h3, (g 4), (g 5), (g 6), (g 7), (g 8), (g 9), (g 10), (g 11), (g 12), (g 13), (g 14), (g 15)])), (h3, .inr (5, [.int 0, (ga 1), (ga 2), (ga 3), (ga 4), (ga 5), (ga 6), (ga 7), (ga 8), (ga 9), (ga 10), (ga 11), (ga 12), (ga 13), (ga 14), (ga 15), (ga 16)]))] s.heap := hP
  have hl := lv_entry ([.ref h0, .int p0, .int p1, .int p2, .int p3]) (n := 7) (Nat.le_of_ble_eq_true rfl)
  rw [lg_entry_eq]
  generalize (lg_sl ([.ref h0, .int p0, .int p1, .int p2, .int p3]) ++ List.replicate (7 - (lg_sl ([.ref h0, .int p0, .int p1, .int p2, .int p3])).length) Slot.unset).toArray = ls at hl ⊢
  have hl : lv_has ls 7 [(0, .ref h0), (1, .int p0), (2, .int p1), (3, .int p2), (4, .int p3)] := hl
  refine lv_aload_n hx hb dX10_field_0 rfl (lv_at hl 0 rfl) ?_
  refine lv_iload_n hx hb dX10_field_1 rfl (lv_at hl 1 rfl) ?_
  have hPc := hP.sub (ws' := [(h0, .inr (10, [(g 0), (g 1), (g 2), .ref h3, (g 4), (g 5), (g 6), (g 7), (g 8), (g 9), (g 10), (g 11), (g 12), (g 13), (g 14), (g 15)])), (h3, .inr (5, [.int 0, (ga 1), (ga 2), (ga 3), (ga 4), (ga 5), (ga 6), (ga 7), (ga 8), (ga 9), (ga 10), (ga 11), (ga 12), (ga 13), (ga 14), (ga 15), (ga 16)]))]) [0, 1] rfl
  have hDc := hD.sub (ws' := [(h0, .inr (10, [(g 0), (g 1), (g 2), .ref h3, (g 4), (g 5), (g 6), (g 7), (g 8), (g 9), (g 10), (g 11), (g 12), (g 13), (g 14), (g 15)])), (h3, .inr (5, [.int 0, (ga 1), (ga 2), (ga 3), (ga 4), (ga 5), (ga 6), (ga 7), (ga 8), (ga 9), (ga 10), (ga 11), (ga 12), (ga 13), (ga 14), (ga 15), (ga 16)]))]) [0, 1] (by decide) rfl
  have hKc := hK.sub (tys' := []) [] rfl
  have hFc := va_free (wc := [(h0, .inr (10, [(g 0), (g 1), (g 2), .ref h3, (g 4), (g 5), (g 6), (g 7), (g 8), (g 9), (g 10), (g 11), (g 12), (g 13), (g 14), (g 15)])), (h3, .inr (5, [.int 0, (ga 1), (ga 2), (ga 3), (ga 4), (ga 5), (ga 6), (ga 7), (ga 8), (ga 9), (ga 10), (ga 11), (ga 12), (ga 13), (ga 14), (ga 15), (ga 16)]))]) hD hS hA [0, 1] rfl
  refine va_calli (va_runV (As := [.int p0]) (rest := []) ⟨hx, hb, hml, hown, hts⟩ (c_isPlan l dC dI h0 h3 g ga p0 s.heap.size) (cwV 1 hts (gV mw_2_28 mw_2_29 mw_3_0 mw_0_14 mw_19_6) rfl rfl rfl (by decide +kernel) ⟨(Nat.le_of_ble_eq_true rfl), (Nat.le_of_ble_eq_true rfl)⟩) (vV (ci := 10) (q0 := 0) hKc hPc hDc rfl rfl) rfl rfl hl.1 rfl (lv_room (Nat.le_of_ble_eq_true rfl)) dX10_field_2 ⟨(Nat.le_of_ble_eq_true rfl), (Nat.le_of_ble_eq_true rfl)⟩) hS (fun q _ h => hFc q h) hFc (fun r_1 u t H1 locs ht hvm hw hB hz1 hk1 hS => ?_)
  obtain ⟨hP1, hK1, hD1⟩ := hB
  rw [ht] at hP1
  have hK1 := va_K.moved hvm.symm hK1
  obtain ⟨hP, hD⟩ := va_join (wr := []) (w1 := [(h0, .inr (10, [(g 0), (g 1), (g 2), .ref h3, (g 4), (g 5), (g 6), (g 7), (g 8), (g 9), (g 10), (g 11), (g 12), (g 13), (g 14), (g 15)])), (h3, .inr (5, [.int 0, (ga 1), (ga 2), (ga 3), (ga 4), (ga 5), (ga 6), (ga 7), (ga 8), (ga 9), (ga 10), (ga 11), (ga 12), (ga 13), (ga 14), (ga 15), (ga 16)]))]) hP hD [0, 1] [] rfl rfl (by decide) (by decide) hk1 hFc hP1 hD1
  clear hPc hDc hKc hP1 hK1 hD1 hFc hk1 hz1
  generalize H1 = H at hP hS ⊢
  have hP : va_P (dC, dI) vwCl [(h0, .inr (10, [(g 0), (g 1), (g 2), .ref h3, (g 4), (g 5), (g 6), (g 7), (g 8), (g 9), (g 10), (g 11), (g 12), (g 13), (g 14), (g 15)])), (h3, .inr (5, [.int 0, (ga 1), (ga 2), (ga 3), (ga 4), (ga 5), (ga 6), (ga 7), (ga 8), (ga 9), (ga 10), (ga 11), (ga 12), (ga 13), (ga 14), (ga 15), (ga 16)]))] H := hP
  have hD : va_D A [(h0, .inr (10, [(g 0), (g 1), (g 2), .ref h3, (g 4), (g 5), (g 6), (g 7), (g 8), (g 9), (g 10), (g 11), (g 12), (g 13), (g 14), (g 15)])), (h3, .inr (5, [.int 0, (ga 1), (ga 2), (ga 3), (ga 4), (ga 5), (ga 6), (ga 7), (ga 8), (ga 9), (ga 10), (ga 11), (ga 12), (ga 13), (ga 14), (ga 15), (ga 16)]))] := hD
  obtain rfl : r_1 = 0 := hw
  refine lv_if_eq (tgt := 24) hx hb dX10_field_5 (by decide) (fun _ => ?_) (fun h => absurd (by decide) h)
  refine lv_iconst (v := (-1)) hx hb dX10_field_24 (by decide) ?_
  have hP9 := hP.sub (ws' := [(h0, .inr (10, [(g 0), (g 1), (g 2), .ref h3, (g 4), (g 5), (g 6), (g 7), (g 8), (g 9), (g 10), (g 11), (g 12), (g 13), (g 14), (g 15)])), (h3, .inr (5, [.int 0, (ga 1), (ga 2), (ga 3), (ga 4), (ga 5), (ga 6), (ga 7), (ga 8), (ga 9), (ga 10), (ga 11), (ga 12), (ga 13), (ga 14), (ga 15), (ga 16)]))]) [0, 1] rfl
  have hD9 := hD.sub (ws' := [(h0, .inr (10, [(g 0), (g 1), (g 2), .ref h3, (g 4), (g 5), (g 6), (g 7), (g 8), (g 9), (g 10), (g 11), (g 12), (g 13), (g 14), (g 15)])), (h3, .inr (5, [.int 0, (ga 1), (ga 2), (ga 3), (ga 4), (ga 5), (ga 6), (ga 7), (ga 8), (ga 9), (ga 10), (ga 11), (ga 12), (ga 13), (ga 14), (ga 15), (ga 16)]))]) [0, 1] (by decide) rfl
  have hK9 := hK.sub (tys' := []) [] rfl
  refine W.widen (k := 0) (n := 0) (Nat.le_of_ble_eq_true rfl) (Nat.le_of_ble_eq_true rfl) ?_
  exact W.iret (v := (-1)) hx hb hr (fun t ht hW => ⟨⟨(-1), (), rfl, rfl, by rw [ht]; exact hP9, va_K.moved hW.alike hK9, hD9⟩, hS.F ht⟩) hS.2.2 dX10_field_25

set_option maxRecDepth 100000 in
set_option maxHeartbeats 4000000 in
theorem c_matches (l : Launch) (dC : Nat → ClassId) (dI : Nat → Nat → Nat) (h0 : Nat) (h3 : Nat) (g : Nat → Value) (ga : Nat → Value) (p0 : Int32) (p1 : Int32) (sz : Nat) : Met l yX10_matches (.code yX10_matches cX10_matches 3 (some .int) :: pw) ({ frames := 1, cells := 0, slots := 0, locals := 21 }) (va_Pc [.ref h0, .int p0, .int p1] (vPre dC dI [(h0, .inr (10, [(g 0), (g 1), (g 2), .ref h3, (g 4), (g 5), (g 6), (g 7), (g 8), (g 9), (g 10), (g 11), (g 12), (g 13), (g 14), (g 15)])), (h3, .inr (5, [.int 0, (ga 1), (ga 2), (ga 3), (ga 4), (ga 5), (ga 6), (ga 7), (ga 8), (ga 9), (ga 10), (ga 11), (ga 12), (ga 13), (ga 14), (ga 15), (ga 16)]))] [] sz)) (va_Qi (fun (r : Int32) (_ : Unit) => r = (-1)) (fun (_ : Unit) t => vPst dC dI (va_A [(h0, .inr (10, [(g 0), (g 1), (g 2), .ref h3, (g 4), (g 5), (g 6), (g 7), (g 8), (g 9), (g 10), (g 11), (g 12), (g 13), (g 14), (g 15)])), (h3, .inr (5, [.int 0, (ga 1), (ga 2), (ga 3), (ga 4), (ga 5), (ga 6), (ga 7), (ga 8), (ga 9), (ga 10), (ga 11), (ga 12), (ga 13), (ga 14), (ga 15), (ga 16)]))] sz) [(h0, .inr (10, [(g 0), (g 1), (g 2), .ref h3, (g 4), (g 5), (g 6), (g 7), (g 8), (g 9), (g 10), (g 11), (g 12), (g 13), (g 14), (g 15)])), (h3, .inr (5, [.int 0, (ga 1), (ga 2), (ga 3), (ga 4), (ga 5), (ga 6), (ga 7), (ga 8), (ga 9), (ga 10), (ga 11), (ga 12), (ga 13), (ga 14), (ga 15), (ga 16)]))] [] t) (va_A [(h0, .inr (10, [(g 0), (g 1), (g 2), .ref h3, (g 4), (g 5), (g 6), (g 7), (g 8), (g 9), (g 10), (g 11), (g 12), (g 13), (g 14), (g 15)])), (h3, .inr (5, [.int 0, (ga 1), (ga 2), (ga 3), (ga 4), (ga 5), (ga 6), (ga 7), (ga 8), (ga 9), (ga 10), (ga 11), (ga 12), (ga 13), (ga 14), (ga 15), (ga 16)]))] sz)) 0 0 (va_A [(h0, .inr (10, [(g 0), (g 1), (g 2), .ref h3, (g 4), (g 5), (g 6), (g 7), (g 8), (g 9), (g 10), (g 11), (g 12), (g 13), (g 14), (g 15)])), (h3, .inr (5, [.int 0, (ga 1), (ga 2), (ga 3), (ga 4), (ga 5), (ga 6), (ga 7), (ga 8), (ga 9), (ga 10), (ga 11), (ga 12), (ga 13), (ga 14), (ga 15), (ga 16)]))] sz) := by
  refine Met.ofW (cc := cX10_matches) (maxL := 3) (ret := (some .int)) (by decide) rfl ?_
  intro p e s m args below meth c s₁ B hml hv
  obtain ⟨rfl, hsz, hP, hK, hD0⟩ := hv
  have hx := B.exec
  have hb := B.bytes
  have hr := B.returns
  have hts := atoms_spec (ws := .code yX10_matches cX10_matches 3 (some .int) :: pw) B.pre
  have hts : ∀ w ∈ pw, w.before _ s = true := fun w h => hts w (List.mem_cons_of_mem _ h)
  have hown : s.vm.findClass RX10 = some m.cls := findClass_of_methodNamed B.named
  have hlocks := B.notSynchronized
  subst hsz
  have hD := hD0.self (sz := s.heap.size)
  generalize hAe : va_A [(h0, .inr (10, [(g 0), (g 1), (g 2), .ref h3, (g 4), (g 5), (g 6), (g 7), (g 8), (g 9), (g 10), (g 11), (g 12), (g 13), (g 14), (g 15)])), (h3, .inr (5, [.int 0, (ga 1), (ga 2), (ga 3), (ga 4), (ga 5), (ga 6), (ga 7), (ga 8), (ga 9), (ga 10), (ga 11), (ga 12), (ga 13), (ga 14), (ga 15), (ga 16)]))] s.heap.size = A at hD ⊢
  have hA : ∀ q : Nat, s.heap.size ≤ q → A q := fun q h => by rw [← hAe]; exact Or.inr h
  have hS : va_S A s.heap s.heap [] := va_S.rf
  have hP : va_P (dC, dI) vwCl [(h0, .inr (10, [(g 0), (g 1), (g 2), .ref h3, (g 4), (g 5), (g 6), (g 7), (g 8), (g 9), (g 10), (g 11), (g 12), (g 13), (g 14), (g 15)])), (h3, .inr (5, [.int 0, (ga 1), (ga 2), (ga 3), (ga 4), (ga 5), (ga 6), (ga 7), (ga 8), (ga 9), (ga 10), (ga 11), (ga 12), (ga 13), (ga 14), (ga 15), (ga 16)]))] s.heap := hP
  have hl := lv_entry ([.ref h0, .int p0, .int p1]) (n := 3) (Nat.le_of_ble_eq_true rfl)
  rw [lg_entry_eq]
  generalize (lg_sl ([.ref h0, .int p0, .int p1]) ++ List.replicate (3 - (lg_sl ([.ref h0, .int p0, .int p1])).length) Slot.unset).toArray = ls at hl ⊢
  have hl : lv_has ls 3 [(0, .ref h0), (1, .int p0), (2, .int p1)] := hl
  refine lv_aload_n hx hb dX10_matches_0 rfl (lv_at hl 0 rfl) ?_
  refine lv_iload_n hx hb dX10_matches_1 rfl (lv_at hl 1 rfl) ?_
  have hPc := hP.sub (ws' := [(h0, .inr (10, [(g 0), (g 1), (g 2), .ref h3, (g 4), (g 5), (g 6), (g 7), (g 8), (g 9), (g 10), (g 11), (g 12), (g 13), (g 14), (g 15)])), (h3, .inr (5, [.int 0, (ga 1), (ga 2), (ga 3), (ga 4), (ga 5), (ga 6), (ga 7), (ga 8), (ga 9), (ga 10), (ga 11), (ga 12), (ga 13), (ga 14), (ga 15), (ga 16)]))]) [0, 1] rfl
  have hDc := hD.sub (ws' := [(h0, .inr (10, [(g 0), (g 1), (g 2), .ref h3, (g 4), (g 5), (g 6), (g 7), (g 8), (g 9), (g 10), (g 11), (g 12), (g 13), (g 14), (g 15)])), (h3, .inr (5, [.int 0, (ga 1), (ga 2), (ga 3), (ga 4), (ga 5), (ga 6), (ga 7), (ga 8), (ga 9), (ga 10), (ga 11), (ga 12), (ga 13), (ga 14), (ga 15), (ga 16)]))]) [0, 1] (by decide) rfl
  have hKc := hK.sub (tys' := []) [] rfl
  have hFc := va_free (wc := [(h0, .inr (10, [(g 0), (g 1), (g 2), .ref h3, (g 4), (g 5), (g 6), (g 7), (g 8), (g 9), (g 10), (g 11), (g 12), (g 13), (g 14), (g 15)])), (h3, .inr (5, [.int 0, (ga 1), (ga 2), (ga 3), (ga 4), (ga 5), (ga 6), (ga 7), (ga 8), (ga 9), (ga 10), (ga 11), (ga 12), (ga 13), (ga 14), (ga 15), (ga 16)]))]) hD hS hA [0, 1] rfl
  refine va_calli (va_runV (As := [.int p0]) (rest := []) ⟨hx, hb, hml, hown, hts⟩ (c_isPlan l dC dI h0 h3 g ga p0 s.heap.size) (cwV 1 hts (gV mw_2_28 mw_2_29 mw_3_0 mw_0_14 mw_19_6) rfl rfl rfl (by decide +kernel) ⟨(Nat.le_of_ble_eq_true rfl), (Nat.le_of_ble_eq_true rfl)⟩) (vV (ci := 10) (q0 := 0) hKc hPc hDc rfl rfl) rfl rfl hl.1 rfl (lv_room (Nat.le_of_ble_eq_true rfl)) dX10_matches_2 ⟨(Nat.le_of_ble_eq_true rfl), (Nat.le_of_ble_eq_true rfl)⟩) hS (fun q _ h => hFc q h) hFc (fun r_1 u t H1 locs ht hvm hw hB hz1 hk1 hS => ?_)
  obtain ⟨hP1, hK1, hD1⟩ := hB
  rw [ht] at hP1
  have hK1 := va_K.moved hvm.symm hK1
  obtain ⟨hP, hD⟩ := va_join (wr := []) (w1 := [(h0, .inr (10, [(g 0), (g 1), (g 2), .ref h3, (g 4), (g 5), (g 6), (g 7), (g 8), (g 9), (g 10), (g 11), (g 12), (g 13), (g 14), (g 15)])), (h3, .inr (5, [.int 0, (ga 1), (ga 2), (ga 3), (ga 4), (ga 5), (ga 6), (ga 7), (ga 8), (ga 9), (ga 10), (ga 11), (ga 12), (ga 13), (ga 14), (ga 15), (ga 16)]))]) hP hD [0, 1] [] rfl rfl (by decide) (by decide) hk1 hFc hP1 hD1
  clear hPc hDc hKc hP1 hK1 hD1 hFc hk1 hz1
  generalize H1 = H at hP hS ⊢
  have hP : va_P (dC, dI) vwCl [(h0, .inr (10, [(g 0), (g 1), (g 2), .ref h3, (g 4), (g 5), (g 6), (g 7), (g 8), (g 9), (g 10), (g 11), (g 12), (g 13), (g 14), (g 15)])), (h3, .inr (5, [.int 0, (ga 1), (ga 2), (ga 3), (ga 4), (ga 5), (ga 6), (ga 7), (ga 8), (ga 9), (ga 10), (ga 11), (ga 12), (ga 13), (ga 14), (ga 15), (ga 16)]))] H := hP
  have hD : va_D A [(h0, .inr (10, [(g 0), (g 1), (g 2), .ref h3, (g 4), (g 5), (g 6), (g 7), (g 8), (g 9), (g 10), (g 11), (g 12), (g 13), (g 14), (g 15)])), (h3, .inr (5, [.int 0, (ga 1), (ga 2), (ga 3), (ga 4), (ga 5), (ga 6), (ga 7), (ga 8), (ga 9), (ga 10), (ga 11), (ga 12), (ga 13), (ga 14), (ga 15), (ga 16)]))] := hD
  obtain rfl : r_1 = 0 := hw
  refine lv_if_eq (tgt := 16) hx hb dX10_matches_5 (by decide) (fun _ => ?_) (fun h => absurd (by decide) h)
  refine lv_iconst (v := (-1)) hx hb dX10_matches_16 (by decide) ?_
  have hP9 := hP.sub (ws' := [(h0, .inr (10, [(g 0), (g 1), (g 2), .ref h3, (g 4), (g 5), (g 6), (g 7), (g 8), (g 9), (g 10), (g 11), (g 12), (g 13), (g 14), (g 15)])), (h3, .inr (5, [.int 0, (ga 1), (ga 2), (ga 3), (ga 4), (ga 5), (ga 6), (ga 7), (ga 8), (ga 9), (ga 10), (ga 11), (ga 12), (ga 13), (ga 14), (ga 15), (ga 16)]))]) [0, 1] rfl
  have hD9 := hD.sub (ws' := [(h0, .inr (10, [(g 0), (g 1), (g 2), .ref h3, (g 4), (g 5), (g 6), (g 7), (g 8), (g 9), (g 10), (g 11), (g 12), (g 13), (g 14), (g 15)])), (h3, .inr (5, [.int 0, (ga 1), (ga 2), (ga 3), (ga 4), (ga 5), (ga 6), (ga 7), (ga 8), (ga 9), (ga 10), (ga 11), (ga 12), (ga 13), (ga 14), (ga 15), (ga 16)]))]) [0, 1] (by decide) rfl
  have hK9 := hK.sub (tys' := []) [] rfl
  refine W.widen (k := 0) (n := 0) (Nat.le_of_ble_eq_true rfl) (Nat.le_of_ble_eq_true rfl) ?_
  exact W.iret (v := (-1)) hx hb hr (fun t ht hW => ⟨⟨(-1), (), rfl, rfl, by rw [ht]; exact hP9, va_K.moved hW.alike hK9, hD9⟩, hS.F ht⟩) hS.2.2 dX10_matches_17

set_option maxRecDepth 100000 in
set_option maxHeartbeats 4000000 in
theorem c_miss (l : Launch) (dC : Nat → ClassId) (dI : Nat → Nat → Nat) (h0 : Nat) (h3 : Nat) (g : Nat → Value) (ga : Nat → Value) (p0 : Int32) (p1 : Int32) (p2 : Int32) (p3 : Int32) (sz : Nat) : Met l yX10_miss (.code yX10_miss cX10_miss 5 (some .int) :: pw) ({ frames := 1, cells := 0, slots := 0, locals := 21 }) (va_Pc [.ref h0, .int p0, .int p1, .int p2, .int p3] (vPre dC dI [(h0, .inr (10, [(g 0), (g 1), (g 2), .ref h3, (g 4), (g 5), (g 6), (g 7), (g 8), (g 9), (g 10), (g 11), (g 12), (g 13), (g 14), (g 15)])), (h3, .inr (5, [.int 0, (ga 1), (ga 2), (ga 3), (ga 4), (ga 5), (ga 6), (ga 7), (ga 8), (ga 9), (ga 10), (ga 11), (ga 12), (ga 13), (ga 14), (ga 15), (ga 16)]))] [] sz)) (va_Qi (fun (r : Int32) (_ : Unit) => r = (-1)) (fun (_ : Unit) t => vPst dC dI (va_A [(h0, .inr (10, [(g 0), (g 1), (g 2), .ref h3, (g 4), (g 5), (g 6), (g 7), (g 8), (g 9), (g 10), (g 11), (g 12), (g 13), (g 14), (g 15)])), (h3, .inr (5, [.int 0, (ga 1), (ga 2), (ga 3), (ga 4), (ga 5), (ga 6), (ga 7), (ga 8), (ga 9), (ga 10), (ga 11), (ga 12), (ga 13), (ga 14), (ga 15), (ga 16)]))] sz) [(h0, .inr (10, [(g 0), (g 1), (g 2), .ref h3, (g 4), (g 5), (g 6), (g 7), (g 8), (g 9), (g 10), (g 11), (g 12), (g 13), (g 14), (g 15)])), (h3, .inr (5, [.int 0, (ga 1), (ga 2), (ga 3), (ga 4), (ga 5), (ga 6), (ga 7), (ga 8), (ga 9), (ga 10), (ga 11), (ga 12), (ga 13), (ga 14), (ga 15), (ga 16)]))] [] t) (va_A [(h0, .inr (10, [(g 0), (g 1), (g 2), .ref h3, (g 4), (g 5), (g 6), (g 7), (g 8), (g 9), (g 10), (g 11), (g 12), (g 13), (g 14), (g 15)])), (h3, .inr (5, [.int 0, (ga 1), (ga 2), (ga 3), (ga 4), (ga 5), (ga 6), (ga 7), (ga 8), (ga 9), (ga 10), (ga 11), (ga 12), (ga 13), (ga 14), (ga 15), (ga 16)]))] sz)) 0 0 (va_A [(h0, .inr (10, [(g 0), (g 1), (g 2), .ref h3, (g 4), (g 5), (g 6), (g 7), (g 8), (g 9), (g 10), (g 11), (g 12), (g 13), (g 14), (g 15)])), (h3, .inr (5, [.int 0, (ga 1), (ga 2), (ga 3), (ga 4), (ga 5), (ga 6), (ga 7), (ga 8), (ga 9), (ga 10), (ga 11), (ga 12), (ga 13), (ga 14), (ga 15), (ga 16)]))] sz) := by
  refine Met.ofW (cc := cX10_miss) (maxL := 5) (ret := (some .int)) (by decide) rfl ?_
  intro p e s m args below meth c s₁ B hml hv
  obtain ⟨rfl, hsz, hP, hK, hD0⟩ := hv
  have hx := B.exec
  have hb := B.bytes
  have hr := B.returns
  have hts := atoms_spec (ws := .code yX10_miss cX10_miss 5 (some .int) :: pw) B.pre
  have hts : ∀ w ∈ pw, w.before _ s = true := fun w h => hts w (List.mem_cons_of_mem _ h)
  have hown : s.vm.findClass RX10 = some m.cls := findClass_of_methodNamed B.named
  have hlocks := B.notSynchronized
  subst hsz
  have hD := hD0.self (sz := s.heap.size)
  generalize hAe : va_A [(h0, .inr (10, [(g 0), (g 1), (g 2), .ref h3, (g 4), (g 5), (g 6), (g 7), (g 8), (g 9), (g 10), (g 11), (g 12), (g 13), (g 14), (g 15)])), (h3, .inr (5, [.int 0, (ga 1), (ga 2), (ga 3), (ga 4), (ga 5), (ga 6), (ga 7), (ga 8), (ga 9), (ga 10), (ga 11), (ga 12), (ga 13), (ga 14), (ga 15), (ga 16)]))] s.heap.size = A at hD ⊢
  have hA : ∀ q : Nat, s.heap.size ≤ q → A q := fun q h => by rw [← hAe]; exact Or.inr h
  have hS : va_S A s.heap s.heap [] := va_S.rf
  have hP : va_P (dC, dI) vwCl [(h0, .inr (10, [(g 0), (g 1), (g 2), .ref h3, (g 4), (g 5), (g 6), (g 7), (g 8), (g 9), (g 10), (g 11), (g 12), (g 13), (g 14), (g 15)])), (h3, .inr (5, [.int 0, (ga 1), (ga 2), (ga 3), (ga 4), (ga 5), (ga 6), (ga 7), (ga 8), (ga 9), (ga 10), (ga 11), (ga 12), (ga 13), (ga 14), (ga 15), (ga 16)]))] s.heap := hP
  have hl := lv_entry ([.ref h0, .int p0, .int p1, .int p2, .int p3]) (n := 5) (Nat.le_of_ble_eq_true rfl)
  rw [lg_entry_eq]
  generalize (lg_sl ([.ref h0, .int p0, .int p1, .int p2, .int p3]) ++ List.replicate (5 - (lg_sl ([.ref h0, .int p0, .int p1, .int p2, .int p3])).length) Slot.unset).toArray = ls at hl ⊢
  have hl : lv_has ls 5 [(0, .ref h0), (1, .int p0), (2, .int p1), (3, .int p2), (4, .int p3)] := hl
  refine lv_aload_n hx hb dX10_miss_0 rfl (lv_at hl 0 rfl) ?_
  refine lv_iload_n hx hb dX10_miss_1 rfl (lv_at hl 1 rfl) ?_
  have hPc := hP.sub (ws' := [(h0, .inr (10, [(g 0), (g 1), (g 2), .ref h3, (g 4), (g 5), (g 6), (g 7), (g 8), (g 9), (g 10), (g 11), (g 12), (g 13), (g 14), (g 15)])), (h3, .inr (5, [.int 0, (ga 1), (ga 2), (ga 3), (ga 4), (ga 5), (ga 6), (ga 7), (ga 8), (ga 9), (ga 10), (ga 11), (ga 12), (ga 13), (ga 14), (ga 15), (ga 16)]))]) [0, 1] rfl
  have hDc := hD.sub (ws' := [(h0, .inr (10, [(g 0), (g 1), (g 2), .ref h3, (g 4), (g 5), (g 6), (g 7), (g 8), (g 9), (g 10), (g 11), (g 12), (g 13), (g 14), (g 15)])), (h3, .inr (5, [.int 0, (ga 1), (ga 2), (ga 3), (ga 4), (ga 5), (ga 6), (ga 7), (ga 8), (ga 9), (ga 10), (ga 11), (ga 12), (ga 13), (ga 14), (ga 15), (ga 16)]))]) [0, 1] (by decide) rfl
  have hKc := hK.sub (tys' := []) [] rfl
  have hFc := va_free (wc := [(h0, .inr (10, [(g 0), (g 1), (g 2), .ref h3, (g 4), (g 5), (g 6), (g 7), (g 8), (g 9), (g 10), (g 11), (g 12), (g 13), (g 14), (g 15)])), (h3, .inr (5, [.int 0, (ga 1), (ga 2), (ga 3), (ga 4), (ga 5), (ga 6), (ga 7), (ga 8), (ga 9), (ga 10), (ga 11), (ga 12), (ga 13), (ga 14), (ga 15), (ga 16)]))]) hD hS hA [0, 1] rfl
  refine va_calli (va_runV (As := [.int p0]) (rest := []) ⟨hx, hb, hml, hown, hts⟩ (c_isPlan l dC dI h0 h3 g ga p0 s.heap.size) (cwV 1 hts (gV mw_2_28 mw_2_29 mw_3_0 mw_0_14 mw_19_6) rfl rfl rfl (by decide +kernel) ⟨(Nat.le_of_ble_eq_true rfl), (Nat.le_of_ble_eq_true rfl)⟩) (vV (ci := 10) (q0 := 0) hKc hPc hDc rfl rfl) rfl rfl hl.1 rfl (lv_room (Nat.le_of_ble_eq_true rfl)) dX10_miss_2 ⟨(Nat.le_of_ble_eq_true rfl), (Nat.le_of_ble_eq_true rfl)⟩) hS (fun q _ h => hFc q h) hFc (fun r_1 u t H1 locs ht hvm hw hB hz1 hk1 hS => ?_)
  obtain ⟨hP1, hK1, hD1⟩ := hB
  rw [ht] at hP1
  have hK1 := va_K.moved hvm.symm hK1
  obtain ⟨hP, hD⟩ := va_join (wr := []) (w1 := [(h0, .inr (10, [(g 0), (g 1), (g 2), .ref h3, (g 4), (g 5), (g 6), (g 7), (g 8), (g 9), (g 10), (g 11), (g 12), (g 13), (g 14), (g 15)])), (h3, .inr (5, [.int 0, (ga 1), (ga 2), (ga 3), (ga 4), (ga 5), (ga 6), (ga 7), (ga 8), (ga 9), (ga 10), (ga 11), (ga 12), (ga 13), (ga 14), (ga 15), (ga 16)]))]) hP hD [0, 1] [] rfl rfl (by decide) (by decide) hk1 hFc hP1 hD1
  clear hPc hDc hKc hP1 hK1 hD1 hFc hk1 hz1
  generalize H1 = H at hP hS ⊢
  have hP : va_P (dC, dI) vwCl [(h0, .inr (10, [(g 0), (g 1), (g 2), .ref h3, (g 4), (g 5), (g 6), (g 7), (g 8), (g 9), (g 10), (g 11), (g 12), (g 13), (g 14), (g 15)])), (h3, .inr (5, [.int 0, (ga 1), (ga 2), (ga 3), (ga 4), (ga 5), (ga 6), (ga 7), (ga 8), (ga 9), (ga 10), (ga 11), (ga 12), (ga 13), (ga 14), (ga 15), (ga 16)]))] H := hP
  have hD : va_D A [(h0, .inr (10, [(g 0), (g 1), (g 2), .ref h3, (g 4), (g 5), (g 6), (g 7), (g 8), (g 9), (g 10), (g 11), (g 12), (g 13), (g 14), (g 15)])), (h3, .inr (5, [.int 0, (ga 1), (ga 2), (ga 3), (ga 4), (ga 5), (ga 6), (ga 7), (ga 8), (ga 9), (ga 10), (ga 11), (ga 12), (ga 13), (ga 14), (ga 15), (ga 16)]))] := hD
  obtain rfl : r_1 = 0 := hw
  refine lv_if_eq (tgt := 16) hx hb dX10_miss_5 (by decide) (fun _ => ?_) (fun h => absurd (by decide) h)
  refine lv_iconst (v := (-1)) hx hb dX10_miss_16 (by decide) ?_
  have hP9 := hP.sub (ws' := [(h0, .inr (10, [(g 0), (g 1), (g 2), .ref h3, (g 4), (g 5), (g 6), (g 7), (g 8), (g 9), (g 10), (g 11), (g 12), (g 13), (g 14), (g 15)])), (h3, .inr (5, [.int 0, (ga 1), (ga 2), (ga 3), (ga 4), (ga 5), (ga 6), (ga 7), (ga 8), (ga 9), (ga 10), (ga 11), (ga 12), (ga 13), (ga 14), (ga 15), (ga 16)]))]) [0, 1] rfl
  have hD9 := hD.sub (ws' := [(h0, .inr (10, [(g 0), (g 1), (g 2), .ref h3, (g 4), (g 5), (g 6), (g 7), (g 8), (g 9), (g 10), (g 11), (g 12), (g 13), (g 14), (g 15)])), (h3, .inr (5, [.int 0, (ga 1), (ga 2), (ga 3), (ga 4), (ga 5), (ga 6), (ga 7), (ga 8), (ga 9), (ga 10), (ga 11), (ga 12), (ga 13), (ga 14), (ga 15), (ga 16)]))]) [0, 1] (by decide) rfl
  have hK9 := hK.sub (tys' := []) [] rfl
  refine W.widen (k := 0) (n := 0) (Nat.le_of_ble_eq_true rfl) (Nat.le_of_ble_eq_true rfl) ?_
  exact W.iret (v := (-1)) hx hb hr (fun t ht hW => ⟨⟨(-1), (), rfl, rfl, by rw [ht]; exact hP9, va_K.moved hW.alike hK9, hD9⟩, hS.F ht⟩) hS.2.2 dX10_miss_17

set_option maxRecDepth 100000 in
set_option maxHeartbeats 4000000 in
theorem c_missStep (l : Launch) (dC : Nat → ClassId) (dI : Nat → Nat → Nat) (h0 : Nat) (h3 : Nat) (g : Nat → Value) (ga : Nat → Value) (p0 : Int32) (p1 : Int32) (p2 : Int32) (p3 : Int32) (sz : Nat) : Met l yX10_missStep (.code yX10_missStep cX10_missStep 5 (some .int) :: pw) ({ frames := 1, cells := 0, slots := 0, locals := 21 }) (va_Pc [.ref h0, .int p0, .int p1, .int p2, .int p3] (vPre dC dI [(h0, .inr (10, [(g 0), (g 1), (g 2), .ref h3, (g 4), (g 5), (g 6), (g 7), (g 8), (g 9), (g 10), (g 11), (g 12), (g 13), (g 14), (g 15)])), (h3, .inr (5, [.int 0, (ga 1), (ga 2), (ga 3), (ga 4), (ga 5), (ga 6), (ga 7), (ga 8), (ga 9), (ga 10), (ga 11), (ga 12), (ga 13), (ga 14), (ga 15), (ga 16)]))] [] sz)) (va_Qi (fun (r : Int32) (_ : Unit) => r = (-1)) (fun (_ : Unit) t => vPst dC dI (va_A [(h0, .inr (10, [(g 0), (g 1), (g 2), .ref h3, (g 4), (g 5), (g 6), (g 7), (g 8), (g 9), (g 10), (g 11), (g 12), (g 13), (g 14), (g 15)])), (h3, .inr (5, [.int 0, (ga 1), (ga 2), (ga 3), (ga 4), (ga 5), (ga 6), (ga 7), (ga 8), (ga 9), (ga 10), (ga 11), (ga 12), (ga 13), (ga 14), (ga 15), (ga 16)]))] sz) [(h0, .inr (10, [(g 0), (g 1), (g 2), .ref h3, (g 4), (g 5), (g 6), (g 7), (g 8), (g 9), (g 10), (g 11), (g 12), (g 13), (g 14), (g 15)])), (h3, .inr (5, [.int 0, (ga 1), (ga 2), (ga 3), (ga 4), (ga 5), (ga 6), (ga 7), (ga 8), (ga 9), (ga 10), (ga 11), (ga 12), (ga 13), (ga 14), (ga 15), (ga 16)]))] [] t) (va_A [(h0, .inr (10, [(g 0), (g 1), (g 2), .ref h3, (g 4), (g 5), (g 6), (g 7), (g 8), (g 9), (g 10), (g 11), (g 12), (g 13), (g 14), (g 15)])), (h3, .inr (5, [.int 0, (ga 1), (ga 2), (ga 3), (ga 4), (ga 5), (ga 6), (ga 7), (ga 8), (ga 9), (ga 10), (ga 11), (ga 12), (ga 13), (ga 14), (ga 15), (ga 16)]))] sz)) 0 0 (va_A [(h0, .inr (10, [(g 0), (g 1), (g 2), .ref h3, (g 4), (g 5), (g 6), (g 7), (g 8), (g 9), (g 10), (g 11), (g 12), (g 13), (g 14), (g 15)])), (h3, .inr (5, [.int 0, (ga 1), (ga 2), (ga 3), (ga 4), (ga 5), (ga 6), (ga 7), (ga 8), (ga 9), (ga 10), (ga 11), (ga 12), (ga 13), (ga 14), (ga 15), (ga 16)]))] sz) := by
  refine Met.ofW (cc := cX10_missStep) (maxL := 5) (ret := (some .int)) (by decide) rfl ?_
  intro p e s m args below meth c s₁ B hml hv
  obtain ⟨rfl, hsz, hP, hK, hD0⟩ := hv
  have hx := B.exec
  have hb := B.bytes
  have hr := B.returns
  have hts := atoms_spec (ws := .code yX10_missStep cX10_missStep 5 (some .int) :: pw) B.pre
  have hts : ∀ w ∈ pw, w.before _ s = true := fun w h => hts w (List.mem_cons_of_mem _ h)
  have hown : s.vm.findClass RX10 = some m.cls := findClass_of_methodNamed B.named
  have hlocks := B.notSynchronized
  subst hsz
  have hD := hD0.self (sz := s.heap.size)
  generalize hAe : va_A [(h0, .inr (10, [(g 0), (g 1), (g 2), .ref h3, (g 4), (g 5), (g 6), (g 7), (g 8), (g 9), (g 10), (g 11), (g 12), (g 13), (g 14), (g 15)])), (h3, .inr (5, [.int 0, (ga 1), (ga 2), (ga 3), (ga 4), (ga 5), (ga 6), (ga 7), (ga 8), (ga 9), (ga 10), (ga 11), (ga 12), (ga 13), (ga 14), (ga 15), (ga 16)]))] s.heap.size = A at hD ⊢
  have hA : ∀ q : Nat, s.heap.size ≤ q → A q := fun q h => by rw [← hAe]; exact Or.inr h
  have hS : va_S A s.heap s.heap [] := va_S.rf
  have hP : va_P (dC, dI) vwCl [(h0, .inr (10, [(g 0), (g 1), (g 2), .ref h3, (g 4), (g 5), (g 6), (g 7), (g 8), (g 9), (g 10), (g 11), (g 12), (g 13), (g 14), (g 15)])), (h3, .inr (5, [.int 0, (ga 1), (ga 2), (ga 3), (ga 4), (ga 5), (ga 6), (ga 7), (ga 8), (ga 9), (ga 10), (ga 11), (ga 12), (ga 13), (ga 14), (ga 15), (ga 16)]))] s.heap := hP
  have hl := lv_entry ([.ref h0, .int p0, .int p1, .int p2, .int p3]) (n := 5) (Nat.le_of_ble_eq_true rfl)
  rw [lg_entry_eq]
  generalize (lg_sl ([.ref h0, .int p0, .int p1, .int p2, .int p3]) ++ List.replicate (5 - (lg_sl ([.ref h0, .int p0, .int p1, .int p2, .int p3])).length) Slot.unset).toArray = ls at hl ⊢
  have hl : lv_has ls 5 [(0, .ref h0), (1, .int p0), (2, .int p1), (3, .int p2), (4, .int p3)] := hl
  refine lv_aload_n hx hb dX10_missStep_0 rfl (lv_at hl 0 rfl) ?_
  refine lv_iload_n hx hb dX10_missStep_1 rfl (lv_at hl 1 rfl) ?_
  have hPc := hP.sub (ws' := [(h0, .inr (10, [(g 0), (g 1), (g 2), .ref h3, (g 4), (g 5), (g 6), (g 7), (g 8), (g 9), (g 10), (g 11), (g 12), (g 13), (g 14), (g 15)])), (h3, .inr (5, [.int 0, (ga 1), (ga 2), (ga 3), (ga 4), (ga 5), (ga 6), (ga 7), (ga 8), (ga 9), (ga 10), (ga 11), (ga 12), (ga 13), (ga 14), (ga 15), (ga 16)]))]) [0, 1] rfl
  have hDc := hD.sub (ws' := [(h0, .inr (10, [(g 0), (g 1), (g 2), .ref h3, (g 4), (g 5), (g 6), (g 7), (g 8), (g 9), (g 10), (g 11), (g 12), (g 13), (g 14), (g 15)])), (h3, .inr (5, [.int 0, (ga 1), (ga 2), (ga 3), (ga 4), (ga 5), (ga 6), (ga 7), (ga 8), (ga 9), (ga 10), (ga 11), (ga 12), (ga 13), (ga 14), (ga 15), (ga 16)]))]) [0, 1] (by decide) rfl
  have hKc := hK.sub (tys' := []) [] rfl
  have hFc := va_free (wc := [(h0, .inr (10, [(g 0), (g 1), (g 2), .ref h3, (g 4), (g 5), (g 6), (g 7), (g 8), (g 9), (g 10), (g 11), (g 12), (g 13), (g 14), (g 15)])), (h3, .inr (5, [.int 0, (ga 1), (ga 2), (ga 3), (ga 4), (ga 5), (ga 6), (ga 7), (ga 8), (ga 9), (ga 10), (ga 11), (ga 12), (ga 13), (ga 14), (ga 15), (ga 16)]))]) hD hS hA [0, 1] rfl
  refine va_calli (va_runV (As := [.int p0]) (rest := []) ⟨hx, hb, hml, hown, hts⟩ (c_isPlan l dC dI h0 h3 g ga p0 s.heap.size) (cwV 1 hts (gV mw_2_28 mw_2_29 mw_3_0 mw_0_14 mw_19_6) rfl rfl rfl (by decide +kernel) ⟨(Nat.le_of_ble_eq_true rfl), (Nat.le_of_ble_eq_true rfl)⟩) (vV (ci := 10) (q0 := 0) hKc hPc hDc rfl rfl) rfl rfl hl.1 rfl (lv_room (Nat.le_of_ble_eq_true rfl)) dX10_missStep_2 ⟨(Nat.le_of_ble_eq_true rfl), (Nat.le_of_ble_eq_true rfl)⟩) hS (fun q _ h => hFc q h) hFc (fun r_1 u t H1 locs ht hvm hw hB hz1 hk1 hS => ?_)
  obtain ⟨hP1, hK1, hD1⟩ := hB
  rw [ht] at hP1
  have hK1 := va_K.moved hvm.symm hK1
  obtain ⟨hP, hD⟩ := va_join (wr := []) (w1 := [(h0, .inr (10, [(g 0), (g 1), (g 2), .ref h3, (g 4), (g 5), (g 6), (g 7), (g 8), (g 9), (g 10), (g 11), (g 12), (g 13), (g 14), (g 15)])), (h3, .inr (5, [.int 0, (ga 1), (ga 2), (ga 3), (ga 4), (ga 5), (ga 6), (ga 7), (ga 8), (ga 9), (ga 10), (ga 11), (ga 12), (ga 13), (ga 14), (ga 15), (ga 16)]))]) hP hD [0, 1] [] rfl rfl (by decide) (by decide) hk1 hFc hP1 hD1
  clear hPc hDc hKc hP1 hK1 hD1 hFc hk1 hz1
  generalize H1 = H at hP hS ⊢
  have hP : va_P (dC, dI) vwCl [(h0, .inr (10, [(g 0), (g 1), (g 2), .ref h3, (g 4), (g 5), (g 6), (g 7), (g 8), (g 9), (g 10), (g 11), (g 12), (g 13), (g 14), (g 15)])), (h3, .inr (5, [.int 0, (ga 1), (ga 2), (ga 3), (ga 4), (ga 5), (ga 6), (ga 7), (ga 8), (ga 9), (ga 10), (ga 11), (ga 12), (ga 13), (ga 14), (ga 15), (ga 16)]))] H := hP
  have hD : va_D A [(h0, .inr (10, [(g 0), (g 1), (g 2), .ref h3, (g 4), (g 5), (g 6), (g 7), (g 8), (g 9), (g 10), (g 11), (g 12), (g 13), (g 14), (g 15)])), (h3, .inr (5, [.int 0, (ga 1), (ga 2), (ga 3), (ga 4), (ga 5), (ga 6), (ga 7), (ga 8), (ga 9), (ga 10), (ga 11), (ga 12), (ga 13), (ga 14), (ga 15), (ga 16)]))] := hD
  obtain rfl : r_1 = 0 := hw
  refine lv_if_eq (tgt := 16) hx hb dX10_missStep_5 (by decide) (fun _ => ?_) (fun h => absurd (by decide) h)
  refine lv_iconst (v := (-1)) hx hb dX10_missStep_16 (by decide) ?_
  have hP9 := hP.sub (ws' := [(h0, .inr (10, [(g 0), (g 1), (g 2), .ref h3, (g 4), (g 5), (g 6), (g 7), (g 8), (g 9), (g 10), (g 11), (g 12), (g 13), (g 14), (g 15)])), (h3, .inr (5, [.int 0, (ga 1), (ga 2), (ga 3), (ga 4), (ga 5), (ga 6), (ga 7), (ga 8), (ga 9), (ga 10), (ga 11), (ga 12), (ga 13), (ga 14), (ga 15), (ga 16)]))]) [0, 1] rfl
  have hD9 := hD.sub (ws' := [(h0, .inr (10, [(g 0), (g 1), (g 2), .ref h3, (g 4), (g 5), (g 6), (g 7), (g 8), (g 9), (g 10), (g 11), (g 12), (g 13), (g 14), (g 15)])), (h3, .inr (5, [.int 0, (ga 1), (ga 2), (ga 3), (ga 4), (ga 5), (ga 6), (ga 7), (ga 8), (ga 9), (ga 10), (ga 11), (ga 12), (ga 13), (ga 14), (ga 15), (ga 16)]))]) [0, 1] (by decide) rfl
  have hK9 := hK.sub (tys' := []) [] rfl
  refine W.widen (k := 0) (n := 0) (Nat.le_of_ble_eq_true rfl) (Nat.le_of_ble_eq_true rfl) ?_
  exact W.iret (v := (-1)) hx hb hr (fun t ht hW => ⟨⟨(-1), (), rfl, rfl, by rw [ht]; exact hP9, va_K.moved hW.alike hK9, hD9⟩, hS.F ht⟩) hS.2.2 dX10_missStep_17

set_option maxRecDepth 100000 in
set_option maxHeartbeats 4000000 in
theorem c_readers (l : Launch) (dC : Nat → ClassId) (dI : Nat → Nat → Nat) (h0 : Nat) (h3 : Nat) (g : Nat → Value) (ga : Nat → Value) (p0 : Int32) (p1 : Int32) (sz : Nat) : Met l yX10_readers (.code yX10_readers cX10_readers 5 (some .int) :: pw) ({ frames := 1, cells := 0, slots := 0, locals := 21 }) (va_Pc [.ref h0, .int p0, .int p1] (vPre dC dI [(h0, .inr (10, [(g 0), (g 1), (g 2), .ref h3, (g 4), (g 5), (g 6), (g 7), (g 8), (g 9), (g 10), (g 11), (g 12), (g 13), (g 14), (g 15)])), (h3, .inr (5, [.int 0, (ga 1), (ga 2), (ga 3), (ga 4), (ga 5), (ga 6), (ga 7), (ga 8), (ga 9), (ga 10), (ga 11), (ga 12), (ga 13), (ga 14), (ga 15), (ga 16)]))] [] sz)) (va_Qi (fun (r : Int32) (_ : Unit) => r = (-1)) (fun (_ : Unit) t => vPst dC dI (va_A [(h0, .inr (10, [(g 0), (g 1), (g 2), .ref h3, (g 4), (g 5), (g 6), (g 7), (g 8), (g 9), (g 10), (g 11), (g 12), (g 13), (g 14), (g 15)])), (h3, .inr (5, [.int 0, (ga 1), (ga 2), (ga 3), (ga 4), (ga 5), (ga 6), (ga 7), (ga 8), (ga 9), (ga 10), (ga 11), (ga 12), (ga 13), (ga 14), (ga 15), (ga 16)]))] sz) [(h0, .inr (10, [(g 0), (g 1), (g 2), .ref h3, (g 4), (g 5), (g 6), (g 7), (g 8), (g 9), (g 10), (g 11), (g 12), (g 13), (g 14), (g 15)])), (h3, .inr (5, [.int 0, (ga 1), (ga 2), (ga 3), (ga 4), (ga 5), (ga 6), (ga 7), (ga 8), (ga 9), (ga 10), (ga 11), (ga 12), (ga 13), (ga 14), (ga 15), (ga 16)]))] [] t) (va_A [(h0, .inr (10, [(g 0), (g 1), (g 2), .ref h3, (g 4), (g 5), (g 6), (g 7), (g 8), (g 9), (g 10), (g 11), (g 12), (g 13), (g 14), (g 15)])), (h3, .inr (5, [.int 0, (ga 1), (ga 2), (ga 3), (ga 4), (ga 5), (ga 6), (ga 7), (ga 8), (ga 9), (ga 10), (ga 11), (ga 12), (ga 13), (ga 14), (ga 15), (ga 16)]))] sz)) 0 0 (va_A [(h0, .inr (10, [(g 0), (g 1), (g 2), .ref h3, (g 4), (g 5), (g 6), (g 7), (g 8), (g 9), (g 10), (g 11), (g 12), (g 13), (g 14), (g 15)])), (h3, .inr (5, [.int 0, (ga 1), (ga 2), (ga 3), (ga 4), (ga 5), (ga 6), (ga 7), (ga 8), (ga 9), (ga 10), (ga 11), (ga 12), (ga 13), (ga 14), (ga 15), (ga 16)]))] sz) := by
  refine Met.ofW (cc := cX10_readers) (maxL := 5) (ret := (some .int)) (by decide) rfl ?_
  intro p e s m args below meth c s₁ B hml hv
  obtain ⟨rfl, hsz, hP, hK, hD0⟩ := hv
  have hx := B.exec
  have hb := B.bytes
  have hr := B.returns
  have hts := atoms_spec (ws := .code yX10_readers cX10_readers 5 (some .int) :: pw) B.pre
  have hts : ∀ w ∈ pw, w.before _ s = true := fun w h => hts w (List.mem_cons_of_mem _ h)
  have hown : s.vm.findClass RX10 = some m.cls := findClass_of_methodNamed B.named
  have hlocks := B.notSynchronized
  subst hsz
  have hD := hD0.self (sz := s.heap.size)
  generalize hAe : va_A [(h0, .inr (10, [(g 0), (g 1), (g 2), .ref h3, (g 4), (g 5), (g 6), (g 7), (g 8), (g 9), (g 10), (g 11), (g 12), (g 13), (g 14), (g 15)])), (h3, .inr (5, [.int 0, (ga 1), (ga 2), (ga 3), (ga 4), (ga 5), (ga 6), (ga 7), (ga 8), (ga 9), (ga 10), (ga 11), (ga 12), (ga 13), (ga 14), (ga 15), (ga 16)]))] s.heap.size = A at hD ⊢
  have hA : ∀ q : Nat, s.heap.size ≤ q → A q := fun q h => by rw [← hAe]; exact Or.inr h
  have hS : va_S A s.heap s.heap [] := va_S.rf
  have hP : va_P (dC, dI) vwCl [(h0, .inr (10, [(g 0), (g 1), (g 2), .ref h3, (g 4), (g 5), (g 6), (g 7), (g 8), (g 9), (g 10), (g 11), (g 12), (g 13), (g 14), (g 15)])), (h3, .inr (5, [.int 0, (ga 1), (ga 2), (ga 3), (ga 4), (ga 5), (ga 6), (ga 7), (ga 8), (ga 9), (ga 10), (ga 11), (ga 12), (ga 13), (ga 14), (ga 15), (ga 16)]))] s.heap := hP
  have hl := lv_entry ([.ref h0, .int p0, .int p1]) (n := 5) (Nat.le_of_ble_eq_true rfl)
  rw [lg_entry_eq]
  generalize (lg_sl ([.ref h0, .int p0, .int p1]) ++ List.replicate (5 - (lg_sl ([.ref h0, .int p0, .int p1])).length) Slot.unset).toArray = ls at hl ⊢
  have hl : lv_has ls 5 [(0, .ref h0), (1, .int p0), (2, .int p1)] := hl
  refine lv_aload_n hx hb dX10_readers_0 rfl (lv_at hl 0 rfl) ?_
  refine lv_iload_n hx hb dX10_readers_1 rfl (lv_at hl 1 rfl) ?_
  have hPc := hP.sub (ws' := [(h0, .inr (10, [(g 0), (g 1), (g 2), .ref h3, (g 4), (g 5), (g 6), (g 7), (g 8), (g 9), (g 10), (g 11), (g 12), (g 13), (g 14), (g 15)])), (h3, .inr (5, [.int 0, (ga 1), (ga 2), (ga 3), (ga 4), (ga 5), (ga 6), (ga 7), (ga 8), (ga 9), (ga 10), (ga 11), (ga 12), (ga 13), (ga 14), (ga 15), (ga 16)]))]) [0, 1] rfl
  have hDc := hD.sub (ws' := [(h0, .inr (10, [(g 0), (g 1), (g 2), .ref h3, (g 4), (g 5), (g 6), (g 7), (g 8), (g 9), (g 10), (g 11), (g 12), (g 13), (g 14), (g 15)])), (h3, .inr (5, [.int 0, (ga 1), (ga 2), (ga 3), (ga 4), (ga 5), (ga 6), (ga 7), (ga 8), (ga 9), (ga 10), (ga 11), (ga 12), (ga 13), (ga 14), (ga 15), (ga 16)]))]) [0, 1] (by decide) rfl
  have hKc := hK.sub (tys' := []) [] rfl
  have hFc := va_free (wc := [(h0, .inr (10, [(g 0), (g 1), (g 2), .ref h3, (g 4), (g 5), (g 6), (g 7), (g 8), (g 9), (g 10), (g 11), (g 12), (g 13), (g 14), (g 15)])), (h3, .inr (5, [.int 0, (ga 1), (ga 2), (ga 3), (ga 4), (ga 5), (ga 6), (ga 7), (ga 8), (ga 9), (ga 10), (ga 11), (ga 12), (ga 13), (ga 14), (ga 15), (ga 16)]))]) hD hS hA [0, 1] rfl
  refine va_calli (va_runV (As := [.int p0]) (rest := []) ⟨hx, hb, hml, hown, hts⟩ (c_isPlan l dC dI h0 h3 g ga p0 s.heap.size) (cwV 1 hts (gV mw_2_28 mw_2_29 mw_3_0 mw_0_14 mw_19_6) rfl rfl rfl (by decide +kernel) ⟨(Nat.le_of_ble_eq_true rfl), (Nat.le_of_ble_eq_true rfl)⟩) (vV (ci := 10) (q0 := 0) hKc hPc hDc rfl rfl) rfl rfl hl.1 rfl (lv_room (Nat.le_of_ble_eq_true rfl)) dX10_readers_2 ⟨(Nat.le_of_ble_eq_true rfl), (Nat.le_of_ble_eq_true rfl)⟩) hS (fun q _ h => hFc q h) hFc (fun r_1 u t H1 locs ht hvm hw hB hz1 hk1 hS => ?_)
  obtain ⟨hP1, hK1, hD1⟩ := hB
  rw [ht] at hP1
  have hK1 := va_K.moved hvm.symm hK1
  obtain ⟨hP, hD⟩ := va_join (wr := []) (w1 := [(h0, .inr (10, [(g 0), (g 1), (g 2), .ref h3, (g 4), (g 5), (g 6), (g 7), (g 8), (g 9), (g 10), (g 11), (g 12), (g 13), (g 14), (g 15)])), (h3, .inr (5, [.int 0, (ga 1), (ga 2), (ga 3), (ga 4), (ga 5), (ga 6), (ga 7), (ga 8), (ga 9), (ga 10), (ga 11), (ga 12), (ga 13), (ga 14), (ga 15), (ga 16)]))]) hP hD [0, 1] [] rfl rfl (by decide) (by decide) hk1 hFc hP1 hD1
  clear hPc hDc hKc hP1 hK1 hD1 hFc hk1 hz1
  generalize H1 = H at hP hS ⊢
  have hP : va_P (dC, dI) vwCl [(h0, .inr (10, [(g 0), (g 1), (g 2), .ref h3, (g 4), (g 5), (g 6), (g 7), (g 8), (g 9), (g 10), (g 11), (g 12), (g 13), (g 14), (g 15)])), (h3, .inr (5, [.int 0, (ga 1), (ga 2), (ga 3), (ga 4), (ga 5), (ga 6), (ga 7), (ga 8), (ga 9), (ga 10), (ga 11), (ga 12), (ga 13), (ga 14), (ga 15), (ga 16)]))] H := hP
  have hD : va_D A [(h0, .inr (10, [(g 0), (g 1), (g 2), .ref h3, (g 4), (g 5), (g 6), (g 7), (g 8), (g 9), (g 10), (g 11), (g 12), (g 13), (g 14), (g 15)])), (h3, .inr (5, [.int 0, (ga 1), (ga 2), (ga 3), (ga 4), (ga 5), (ga 6), (ga 7), (ga 8), (ga 9), (ga 10), (ga 11), (ga 12), (ga 13), (ga 14), (ga 15), (ga 16)]))] := hD
  obtain rfl : r_1 = 0 := hw
  refine lv_if_eq (tgt := 17) hx hb dX10_readers_5 (by decide) (fun _ => ?_) (fun h => absurd (by decide) h)
  refine lv_iconst (v := (-1)) hx hb dX10_readers_17 (by decide) ?_
  have hP9 := hP.sub (ws' := [(h0, .inr (10, [(g 0), (g 1), (g 2), .ref h3, (g 4), (g 5), (g 6), (g 7), (g 8), (g 9), (g 10), (g 11), (g 12), (g 13), (g 14), (g 15)])), (h3, .inr (5, [.int 0, (ga 1), (ga 2), (ga 3), (ga 4), (ga 5), (ga 6), (ga 7), (ga 8), (ga 9), (ga 10), (ga 11), (ga 12), (ga 13), (ga 14), (ga 15), (ga 16)]))]) [0, 1] rfl
  have hD9 := hD.sub (ws' := [(h0, .inr (10, [(g 0), (g 1), (g 2), .ref h3, (g 4), (g 5), (g 6), (g 7), (g 8), (g 9), (g 10), (g 11), (g 12), (g 13), (g 14), (g 15)])), (h3, .inr (5, [.int 0, (ga 1), (ga 2), (ga 3), (ga 4), (ga 5), (ga 6), (ga 7), (ga 8), (ga 9), (ga 10), (ga 11), (ga 12), (ga 13), (ga 14), (ga 15), (ga 16)]))]) [0, 1] (by decide) rfl
  have hK9 := hK.sub (tys' := []) [] rfl
  refine W.widen (k := 0) (n := 0) (Nat.le_of_ble_eq_true rfl) (Nat.le_of_ble_eq_true rfl) ?_
  exact W.iret (v := (-1)) hx hb hr (fun t ht hW => ⟨⟨(-1), (), rfl, rfl, by rw [ht]; exact hP9, va_K.moved hW.alike hK9, hD9⟩, hS.F ht⟩) hS.2.2 dX10_readers_18

set_option maxRecDepth 100000 in
set_option maxHeartbeats 4000000 in
theorem c_message (l : Launch) (dC : Nat → ClassId) (dI : Nat → Nat → Nat) (h0 : Nat) (h6 : Nat) (h7 : Nat) (cA : ClassId) (g : Nat → Value) (gm : Nat → Value) (p0 : Int32) (p1 : Int32) (sz : Nat) : Met l yX10_message (.code yX10_message cX10_message 3 (some .int) :: pw) ({ frames := 2, cells := 0, slots := 0, locals := 42 }) (va_Pc [.ref h0, .int p0, .int p1] (vPre dC dI [(h0, .inr (10, [(g 0), (g 1), (g 2), (g 3), (g 4), (g 5), .ref h6, (g 7), (g 8), (g 9), (g 10), (g 11), (g 12), (g 13), (g 14), (g 15)])), (h6, .inr (1, [(gm 0), (gm 1), .ref h7])), (h7, .inl (cA, 4, .inl (fun _ => (-1))))] [(cA, .int)] sz)) (va_Qi (fun (r : Int32) (_ : Unit) => r = (-1)) (fun (_ : Unit) t => vPst dC dI (va_A [(h0, .inr (10, [(g 0), (g 1), (g 2), (g 3), (g 4), (g 5), .ref h6, (g 7), (g 8), (g 9), (g 10), (g 11), (g 12), (g 13), (g 14), (g 15)])), (h6, .inr (1, [(gm 0), (gm 1), .ref h7])), (h7, .inl (cA, 4, .inl (fun _ => (-1))))] sz) [(h0, .inr (10, [(g 0), (g 1), (g 2), (g 3), (g 4), (g 5), .ref h6, (g 7), (g 8), (g 9), (g 10), (g 11), (g 12), (g 13), (g 14), (g 15)])), (h6, .inr (1, [(gm 0), (gm 1), .ref h7])), (h7, .inl (cA, 4, .inl (fun _ => (-1))))] [(cA, .int)] t) (va_A [(h0, .inr (10, [(g 0), (g 1), (g 2), (g 3), (g 4), (g 5), .ref h6, (g 7), (g 8), (g 9), (g 10), (g 11), (g 12), (g 13), (g 14), (g 15)])), (h6, .inr (1, [(gm 0), (gm 1), .ref h7])), (h7, .inl (cA, 4, .inl (fun _ => (-1))))] sz)) 0 0 (va_A [(h0, .inr (10, [(g 0), (g 1), (g 2), (g 3), (g 4), (g 5), .ref h6, (g 7), (g 8), (g 9), (g 10), (g 11), (g 12), (g 13), (g 14), (g 15)])), (h6, .inr (1, [(gm 0), (gm 1), .ref h7])), (h7, .inl (cA, 4, .inl (fun _ => (-1))))] sz) := by
  refine Met.ofW (cc := cX10_message) (maxL := 3) (ret := (some .int)) (by decide) rfl ?_
  intro p e s m args below meth c s₁ B hml hv
  obtain ⟨rfl, hsz, hP, hK, hD0⟩ := hv
  have hx := B.exec
  have hb := B.bytes
  have hr := B.returns
  have hts := atoms_spec (ws := .code yX10_message cX10_message 3 (some .int) :: pw) B.pre
  have hts : ∀ w ∈ pw, w.before _ s = true := fun w h => hts w (List.mem_cons_of_mem _ h)
  have hown : s.vm.findClass RX10 = some m.cls := findClass_of_methodNamed B.named
  have hlocks := B.notSynchronized
  subst hsz
  have hD := hD0.self (sz := s.heap.size)
  generalize hAe : va_A [(h0, .inr (10, [(g 0), (g 1), (g 2), (g 3), (g 4), (g 5), .ref h6, (g 7), (g 8), (g 9), (g 10), (g 11), (g 12), (g 13), (g 14), (g 15)])), (h6, .inr (1, [(gm 0), (gm 1), .ref h7])), (h7, .inl (cA, 4, .inl (fun _ => (-1))))] s.heap.size = A at hD ⊢
  have hA : ∀ q : Nat, s.heap.size ≤ q → A q := fun q h => by rw [← hAe]; exact Or.inr h
  have hS : va_S A s.heap s.heap [] := va_S.rf
  have hP : va_P (dC, dI) vwCl [(h0, .inr (10, [(g 0), (g 1), (g 2), (g 3), (g 4), (g 5), .ref h6, (g 7), (g 8), (g 9), (g 10), (g 11), (g 12), (g 13), (g 14), (g 15)])), (h6, .inr (1, [(gm 0), (gm 1), .ref h7])), (h7, .inl (cA, 4, .inl (fun _ => (-1))))] s.heap := hP
  have hl := lv_entry ([.ref h0, .int p0, .int p1]) (n := 3) (Nat.le_of_ble_eq_true rfl)
  rw [lg_entry_eq]
  generalize (lg_sl ([.ref h0, .int p0, .int p1]) ++ List.replicate (3 - (lg_sl ([.ref h0, .int p0, .int p1])).length) Slot.unset).toArray = ls at hl ⊢
  have hl : lv_has ls 3 [(0, .ref h0), (1, .int p0), (2, .int p1)] := hl
  refine lv_aload_n hx hb dX10_message_0 rfl (lv_at hl 0 rfl) ?_
  refine va_get (D := (dC, dI)) (ci := 10) (v := .ref h6) (C := RX10) (T := TX10) (N := 16) hx hb hts inlX10 hown hK hP 0 rfl rfl 6 (by decide) (hts (.fieldLink RX10 48 "ShapeReader" "messages" "LShapeReader$Messages;") mw_1_9) (fun _ h9 => h9) rfl dX10_message_1 ?_
  refine lv_iload_n hx hb dX10_message_4 rfl (lv_at hl 1 rfl) ?_
  have hPc := hP.sub (ws' := [(h6, .inr (1, [(gm 0), (gm 1), .ref h7])), (h7, .inl (cA, 4, .inl (fun _ => (-1))))]) [1, 2] rfl
  have hDc := hD.sub (ws' := [(h6, .inr (1, [(gm 0), (gm 1), .ref h7])), (h7, .inl (cA, 4, .inl (fun _ => (-1))))]) [1, 2] (by decide) rfl
  have hKc := hK.sub (tys' := [(cA, .int)]) [0] rfl
  have hFc := va_free (wc := [(h6, .inr (1, [(gm 0), (gm 1), .ref h7])), (h7, .inl (cA, 4, .inl (fun _ => (-1))))]) hD hS hA [1, 2] rfl
  refine va_calli (va_runV (As := [.int p0]) (rest := []) ⟨hx, hb, hml, hown, hts⟩ (c_isWritten l dC dI h6 h7 cA gm p0 s.heap.size) (cwV 1 hts (gV mw_3_8 mw_3_9 mw_3_10 mw_0_5 mw_20_12) rfl rfl rfl (by decide +kernel) ⟨(Nat.le_of_ble_eq_true rfl), (Nat.le_of_ble_eq_true rfl)⟩) (vV (ci := 1) (q0 := 0) hKc hPc hDc rfl rfl) rfl rfl hl.1 rfl (lv_room (Nat.le_of_ble_eq_true rfl)) dX10_message_5 ⟨(Nat.le_of_ble_eq_true rfl), (Nat.le_of_ble_eq_true rfl)⟩) hS (fun q _ h => hFc q h) hFc (fun r_1 u t H1 locs ht hvm hw hB hz1 hk1 hS => ?_)
  obtain ⟨hP1, hK1, hD1⟩ := hB
  rw [ht] at hP1
  have hK1 := va_K.moved hvm.symm hK1
  obtain ⟨hP, hD⟩ := va_join (wr := [(h0, .inr (10, [(g 0), (g 1), (g 2), (g 3), (g 4), (g 5), .ref h6, (g 7), (g 8), (g 9), (g 10), (g 11), (g 12), (g 13), (g 14), (g 15)]))]) (w1 := [(h6, .inr (1, [(gm 0), (gm 1), .ref h7])), (h7, .inl (cA, 4, .inl (fun _ => (-1))))]) hP hD [1, 2] [0] rfl rfl (by decide) (by decide) hk1 hFc hP1 hD1
  clear hPc hDc hKc hP1 hK1 hD1 hFc hk1 hz1
  generalize H1 = H at hP hS ⊢
  have hP : va_P (dC, dI) vwCl [(h0, .inr (10, [(g 0), (g 1), (g 2), (g 3), (g 4), (g 5), .ref h6, (g 7), (g 8), (g 9), (g 10), (g 11), (g 12), (g 13), (g 14), (g 15)])), (h6, .inr (1, [(gm 0), (gm 1), .ref h7])), (h7, .inl (cA, 4, .inl (fun _ => (-1))))] H := hP
  have hD : va_D A [(h0, .inr (10, [(g 0), (g 1), (g 2), (g 3), (g 4), (g 5), .ref h6, (g 7), (g 8), (g 9), (g 10), (g 11), (g 12), (g 13), (g 14), (g 15)])), (h6, .inr (1, [(gm 0), (gm 1), .ref h7])), (h7, .inl (cA, 4, .inl (fun _ => (-1))))] := hD
  obtain rfl : r_1 = 0 := hw
  refine lv_if_ne (tgt := 13) hx hb dX10_message_8 (by decide) (fun h => absurd rfl h) (fun _ => ?_)
  refine lv_iconst (v := (-1)) hx hb dX10_message_11 (by decide) ?_
  have hP9 := hP.sub (ws' := [(h0, .inr (10, [(g 0), (g 1), (g 2), (g 3), (g 4), (g 5), .ref h6, (g 7), (g 8), (g 9), (g 10), (g 11), (g 12), (g 13), (g 14), (g 15)])), (h6, .inr (1, [(gm 0), (gm 1), .ref h7])), (h7, .inl (cA, 4, .inl (fun _ => (-1))))]) [0, 1, 2] rfl
  have hD9 := hD.sub (ws' := [(h0, .inr (10, [(g 0), (g 1), (g 2), (g 3), (g 4), (g 5), .ref h6, (g 7), (g 8), (g 9), (g 10), (g 11), (g 12), (g 13), (g 14), (g 15)])), (h6, .inr (1, [(gm 0), (gm 1), .ref h7])), (h7, .inl (cA, 4, .inl (fun _ => (-1))))]) [0, 1, 2] (by decide) rfl
  have hK9 := hK.sub (tys' := [(cA, .int)]) [0] rfl
  refine W.widen (k := 0) (n := 0) (Nat.le_of_ble_eq_true rfl) (Nat.le_of_ble_eq_true rfl) ?_
  exact W.iret (v := (-1)) hx hb hr (fun t ht hW => ⟨⟨(-1), (), rfl, rfl, by rw [ht]; exact hP9, va_K.moved hW.alike hK9, hD9⟩, hS.F ht⟩) hS.2.2 dX10_message_12

set_option maxRecDepth 100000 in
set_option maxHeartbeats 4000000 in
theorem c_spoil (l : Launch) (dC : Nat → ClassId) (dI : Nat → Nat → Nat) (h0 : Nat) (h6 : Nat) (h7 : Nat) (cA : ClassId) (g : Nat → Value) (gm : Nat → Value) (p0 : Int32) (p1 : Int32) (p2 : Int32) (sz : Nat) : Met l yX10_spoil (.code yX10_spoil cX10_spoil 4 (some .int) :: pw) ({ frames := 3, cells := 0, slots := 0, locals := 64 }) (va_Pc [.ref h0, .int p0, .int p1, .int p2] (vPre dC dI [(h0, .inr (10, [(g 0), (g 1), (g 2), (g 3), (g 4), (g 5), .ref h6, (g 7), (g 8), (g 9), (g 10), (g 11), (g 12), (g 13), (g 14), (g 15)])), (h6, .inr (1, [(gm 0), (gm 1), .ref h7])), (h7, .inl (cA, 4, .inl (fun _ => (-1))))] [(cA, .int)] sz)) (va_Qi (fun (r : Int32) (_ : Unit) => r = (-1)) (fun (_ : Unit) t => vPst dC dI (va_A [(h0, .inr (10, [(g 0), (g 1), (g 2), (g 3), (g 4), (g 5), .ref h6, (g 7), (g 8), (g 9), (g 10), (g 11), (g 12), (g 13), (g 14), (g 15)])), (h6, .inr (1, [(gm 0), (gm 1), .ref h7])), (h7, .inl (cA, 4, .inl (fun _ => (-1))))] sz) [(h0, .inr (10, [(g 0), (g 1), (g 2), (g 3), (g 4), (g 5), .ref h6, (g 7), (g 8), (g 9), (g 10), (g 11), (g 12), (g 13), (g 14), (g 15)])), (h6, .inr (1, [(gm 0), (gm 1), .ref h7])), (h7, .inl (cA, 4, .inl (fun _ => (-1))))] [(cA, .int)] t) (va_A [(h0, .inr (10, [(g 0), (g 1), (g 2), (g 3), (g 4), (g 5), .ref h6, (g 7), (g 8), (g 9), (g 10), (g 11), (g 12), (g 13), (g 14), (g 15)])), (h6, .inr (1, [(gm 0), (gm 1), .ref h7])), (h7, .inl (cA, 4, .inl (fun _ => (-1))))] sz)) 0 0 (va_A [(h0, .inr (10, [(g 0), (g 1), (g 2), (g 3), (g 4), (g 5), .ref h6, (g 7), (g 8), (g 9), (g 10), (g 11), (g 12), (g 13), (g 14), (g 15)])), (h6, .inr (1, [(gm 0), (gm 1), .ref h7])), (h7, .inl (cA, 4, .inl (fun _ => (-1))))] sz) := by
  refine Met.ofW (cc := cX10_spoil) (maxL := 4) (ret := (some .int)) (by decide) rfl ?_
  intro p e s m args below meth c s₁ B hml hv
  obtain ⟨rfl, hsz, hP, hK, hD0⟩ := hv
  have hx := B.exec
  have hb := B.bytes
  have hr := B.returns
  have hts := atoms_spec (ws := .code yX10_spoil cX10_spoil 4 (some .int) :: pw) B.pre
  have hts : ∀ w ∈ pw, w.before _ s = true := fun w h => hts w (List.mem_cons_of_mem _ h)
  have hown : s.vm.findClass RX10 = some m.cls := findClass_of_methodNamed B.named
  have hlocks := B.notSynchronized
  subst hsz
  have hD := hD0.self (sz := s.heap.size)
  generalize hAe : va_A [(h0, .inr (10, [(g 0), (g 1), (g 2), (g 3), (g 4), (g 5), .ref h6, (g 7), (g 8), (g 9), (g 10), (g 11), (g 12), (g 13), (g 14), (g 15)])), (h6, .inr (1, [(gm 0), (gm 1), .ref h7])), (h7, .inl (cA, 4, .inl (fun _ => (-1))))] s.heap.size = A at hD ⊢
  have hA : ∀ q : Nat, s.heap.size ≤ q → A q := fun q h => by rw [← hAe]; exact Or.inr h
  have hS : va_S A s.heap s.heap [] := va_S.rf
  have hP : va_P (dC, dI) vwCl [(h0, .inr (10, [(g 0), (g 1), (g 2), (g 3), (g 4), (g 5), .ref h6, (g 7), (g 8), (g 9), (g 10), (g 11), (g 12), (g 13), (g 14), (g 15)])), (h6, .inr (1, [(gm 0), (gm 1), .ref h7])), (h7, .inl (cA, 4, .inl (fun _ => (-1))))] s.heap := hP
  have hl := lv_entry ([.ref h0, .int p0, .int p1, .int p2]) (n := 4) (Nat.le_of_ble_eq_true rfl)
  rw [lg_entry_eq]
  generalize (lg_sl ([.ref h0, .int p0, .int p1, .int p2]) ++ List.replicate (4 - (lg_sl ([.ref h0, .int p0, .int p1, .int p2])).length) Slot.unset).toArray = ls at hl ⊢
  have hl : lv_has ls 4 [(0, .ref h0), (1, .int p0), (2, .int p1), (3, .int p2)] := hl
  refine lv_aload_n hx hb dX10_spoil_0 rfl (lv_at hl 0 rfl) ?_
  refine va_get (D := (dC, dI)) (ci := 10) (v := .ref h6) (C := RX10) (T := TX10) (N := 16) hx hb hts inlX10 hown hK hP 0 rfl rfl 6 (by decide) (hts (.fieldLink RX10 48 "ShapeReader" "messages" "LShapeReader$Messages;") mw_1_9) (fun _ h9 => h9) rfl dX10_spoil_1 ?_
  refine lv_iload_n hx hb dX10_spoil_4 rfl (lv_at hl 1 rfl) ?_
  refine lv_iload_n hx hb dX10_spoil_5 rfl (lv_at hl 2 rfl) ?_
  have hPc := hP.sub (ws' := [(h6, .inr (1, [(gm 0), (gm 1), .ref h7])), (h7, .inl (cA, 4, .inl (fun _ => (-1))))]) [1, 2] rfl
  have hDc := hD.sub (ws' := [(h6, .inr (1, [(gm 0), (gm 1), .ref h7])), (h7, .inl (cA, 4, .inl (fun _ => (-1))))]) [1, 2] (by decide) rfl
  have hKc := hK.sub (tys' := [(cA, .int)]) [0] rfl
  have hFc := va_free (wc := [(h6, .inr (1, [(gm 0), (gm 1), .ref h7])), (h7, .inl (cA, 4, .inl (fun _ => (-1))))]) hD hS hA [1, 2] rfl
  refine va_calli (va_runV (As := [.int p0, .int p1]) (rest := []) ⟨hx, hb, hml, hown, hts⟩ (c_hasByte l dC dI h6 h7 cA gm p0 p1 s.heap.size) (cwV 2 hts (gV mw_3_11 mw_3_12 mw_3_13 mw_0_5 mw_20_13) rfl rfl rfl (by decide +kernel) ⟨(Nat.le_of_ble_eq_true rfl), (Nat.le_of_ble_eq_true rfl)⟩) (vV (ci := 1) (q0 := 0) hKc hPc hDc rfl rfl) rfl rfl hl.1 rfl (lv_room (Nat.le_of_ble_eq_true rfl)) dX10_spoil_6 ⟨(Nat.le_of_ble_eq_true rfl), (Nat.le_of_ble_eq_true rfl)⟩) hS (fun q _ h => hFc q h) hFc (fun r_1 u t H1 locs ht hvm hw hB hz1 hk1 hS => ?_)
  obtain ⟨hP1, hK1, hD1⟩ := hB
  rw [ht] at hP1
  have hK1 := va_K.moved hvm.symm hK1
  obtain ⟨hP, hD⟩ := va_join (wr := [(h0, .inr (10, [(g 0), (g 1), (g 2), (g 3), (g 4), (g 5), .ref h6, (g 7), (g 8), (g 9), (g 10), (g 11), (g 12), (g 13), (g 14), (g 15)]))]) (w1 := [(h6, .inr (1, [(gm 0), (gm 1), .ref h7])), (h7, .inl (cA, 4, .inl (fun _ => (-1))))]) hP hD [1, 2] [0] rfl rfl (by decide) (by decide) hk1 hFc hP1 hD1
  clear hPc hDc hKc hP1 hK1 hD1 hFc hk1 hz1
  generalize H1 = H at hP hS ⊢
  have hP : va_P (dC, dI) vwCl [(h0, .inr (10, [(g 0), (g 1), (g 2), (g 3), (g 4), (g 5), .ref h6, (g 7), (g 8), (g 9), (g 10), (g 11), (g 12), (g 13), (g 14), (g 15)])), (h6, .inr (1, [(gm 0), (gm 1), .ref h7])), (h7, .inl (cA, 4, .inl (fun _ => (-1))))] H := hP
  have hD : va_D A [(h0, .inr (10, [(g 0), (g 1), (g 2), (g 3), (g 4), (g 5), .ref h6, (g 7), (g 8), (g 9), (g 10), (g 11), (g 12), (g 13), (g 14), (g 15)])), (h6, .inr (1, [(gm 0), (gm 1), .ref h7])), (h7, .inl (cA, 4, .inl (fun _ => (-1))))] := hD
  obtain rfl : r_1 = 0 := hw
  refine lv_if_ne (tgt := 14) hx hb dX10_spoil_9 (by decide) (fun h => absurd rfl h) (fun _ => ?_)
  refine lv_iconst (v := (-1)) hx hb dX10_spoil_12 (by decide) ?_
  have hP9 := hP.sub (ws' := [(h0, .inr (10, [(g 0), (g 1), (g 2), (g 3), (g 4), (g 5), .ref h6, (g 7), (g 8), (g 9), (g 10), (g 11), (g 12), (g 13), (g 14), (g 15)])), (h6, .inr (1, [(gm 0), (gm 1), .ref h7])), (h7, .inl (cA, 4, .inl (fun _ => (-1))))]) [0, 1, 2] rfl
  have hD9 := hD.sub (ws' := [(h0, .inr (10, [(g 0), (g 1), (g 2), (g 3), (g 4), (g 5), .ref h6, (g 7), (g 8), (g 9), (g 10), (g 11), (g 12), (g 13), (g 14), (g 15)])), (h6, .inr (1, [(gm 0), (gm 1), .ref h7])), (h7, .inl (cA, 4, .inl (fun _ => (-1))))]) [0, 1, 2] (by decide) rfl
  have hK9 := hK.sub (tys' := [(cA, .int)]) [0] rfl
  refine W.widen (k := 0) (n := 0) (Nat.le_of_ble_eq_true rfl) (Nat.le_of_ble_eq_true rfl) ?_
  exact W.iret (v := (-1)) hx hb hr (fun t ht hW => ⟨⟨(-1), (), rfl, rfl, by rw [ht]; exact hP9, va_K.moved hW.alike hK9, hD9⟩, hS.F ht⟩) hS.2.2 dX10_spoil_13

set_option maxRecDepth 100000 in
set_option maxHeartbeats 4000000 in
theorem c_cut (l : Launch) (dC : Nat → ClassId) (dI : Nat → Nat → Nat) (h0 : Nat) (h6 : Nat) (h7 : Nat) (cA : ClassId) (g : Nat → Value) (gm : Nat → Value) (p0 : Int32) (p1 : Int32) (sz : Nat) : Met l yX10_cut (.code yX10_cut cX10_cut 3 (some .int) :: pw) ({ frames := 2, cells := 0, slots := 0, locals := 42 }) (va_Pc [.ref h0, .int p0, .int p1] (vPre dC dI [(h0, .inr (10, [(g 0), (g 1), (g 2), (g 3), (g 4), (g 5), .ref h6, (g 7), (g 8), (g 9), (g 10), (g 11), (g 12), (g 13), (g 14), (g 15)])), (h6, .inr (1, [(gm 0), (gm 1), .ref h7])), (h7, .inl (cA, 4, .inl (fun _ => (-1))))] [(cA, .int)] sz)) (va_Qi (fun (r : Int32) (_ : Unit) => r = (-1)) (fun (_ : Unit) t => vPst dC dI (va_A [(h0, .inr (10, [(g 0), (g 1), (g 2), (g 3), (g 4), (g 5), .ref h6, (g 7), (g 8), (g 9), (g 10), (g 11), (g 12), (g 13), (g 14), (g 15)])), (h6, .inr (1, [(gm 0), (gm 1), .ref h7])), (h7, .inl (cA, 4, .inl (fun _ => (-1))))] sz) [(h0, .inr (10, [(g 0), (g 1), (g 2), (g 3), (g 4), (g 5), .ref h6, (g 7), (g 8), (g 9), (g 10), (g 11), (g 12), (g 13), (g 14), (g 15)])), (h6, .inr (1, [(gm 0), (gm 1), .ref h7])), (h7, .inl (cA, 4, .inl (fun _ => (-1))))] [(cA, .int)] t) (va_A [(h0, .inr (10, [(g 0), (g 1), (g 2), (g 3), (g 4), (g 5), .ref h6, (g 7), (g 8), (g 9), (g 10), (g 11), (g 12), (g 13), (g 14), (g 15)])), (h6, .inr (1, [(gm 0), (gm 1), .ref h7])), (h7, .inl (cA, 4, .inl (fun _ => (-1))))] sz)) 0 0 (va_A [(h0, .inr (10, [(g 0), (g 1), (g 2), (g 3), (g 4), (g 5), .ref h6, (g 7), (g 8), (g 9), (g 10), (g 11), (g 12), (g 13), (g 14), (g 15)])), (h6, .inr (1, [(gm 0), (gm 1), .ref h7])), (h7, .inl (cA, 4, .inl (fun _ => (-1))))] sz) := by
  refine Met.ofW (cc := cX10_cut) (maxL := 3) (ret := (some .int)) (by decide) rfl ?_
  intro p e s m args below meth c s₁ B hml hv
  obtain ⟨rfl, hsz, hP, hK, hD0⟩ := hv
  have hx := B.exec
  have hb := B.bytes
  have hr := B.returns
  have hts := atoms_spec (ws := .code yX10_cut cX10_cut 3 (some .int) :: pw) B.pre
  have hts : ∀ w ∈ pw, w.before _ s = true := fun w h => hts w (List.mem_cons_of_mem _ h)
  have hown : s.vm.findClass RX10 = some m.cls := findClass_of_methodNamed B.named
  have hlocks := B.notSynchronized
  subst hsz
  have hD := hD0.self (sz := s.heap.size)
  generalize hAe : va_A [(h0, .inr (10, [(g 0), (g 1), (g 2), (g 3), (g 4), (g 5), .ref h6, (g 7), (g 8), (g 9), (g 10), (g 11), (g 12), (g 13), (g 14), (g 15)])), (h6, .inr (1, [(gm 0), (gm 1), .ref h7])), (h7, .inl (cA, 4, .inl (fun _ => (-1))))] s.heap.size = A at hD ⊢
  have hA : ∀ q : Nat, s.heap.size ≤ q → A q := fun q h => by rw [← hAe]; exact Or.inr h
  have hS : va_S A s.heap s.heap [] := va_S.rf
  have hP : va_P (dC, dI) vwCl [(h0, .inr (10, [(g 0), (g 1), (g 2), (g 3), (g 4), (g 5), .ref h6, (g 7), (g 8), (g 9), (g 10), (g 11), (g 12), (g 13), (g 14), (g 15)])), (h6, .inr (1, [(gm 0), (gm 1), .ref h7])), (h7, .inl (cA, 4, .inl (fun _ => (-1))))] s.heap := hP
  have hl := lv_entry ([.ref h0, .int p0, .int p1]) (n := 3) (Nat.le_of_ble_eq_true rfl)
  rw [lg_entry_eq]
  generalize (lg_sl ([.ref h0, .int p0, .int p1]) ++ List.replicate (3 - (lg_sl ([.ref h0, .int p0, .int p1])).length) Slot.unset).toArray = ls at hl ⊢
  have hl : lv_has ls 3 [(0, .ref h0), (1, .int p0), (2, .int p1)] := hl
  refine lv_aload_n hx hb dX10_cut_0 rfl (lv_at hl 0 rfl) ?_
  refine va_get (D := (dC, dI)) (ci := 10) (v := .ref h6) (C := RX10) (T := TX10) (N := 16) hx hb hts inlX10 hown hK hP 0 rfl rfl 6 (by decide) (hts (.fieldLink RX10 48 "ShapeReader" "messages" "LShapeReader$Messages;") mw_1_9) (fun _ h9 => h9) rfl dX10_cut_1 ?_
  refine lv_iload_n hx hb dX10_cut_4 rfl (lv_at hl 1 rfl) ?_
  have hPc := hP.sub (ws' := [(h6, .inr (1, [(gm 0), (gm 1), .ref h7])), (h7, .inl (cA, 4, .inl (fun _ => (-1))))]) [1, 2] rfl
  have hDc := hD.sub (ws' := [(h6, .inr (1, [(gm 0), (gm 1), .ref h7])), (h7, .inl (cA, 4, .inl (fun _ => (-1))))]) [1, 2] (by decide) rfl
  have hKc := hK.sub (tys' := [(cA, .int)]) [0] rfl
  have hFc := va_free (wc := [(h6, .inr (1, [(gm 0), (gm 1), .ref h7])), (h7, .inl (cA, 4, .inl (fun _ => (-1))))]) hD hS hA [1, 2] rfl
  refine va_calli (va_runV (As := [.int p0]) (rest := []) ⟨hx, hb, hml, hown, hts⟩ (c_isWritten l dC dI h6 h7 cA gm p0 s.heap.size) (cwV 1 hts (gV mw_3_8 mw_3_9 mw_3_10 mw_0_5 mw_20_12) rfl rfl rfl (by decide +kernel) ⟨(Nat.le_of_ble_eq_true rfl), (Nat.le_of_ble_eq_true rfl)⟩) (vV (ci := 1) (q0 := 0) hKc hPc hDc rfl rfl) rfl rfl hl.1 rfl (lv_room (Nat.le_of_ble_eq_true rfl)) dX10_cut_5 ⟨(Nat.le_of_ble_eq_true rfl), (Nat.le_of_ble_eq_true rfl)⟩) hS (fun q _ h => hFc q h) hFc (fun r_1 u t H1 locs ht hvm hw hB hz1 hk1 hS => ?_)
  obtain ⟨hP1, hK1, hD1⟩ := hB
  rw [ht] at hP1
  have hK1 := va_K.moved hvm.symm hK1
  obtain ⟨hP, hD⟩ := va_join (wr := [(h0, .inr (10, [(g 0), (g 1), (g 2), (g 3), (g 4), (g 5), .ref h6, (g 7), (g 8), (g 9), (g 10), (g 11), (g 12), (g 13), (g 14), (g 15)]))]) (w1 := [(h6, .inr (1, [(gm 0), (gm 1), .ref h7])), (h7, .inl (cA, 4, .inl (fun _ => (-1))))]) hP hD [1, 2] [0] rfl rfl (by decide) (by decide) hk1 hFc hP1 hD1
  clear hPc hDc hKc hP1 hK1 hD1 hFc hk1 hz1
  generalize H1 = H at hP hS ⊢
  have hP : va_P (dC, dI) vwCl [(h0, .inr (10, [(g 0), (g 1), (g 2), (g 3), (g 4), (g 5), .ref h6, (g 7), (g 8), (g 9), (g 10), (g 11), (g 12), (g 13), (g 14), (g 15)])), (h6, .inr (1, [(gm 0), (gm 1), .ref h7])), (h7, .inl (cA, 4, .inl (fun _ => (-1))))] H := hP
  have hD : va_D A [(h0, .inr (10, [(g 0), (g 1), (g 2), (g 3), (g 4), (g 5), .ref h6, (g 7), (g 8), (g 9), (g 10), (g 11), (g 12), (g 13), (g 14), (g 15)])), (h6, .inr (1, [(gm 0), (gm 1), .ref h7])), (h7, .inl (cA, 4, .inl (fun _ => (-1))))] := hD
  obtain rfl : r_1 = 0 := hw
  refine lv_if_eq (tgt := 27) hx hb dX10_cut_8 (by decide) (fun _ => ?_) (fun h => absurd (by decide) h)
  refine lv_iconst (v := (-1)) hx hb dX10_cut_27 (by decide) ?_
  have hP9 := hP.sub (ws' := [(h0, .inr (10, [(g 0), (g 1), (g 2), (g 3), (g 4), (g 5), .ref h6, (g 7), (g 8), (g 9), (g 10), (g 11), (g 12), (g 13), (g 14), (g 15)])), (h6, .inr (1, [(gm 0), (gm 1), .ref h7])), (h7, .inl (cA, 4, .inl (fun _ => (-1))))]) [0, 1, 2] rfl
  have hD9 := hD.sub (ws' := [(h0, .inr (10, [(g 0), (g 1), (g 2), (g 3), (g 4), (g 5), .ref h6, (g 7), (g 8), (g 9), (g 10), (g 11), (g 12), (g 13), (g 14), (g 15)])), (h6, .inr (1, [(gm 0), (gm 1), .ref h7])), (h7, .inl (cA, 4, .inl (fun _ => (-1))))]) [0, 1, 2] (by decide) rfl
  have hK9 := hK.sub (tys' := [(cA, .int)]) [0] rfl
  refine W.widen (k := 0) (n := 0) (Nat.le_of_ble_eq_true rfl) (Nat.le_of_ble_eq_true rfl) ?_
  exact W.iret (v := (-1)) hx hb hr (fun t ht hW => ⟨⟨(-1), (), rfl, rfl, by rw [ht]; exact hP9, va_K.moved hW.alike hK9, hD9⟩, hS.F ht⟩) hS.2.2 dX10_cut_28

set_option maxRecDepth 100000 in
set_option maxHeartbeats 4000000 in
theorem c_read (l : Launch) (dC : Nat → ClassId) (dI : Nat → Nat → Nat) (h0 : Nat) (h6 : Nat) (h7 : Nat) (cA : ClassId) (g : Nat → Value) (gm : Nat → Value) (p0 : Int32) (p1 : Int32) (sz : Nat) : Met l yX10_read (.code yX10_read cX10_read 3 (some .int) :: pw) ({ frames := 2, cells := 0, slots := 0, locals := 42 }) (va_Pc [.ref h0, .int p0, .int p1] (vPre dC dI [(h0, .inr (10, [(g 0), (g 1), (g 2), (g 3), (g 4), (g 5), .ref h6, (g 7), (g 8), (g 9), (g 10), (g 11), (g 12), (g 13), (g 14), (g 15)])), (h6, .inr (1, [(gm 0), (gm 1), .ref h7])), (h7, .inl (cA, 4, .inl (fun _ => (-1))))] [(cA, .int)] sz)) (va_Qi (fun (r : Int32) (_ : Unit) => r = (-1)) (fun (_ : Unit) t => vPst dC dI (va_A [(h0, .inr (10, [(g 0), (g 1), (g 2), (g 3), (g 4), (g 5), .ref h6, (g 7), (g 8), (g 9), (g 10), (g 11), (g 12), (g 13), (g 14), (g 15)])), (h6, .inr (1, [(gm 0), (gm 1), .ref h7])), (h7, .inl (cA, 4, .inl (fun _ => (-1))))] sz) [(h0, .inr (10, [(g 0), (g 1), (g 2), (g 3), (g 4), (g 5), .ref h6, (g 7), (g 8), (g 9), (g 10), (g 11), (g 12), (g 13), (g 14), (g 15)])), (h6, .inr (1, [(gm 0), (gm 1), .ref h7])), (h7, .inl (cA, 4, .inl (fun _ => (-1))))] [(cA, .int)] t) (va_A [(h0, .inr (10, [(g 0), (g 1), (g 2), (g 3), (g 4), (g 5), .ref h6, (g 7), (g 8), (g 9), (g 10), (g 11), (g 12), (g 13), (g 14), (g 15)])), (h6, .inr (1, [(gm 0), (gm 1), .ref h7])), (h7, .inl (cA, 4, .inl (fun _ => (-1))))] sz)) 0 0 (va_A [(h0, .inr (10, [(g 0), (g 1), (g 2), (g 3), (g 4), (g 5), .ref h6, (g 7), (g 8), (g 9), (g 10), (g 11), (g 12), (g 13), (g 14), (g 15)])), (h6, .inr (1, [(gm 0), (gm 1), .ref h7])), (h7, .inl (cA, 4, .inl (fun _ => (-1))))] sz) := by
  refine Met.ofW (cc := cX10_read) (maxL := 3) (ret := (some .int)) (by decide) rfl ?_
  intro p e s m args below meth c s₁ B hml hv
  obtain ⟨rfl, hsz, hP, hK, hD0⟩ := hv
  have hx := B.exec
  have hb := B.bytes
  have hr := B.returns
  have hts := atoms_spec (ws := .code yX10_read cX10_read 3 (some .int) :: pw) B.pre
  have hts : ∀ w ∈ pw, w.before _ s = true := fun w h => hts w (List.mem_cons_of_mem _ h)
  have hown : s.vm.findClass RX10 = some m.cls := findClass_of_methodNamed B.named
  have hlocks := B.notSynchronized
  subst hsz
  have hD := hD0.self (sz := s.heap.size)
  generalize hAe : va_A [(h0, .inr (10, [(g 0), (g 1), (g 2), (g 3), (g 4), (g 5), .ref h6, (g 7), (g 8), (g 9), (g 10), (g 11), (g 12), (g 13), (g 14), (g 15)])), (h6, .inr (1, [(gm 0), (gm 1), .ref h7])), (h7, .inl (cA, 4, .inl (fun _ => (-1))))] s.heap.size = A at hD ⊢
  have hA : ∀ q : Nat, s.heap.size ≤ q → A q := fun q h => by rw [← hAe]; exact Or.inr h
  have hS : va_S A s.heap s.heap [] := va_S.rf
  have hP : va_P (dC, dI) vwCl [(h0, .inr (10, [(g 0), (g 1), (g 2), (g 3), (g 4), (g 5), .ref h6, (g 7), (g 8), (g 9), (g 10), (g 11), (g 12), (g 13), (g 14), (g 15)])), (h6, .inr (1, [(gm 0), (gm 1), .ref h7])), (h7, .inl (cA, 4, .inl (fun _ => (-1))))] s.heap := hP
  have hl := lv_entry ([.ref h0, .int p0, .int p1]) (n := 3) (Nat.le_of_ble_eq_true rfl)
  rw [lg_entry_eq]
  generalize (lg_sl ([.ref h0, .int p0, .int p1]) ++ List.replicate (3 - (lg_sl ([.ref h0, .int p0, .int p1])).length) Slot.unset).toArray = ls at hl ⊢
  have hl : lv_has ls 3 [(0, .ref h0), (1, .int p0), (2, .int p1)] := hl
  refine lv_aload_n hx hb dX10_read_0 rfl (lv_at hl 0 rfl) ?_
  refine va_get (D := (dC, dI)) (ci := 10) (v := .ref h6) (C := RX10) (T := TX10) (N := 16) hx hb hts inlX10 hown hK hP 0 rfl rfl 6 (by decide) (hts (.fieldLink RX10 48 "ShapeReader" "messages" "LShapeReader$Messages;") mw_1_9) (fun _ h9 => h9) rfl dX10_read_1 ?_
  refine lv_iload_n hx hb dX10_read_4 rfl (lv_at hl 1 rfl) ?_
  have hPc := hP.sub (ws' := [(h6, .inr (1, [(gm 0), (gm 1), .ref h7])), (h7, .inl (cA, 4, .inl (fun _ => (-1))))]) [1, 2] rfl
  have hDc := hD.sub (ws' := [(h6, .inr (1, [(gm 0), (gm 1), .ref h7])), (h7, .inl (cA, 4, .inl (fun _ => (-1))))]) [1, 2] (by decide) rfl
  have hKc := hK.sub (tys' := [(cA, .int)]) [0] rfl
  have hFc := va_free (wc := [(h6, .inr (1, [(gm 0), (gm 1), .ref h7])), (h7, .inl (cA, 4, .inl (fun _ => (-1))))]) hD hS hA [1, 2] rfl
  refine va_calli (va_runV (As := [.int p0]) (rest := []) ⟨hx, hb, hml, hown, hts⟩ (c_isWritten l dC dI h6 h7 cA gm p0 s.heap.size) (cwV 1 hts (gV mw_3_8 mw_3_9 mw_3_10 mw_0_5 mw_20_12) rfl rfl rfl (by decide +kernel) ⟨(Nat.le_of_ble_eq_true rfl), (Nat.le_of_ble_eq_true rfl)⟩) (vV (ci := 1) (q0 := 0) hKc hPc hDc rfl rfl) rfl rfl hl.1 rfl (lv_room (Nat.le_of_ble_eq_true rfl)) dX10_read_5 ⟨(Nat.le_of_ble_eq_true rfl), (Nat.le_of_ble_eq_true rfl)⟩) hS (fun q _ h => hFc q h) hFc (fun r_1 u t H1 locs ht hvm hw hB hz1 hk1 hS => ?_)
  obtain ⟨hP1, hK1, hD1⟩ := hB
  rw [ht] at hP1
  have hK1 := va_K.moved hvm.symm hK1
  obtain ⟨hP, hD⟩ := va_join (wr := [(h0, .inr (10, [(g 0), (g 1), (g 2), (g 3), (g 4), (g 5), .ref h6, (g 7), (g 8), (g 9), (g 10), (g 11), (g 12), (g 13), (g 14), (g 15)]))]) (w1 := [(h6, .inr (1, [(gm 0), (gm 1), .ref h7])), (h7, .inl (cA, 4, .inl (fun _ => (-1))))]) hP hD [1, 2] [0] rfl rfl (by decide) (by decide) hk1 hFc hP1 hD1
  clear hPc hDc hKc hP1 hK1 hD1 hFc hk1 hz1
  generalize H1 = H at hP hS ⊢
  have hP : va_P (dC, dI) vwCl [(h0, .inr (10, [(g 0), (g 1), (g 2), (g 3), (g 4), (g 5), .ref h6, (g 7), (g 8), (g 9), (g 10), (g 11), (g 12), (g 13), (g 14), (g 15)])), (h6, .inr (1, [(gm 0), (gm 1), .ref h7])), (h7, .inl (cA, 4, .inl (fun _ => (-1))))] H := hP
  have hD : va_D A [(h0, .inr (10, [(g 0), (g 1), (g 2), (g 3), (g 4), (g 5), .ref h6, (g 7), (g 8), (g 9), (g 10), (g 11), (g 12), (g 13), (g 14), (g 15)])), (h6, .inr (1, [(gm 0), (gm 1), .ref h7])), (h7, .inl (cA, 4, .inl (fun _ => (-1))))] := hD
  obtain rfl : r_1 = 0 := hw
  refine lv_if_eq (tgt := 19) hx hb dX10_read_8 (by decide) (fun _ => ?_) (fun h => absurd (by decide) h)
  refine lv_iconst (v := (-1)) hx hb dX10_read_19 (by decide) ?_
  have hP9 := hP.sub (ws' := [(h0, .inr (10, [(g 0), (g 1), (g 2), (g 3), (g 4), (g 5), .ref h6, (g 7), (g 8), (g 9), (g 10), (g 11), (g 12), (g 13), (g 14), (g 15)])), (h6, .inr (1, [(gm 0), (gm 1), .ref h7])), (h7, .inl (cA, 4, .inl (fun _ => (-1))))]) [0, 1, 2] rfl
  have hD9 := hD.sub (ws' := [(h0, .inr (10, [(g 0), (g 1), (g 2), (g 3), (g 4), (g 5), .ref h6, (g 7), (g 8), (g 9), (g 10), (g 11), (g 12), (g 13), (g 14), (g 15)])), (h6, .inr (1, [(gm 0), (gm 1), .ref h7])), (h7, .inl (cA, 4, .inl (fun _ => (-1))))]) [0, 1, 2] (by decide) rfl
  have hK9 := hK.sub (tys' := [(cA, .int)]) [0] rfl
  refine W.widen (k := 0) (n := 0) (Nat.le_of_ble_eq_true rfl) (Nat.le_of_ble_eq_true rfl) ?_
  exact W.iret (v := (-1)) hx hb hr (fun t ht hW => ⟨⟨(-1), (), rfl, rfl, by rw [ht]; exact hP9, va_K.moved hW.alike hK9, hD9⟩, hS.F ht⟩) hS.2.2 dX10_read_20

set_option maxRecDepth 100000 in
set_option maxHeartbeats 4000000 in
theorem c_convert (l : Launch) (dC : Nat → ClassId) (dI : Nat → Nat → Nat) (h0 : Nat) (h6 : Nat) (h7 : Nat) (cA : ClassId) (g : Nat → Value) (gm : Nat → Value) (p0 : Int32) (p1 : Int32) (p2 : Int32) (sz : Nat) : Met l yX10_convert (.code yX10_convert cX10_convert 5 (some .int) :: pw) ({ frames := 2, cells := 0, slots := 0, locals := 42 }) (va_Pc [.ref h0, .int p0, .int p1, .int p2] (vPre dC dI [(h0, .inr (10, [(g 0), (g 1), (g 2), (g 3), (g 4), (g 5), .ref h6, (g 7), (g 8), (g 9), (g 10), (g 11), (g 12), (g 13), (g 14), (g 15)])), (h6, .inr (1, [(gm 0), (gm 1), .ref h7])), (h7, .inl (cA, 4, .inl (fun _ => (-1))))] [(cA, .int)] sz)) (va_Qi (fun (r : Int32) (_ : Unit) => r = (-1)) (fun (_ : Unit) t => vPst dC dI (va_A [(h0, .inr (10, [(g 0), (g 1), (g 2), (g 3), (g 4), (g 5), .ref h6, (g 7), (g 8), (g 9), (g 10), (g 11), (g 12), (g 13), (g 14), (g 15)])), (h6, .inr (1, [(gm 0), (gm 1), .ref h7])), (h7, .inl (cA, 4, .inl (fun _ => (-1))))] sz) [(h0, .inr (10, [(g 0), (g 1), (g 2), (g 3), (g 4), (g 5), .ref h6, (g 7), (g 8), (g 9), (g 10), (g 11), (g 12), (g 13), (g 14), (g 15)])), (h6, .inr (1, [(gm 0), (gm 1), .ref h7])), (h7, .inl (cA, 4, .inl (fun _ => (-1))))] [(cA, .int)] t) (va_A [(h0, .inr (10, [(g 0), (g 1), (g 2), (g 3), (g 4), (g 5), .ref h6, (g 7), (g 8), (g 9), (g 10), (g 11), (g 12), (g 13), (g 14), (g 15)])), (h6, .inr (1, [(gm 0), (gm 1), .ref h7])), (h7, .inl (cA, 4, .inl (fun _ => (-1))))] sz)) 0 0 (va_A [(h0, .inr (10, [(g 0), (g 1), (g 2), (g 3), (g 4), (g 5), .ref h6, (g 7), (g 8), (g 9), (g 10), (g 11), (g 12), (g 13), (g 14), (g 15)])), (h6, .inr (1, [(gm 0), (gm 1), .ref h7])), (h7, .inl (cA, 4, .inl (fun _ => (-1))))] sz) := by
  refine Met.ofW (cc := cX10_convert) (maxL := 5) (ret := (some .int)) (by decide) rfl ?_
  intro p e s m args below meth c s₁ B hml hv
  obtain ⟨rfl, hsz, hP, hK, hD0⟩ := hv
  have hx := B.exec
  have hb := B.bytes
  have hr := B.returns
  have hts := atoms_spec (ws := .code yX10_convert cX10_convert 5 (some .int) :: pw) B.pre
  have hts : ∀ w ∈ pw, w.before _ s = true := fun w h => hts w (List.mem_cons_of_mem _ h)
  have hown : s.vm.findClass RX10 = some m.cls := findClass_of_methodNamed B.named
  have hlocks := B.notSynchronized
  subst hsz
  have hD := hD0.self (sz := s.heap.size)
  generalize hAe : va_A [(h0, .inr (10, [(g 0), (g 1), (g 2), (g 3), (g 4), (g 5), .ref h6, (g 7), (g 8), (g 9), (g 10), (g 11), (g 12), (g 13), (g 14), (g 15)])), (h6, .inr (1, [(gm 0), (gm 1), .ref h7])), (h7, .inl (cA, 4, .inl (fun _ => (-1))))] s.heap.size = A at hD ⊢
  have hA : ∀ q : Nat, s.heap.size ≤ q → A q := fun q h => by rw [← hAe]; exact Or.inr h
  have hS : va_S A s.heap s.heap [] := va_S.rf
  have hP : va_P (dC, dI) vwCl [(h0, .inr (10, [(g 0), (g 1), (g 2), (g 3), (g 4), (g 5), .ref h6, (g 7), (g 8), (g 9), (g 10), (g 11), (g 12), (g 13), (g 14), (g 15)])), (h6, .inr (1, [(gm 0), (gm 1), .ref h7])), (h7, .inl (cA, 4, .inl (fun _ => (-1))))] s.heap := hP
  have hl := lv_entry ([.ref h0, .int p0, .int p1, .int p2]) (n := 5) (Nat.le_of_ble_eq_true rfl)
  rw [lg_entry_eq]
  generalize (lg_sl ([.ref h0, .int p0, .int p1, .int p2]) ++ List.replicate (5 - (lg_sl ([.ref h0, .int p0, .int p1, .int p2])).length) Slot.unset).toArray = ls at hl ⊢
  have hl : lv_has ls 5 [(0, .ref h0), (1, .int p0), (2, .int p1), (3, .int p2)] := hl
  refine lv_aload_n hx hb dX10_convert_0 rfl (lv_at hl 0 rfl) ?_
  refine va_get (D := (dC, dI)) (ci := 10) (v := .ref h6) (C := RX10) (T := TX10) (N := 16) hx hb hts inlX10 hown hK hP 0 rfl rfl 6 (by decide) (hts (.fieldLink RX10 48 "ShapeReader" "messages" "LShapeReader$Messages;") mw_1_9) (fun _ h9 => h9) rfl dX10_convert_1 ?_
  refine lv_iload_n hx hb dX10_convert_4 rfl (lv_at hl 1 rfl) ?_
  have hPc := hP.sub (ws' := [(h6, .inr (1, [(gm 0), (gm 1), .ref h7])), (h7, .inl (cA, 4, .inl (fun _ => (-1))))]) [1, 2] rfl
  have hDc := hD.sub (ws' := [(h6, .inr (1, [(gm 0), (gm 1), .ref h7])), (h7, .inl (cA, 4, .inl (fun _ => (-1))))]) [1, 2] (by decide) rfl
  have hKc := hK.sub (tys' := [(cA, .int)]) [0] rfl
  have hFc := va_free (wc := [(h6, .inr (1, [(gm 0), (gm 1), .ref h7])), (h7, .inl (cA, 4, .inl (fun _ => (-1))))]) hD hS hA [1, 2] rfl
  refine va_calli (va_runV (As := [.int p0]) (rest := []) ⟨hx, hb, hml, hown, hts⟩ (c_isWritten l dC dI h6 h7 cA gm p0 s.heap.size) (cwV 1 hts (gV mw_3_8 mw_3_9 mw_3_10 mw_0_5 mw_20_12) rfl rfl rfl (by decide +kernel) ⟨(Nat.le_of_ble_eq_true rfl), (Nat.le_of_ble_eq_true rfl)⟩) (vV (ci := 1) (q0 := 0) hKc hPc hDc rfl rfl) rfl rfl hl.1 rfl (lv_room (Nat.le_of_ble_eq_true rfl)) dX10_convert_5 ⟨(Nat.le_of_ble_eq_true rfl), (Nat.le_of_ble_eq_true rfl)⟩) hS (fun q _ h => hFc q h) hFc (fun r_1 u t H1 locs ht hvm hw hB hz1 hk1 hS => ?_)
  obtain ⟨hP1, hK1, hD1⟩ := hB
  rw [ht] at hP1
  have hK1 := va_K.moved hvm.symm hK1
  obtain ⟨hP, hD⟩ := va_join (wr := [(h0, .inr (10, [(g 0), (g 1), (g 2), (g 3), (g 4), (g 5), .ref h6, (g 7), (g 8), (g 9), (g 10), (g 11), (g 12), (g 13), (g 14), (g 15)]))]) (w1 := [(h6, .inr (1, [(gm 0), (gm 1), .ref h7])), (h7, .inl (cA, 4, .inl (fun _ => (-1))))]) hP hD [1, 2] [0] rfl rfl (by decide) (by decide) hk1 hFc hP1 hD1
  clear hPc hDc hKc hP1 hK1 hD1 hFc hk1 hz1
  generalize H1 = H at hP hS ⊢
  have hP : va_P (dC, dI) vwCl [(h0, .inr (10, [(g 0), (g 1), (g 2), (g 3), (g 4), (g 5), .ref h6, (g 7), (g 8), (g 9), (g 10), (g 11), (g 12), (g 13), (g 14), (g 15)])), (h6, .inr (1, [(gm 0), (gm 1), .ref h7])), (h7, .inl (cA, 4, .inl (fun _ => (-1))))] H := hP
  have hD : va_D A [(h0, .inr (10, [(g 0), (g 1), (g 2), (g 3), (g 4), (g 5), .ref h6, (g 7), (g 8), (g 9), (g 10), (g 11), (g 12), (g 13), (g 14), (g 15)])), (h6, .inr (1, [(gm 0), (gm 1), .ref h7])), (h7, .inl (cA, 4, .inl (fun _ => (-1))))] := hD
  obtain rfl : r_1 = 0 := hw
  refine lv_if_eq (tgt := 30) hx hb dX10_convert_8 (by decide) (fun _ => ?_) (fun h => absurd (by decide) h)
  refine lv_iconst (v := (-1)) hx hb dX10_convert_30 (by decide) ?_
  have hP9 := hP.sub (ws' := [(h0, .inr (10, [(g 0), (g 1), (g 2), (g 3), (g 4), (g 5), .ref h6, (g 7), (g 8), (g 9), (g 10), (g 11), (g 12), (g 13), (g 14), (g 15)])), (h6, .inr (1, [(gm 0), (gm 1), .ref h7])), (h7, .inl (cA, 4, .inl (fun _ => (-1))))]) [0, 1, 2] rfl
  have hD9 := hD.sub (ws' := [(h0, .inr (10, [(g 0), (g 1), (g 2), (g 3), (g 4), (g 5), .ref h6, (g 7), (g 8), (g 9), (g 10), (g 11), (g 12), (g 13), (g 14), (g 15)])), (h6, .inr (1, [(gm 0), (gm 1), .ref h7])), (h7, .inl (cA, 4, .inl (fun _ => (-1))))]) [0, 1, 2] (by decide) rfl
  have hK9 := hK.sub (tys' := [(cA, .int)]) [0] rfl
  refine W.widen (k := 0) (n := 0) (Nat.le_of_ble_eq_true rfl) (Nat.le_of_ble_eq_true rfl) ?_
  exact W.iret (v := (-1)) hx hb hr (fun t ht hW => ⟨⟨(-1), (), rfl, rfl, by rw [ht]; exact hP9, va_K.moved hW.alike hK9, hD9⟩, hS.F ht⟩) hS.2.2 dX10_convert_31

set_option maxRecDepth 100000 in
set_option maxHeartbeats 4000000 in
theorem c_alike (l : Launch) (dC : Nat → ClassId) (dI : Nat → Nat → Nat) (h0 : Nat) (h6 : Nat) (h7 : Nat) (cA : ClassId) (g : Nat → Value) (gm : Nat → Value) (p0 : Int32) (p1 : Int32) (p2 : Int32) (sz : Nat) : Met l yX10_alike (.code yX10_alike cX10_alike 6 (some .int) :: pw) ({ frames := 2, cells := 0, slots := 0, locals := 42 }) (va_Pc [.ref h0, .int p0, .int p1, .int p2] (vPre dC dI [(h0, .inr (10, [(g 0), (g 1), (g 2), (g 3), (g 4), (g 5), .ref h6, (g 7), (g 8), (g 9), (g 10), (g 11), (g 12), (g 13), (g 14), (g 15)])), (h6, .inr (1, [(gm 0), (gm 1), .ref h7])), (h7, .inl (cA, 4, .inl (fun _ => (-1))))] [(cA, .int)] sz)) (va_Qi (fun (r : Int32) (_ : Unit) => r = (-1)) (fun (_ : Unit) t => vPst dC dI (va_A [(h0, .inr (10, [(g 0), (g 1), (g 2), (g 3), (g 4), (g 5), .ref h6, (g 7), (g 8), (g 9), (g 10), (g 11), (g 12), (g 13), (g 14), (g 15)])), (h6, .inr (1, [(gm 0), (gm 1), .ref h7])), (h7, .inl (cA, 4, .inl (fun _ => (-1))))] sz) [(h0, .inr (10, [(g 0), (g 1), (g 2), (g 3), (g 4), (g 5), .ref h6, (g 7), (g 8), (g 9), (g 10), (g 11), (g 12), (g 13), (g 14), (g 15)])), (h6, .inr (1, [(gm 0), (gm 1), .ref h7])), (h7, .inl (cA, 4, .inl (fun _ => (-1))))] [(cA, .int)] t) (va_A [(h0, .inr (10, [(g 0), (g 1), (g 2), (g 3), (g 4), (g 5), .ref h6, (g 7), (g 8), (g 9), (g 10), (g 11), (g 12), (g 13), (g 14), (g 15)])), (h6, .inr (1, [(gm 0), (gm 1), .ref h7])), (h7, .inl (cA, 4, .inl (fun _ => (-1))))] sz)) 0 0 (va_A [(h0, .inr (10, [(g 0), (g 1), (g 2), (g 3), (g 4), (g 5), .ref h6, (g 7), (g 8), (g 9), (g 10), (g 11), (g 12), (g 13), (g 14), (g 15)])), (h6, .inr (1, [(gm 0), (gm 1), .ref h7])), (h7, .inl (cA, 4, .inl (fun _ => (-1))))] sz) := by
  refine Met.ofW (cc := cX10_alike) (maxL := 6) (ret := (some .int)) (by decide) rfl ?_
  intro p e s m args below meth c s₁ B hml hv
  obtain ⟨rfl, hsz, hP, hK, hD0⟩ := hv
  have hx := B.exec
  have hb := B.bytes
  have hr := B.returns
  have hts := atoms_spec (ws := .code yX10_alike cX10_alike 6 (some .int) :: pw) B.pre
  have hts : ∀ w ∈ pw, w.before _ s = true := fun w h => hts w (List.mem_cons_of_mem _ h)
  have hown : s.vm.findClass RX10 = some m.cls := findClass_of_methodNamed B.named
  have hlocks := B.notSynchronized
  subst hsz
  have hD := hD0.self (sz := s.heap.size)
  generalize hAe : va_A [(h0, .inr (10, [(g 0), (g 1), (g 2), (g 3), (g 4), (g 5), .ref h6, (g 7), (g 8), (g 9), (g 10), (g 11), (g 12), (g 13), (g 14), (g 15)])), (h6, .inr (1, [(gm 0), (gm 1), .ref h7])), (h7, .inl (cA, 4, .inl (fun _ => (-1))))] s.heap.size = A at hD ⊢
  have hA : ∀ q : Nat, s.heap.size ≤ q → A q := fun q h => by rw [← hAe]; exact Or.inr h
  have hS : va_S A s.heap s.heap [] := va_S.rf
  have hP : va_P (dC, dI) vwCl [(h0, .inr (10, [(g 0), (g 1), (g 2), (g 3), (g 4), (g 5), .ref h6, (g 7), (g 8), (g 9), (g 10), (g 11), (g 12), (g 13), (g 14), (g 15)])), (h6, .inr (1, [(gm 0), (gm 1), .ref h7])), (h7, .inl (cA, 4, .inl (fun _ => (-1))))] s.heap := hP
  have hl := lv_entry ([.ref h0, .int p0, .int p1, .int p2]) (n := 6) (Nat.le_of_ble_eq_true rfl)
  rw [lg_entry_eq]
  generalize (lg_sl ([.ref h0, .int p0, .int p1, .int p2]) ++ List.replicate (6 - (lg_sl ([.ref h0, .int p0, .int p1, .int p2])).length) Slot.unset).toArray = ls at hl ⊢
  have hl : lv_has ls 6 [(0, .ref h0), (1, .int p0), (2, .int p1), (3, .int p2)] := hl
  refine lv_aload_n hx hb dX10_alike_0 rfl (lv_at hl 0 rfl) ?_
  refine va_get (D := (dC, dI)) (ci := 10) (v := .ref h6) (C := RX10) (T := TX10) (N := 16) hx hb hts inlX10 hown hK hP 0 rfl rfl 6 (by decide) (hts (.fieldLink RX10 48 "ShapeReader" "messages" "LShapeReader$Messages;") mw_1_9) (fun _ h9 => h9) rfl dX10_alike_1 ?_
  refine lv_iload_n hx hb dX10_alike_4 rfl (lv_at hl 1 rfl) ?_
  have hPc := hP.sub (ws' := [(h6, .inr (1, [(gm 0), (gm 1), .ref h7])), (h7, .inl (cA, 4, .inl (fun _ => (-1))))]) [1, 2] rfl
  have hDc := hD.sub (ws' := [(h6, .inr (1, [(gm 0), (gm 1), .ref h7])), (h7, .inl (cA, 4, .inl (fun _ => (-1))))]) [1, 2] (by decide) rfl
  have hKc := hK.sub (tys' := [(cA, .int)]) [0] rfl
  have hFc := va_free (wc := [(h6, .inr (1, [(gm 0), (gm 1), .ref h7])), (h7, .inl (cA, 4, .inl (fun _ => (-1))))]) hD hS hA [1, 2] rfl
  refine va_calli (va_runV (As := [.int p0]) (rest := []) ⟨hx, hb, hml, hown, hts⟩ (c_isWritten l dC dI h6 h7 cA gm p0 s.heap.size) (cwV 1 hts (gV mw_3_8 mw_3_9 mw_3_10 mw_0_5 mw_20_12) rfl rfl rfl (by decide +kernel) ⟨(Nat.le_of_ble_eq_true rfl), (Nat.le_of_ble_eq_true rfl)⟩) (vV (ci := 1) (q0 := 0) hKc hPc hDc rfl rfl) rfl rfl hl.1 rfl (lv_room (Nat.le_of_ble_eq_true rfl)) dX10_alike_5 ⟨(Nat.le_of_ble_eq_true rfl), (Nat.le_of_ble_eq_true rfl)⟩) hS (fun q _ h => hFc q h) hFc (fun r_1 u t H1 locs ht hvm hw hB hz1 hk1 hS => ?_)
  obtain ⟨hP1, hK1, hD1⟩ := hB
  rw [ht] at hP1
  have hK1 := va_K.moved hvm.symm hK1
  obtain ⟨hP, hD⟩ := va_join (wr := [(h0, .inr (10, [(g 0), (g 1), (g 2), (g 3), (g 4), (g 5), .ref h6, (g 7), (g 8), (g 9), (g 10), (g 11), (g 12), (g 13), (g 14), (g 15)]))]) (w1 := [(h6, .inr (1, [(gm 0), (gm 1), .ref h7])), (h7, .inl (cA, 4, .inl (fun _ => (-1))))]) hP hD [1, 2] [0] rfl rfl (by decide) (by decide) hk1 hFc hP1 hD1
  clear hPc hDc hKc hP1 hK1 hD1 hFc hk1 hz1
  generalize H1 = H at hP hS ⊢
  have hP : va_P (dC, dI) vwCl [(h0, .inr (10, [(g 0), (g 1), (g 2), (g 3), (g 4), (g 5), .ref h6, (g 7), (g 8), (g 9), (g 10), (g 11), (g 12), (g 13), (g 14), (g 15)])), (h6, .inr (1, [(gm 0), (gm 1), .ref h7])), (h7, .inl (cA, 4, .inl (fun _ => (-1))))] H := hP
  have hD : va_D A [(h0, .inr (10, [(g 0), (g 1), (g 2), (g 3), (g 4), (g 5), .ref h6, (g 7), (g 8), (g 9), (g 10), (g 11), (g 12), (g 13), (g 14), (g 15)])), (h6, .inr (1, [(gm 0), (gm 1), .ref h7])), (h7, .inl (cA, 4, .inl (fun _ => (-1))))] := hD
  obtain rfl : r_1 = 0 := hw
  refine lv_if_eq (tgt := 30) hx hb dX10_alike_8 (by decide) (fun _ => ?_) (fun h => absurd (by decide) h)
  refine lv_iconst (v := (-1)) hx hb dX10_alike_30 (by decide) ?_
  have hP9 := hP.sub (ws' := [(h0, .inr (10, [(g 0), (g 1), (g 2), (g 3), (g 4), (g 5), .ref h6, (g 7), (g 8), (g 9), (g 10), (g 11), (g 12), (g 13), (g 14), (g 15)])), (h6, .inr (1, [(gm 0), (gm 1), .ref h7])), (h7, .inl (cA, 4, .inl (fun _ => (-1))))]) [0, 1, 2] rfl
  have hD9 := hD.sub (ws' := [(h0, .inr (10, [(g 0), (g 1), (g 2), (g 3), (g 4), (g 5), .ref h6, (g 7), (g 8), (g 9), (g 10), (g 11), (g 12), (g 13), (g 14), (g 15)])), (h6, .inr (1, [(gm 0), (gm 1), .ref h7])), (h7, .inl (cA, 4, .inl (fun _ => (-1))))]) [0, 1, 2] (by decide) rfl
  have hK9 := hK.sub (tys' := [(cA, .int)]) [0] rfl
  refine W.widen (k := 0) (n := 0) (Nat.le_of_ble_eq_true rfl) (Nat.le_of_ble_eq_true rfl) ?_
  exact W.iret (v := (-1)) hx hb hr (fun t ht hW => ⟨⟨(-1), (), rfl, rfl, by rw [ht]; exact hP9, va_K.moved hW.alike hK9, hD9⟩, hS.F ht⟩) hS.2.2 dX10_alike_31

set_option maxRecDepth 100000 in
set_option maxHeartbeats 4000000 in
theorem c_write (l : Launch) (dC : Nat → ClassId) (dI : Nat → Nat → Nat) (h3 : Nat) (ga : Nat → Value) (h0 : Nat) (h6 : Nat) (h7 : Nat) (cA : ClassId) (g : Nat → Value) (gm : Nat → Value) (p0 : Int32) (p1 : Int32) (p2 : Int32) (sz : Nat) : Met l yX10_write (.code yX10_write cX10_write 4 (some .int) :: pw) ({ frames := 1, cells := 0, slots := 0, locals := 21 }) (va_Pc [.ref h0, .int p0, .int p1, .int p2] (vPre dC dI [(h0, .inr (10, [(g 0), (g 1), (g 2), .ref h3, (g 4), (g 5), .ref h6, (g 7), (g 8), (g 9), (g 10), (g 11), (g 12), (g 13), (g 14), (g 15)])), (h6, .inr (1, [(gm 0), (gm 1), .ref h7])), (h7, .inl (cA, 4, .inl (fun _ => (-1)))), (h3, .inr (5, [.int 0, (ga 1), (ga 2), (ga 3), (ga 4), (ga 5), (ga 6), (ga 7), (ga 8), (ga 9), (ga 10), (ga 11), (ga 12), (ga 13), (ga 14), (ga 15), (ga 16)]))] [(cA, .int)] sz)) (va_Qi (fun (r : Int32) (_ : Unit) => r = (-1)) (fun (_ : Unit) t => vPst dC dI (va_A [(h0, .inr (10, [(g 0), (g 1), (g 2), .ref h3, (g 4), (g 5), .ref h6, (g 7), (g 8), (g 9), (g 10), (g 11), (g 12), (g 13), (g 14), (g 15)])), (h6, .inr (1, [(gm 0), (gm 1), .ref h7])), (h7, .inl (cA, 4, .inl (fun _ => (-1)))), (h3, .inr (5, [.int 0, (ga 1), (ga 2), (ga 3), (ga 4), (ga 5), (ga 6), (ga 7), (ga 8), (ga 9), (ga 10), (ga 11), (ga 12), (ga 13), (ga 14), (ga 15), (ga 16)]))] sz) [(h0, .inr (10, [(g 0), (g 1), (g 2), .ref h3, (g 4), (g 5), .ref h6, (g 7), (g 8), (g 9), (g 10), (g 11), (g 12), (g 13), (g 14), (g 15)])), (h6, .inr (1, [(gm 0), (gm 1), .ref h7])), (h7, .inl (cA, 4, .inl (fun _ => (-1)))), (h3, .inr (5, [.int 0, (ga 1), (ga 2), (ga 3), (ga 4), (ga 5), (ga 6), (ga 7), (ga 8), (ga 9), (ga 10), (ga 11), (ga 12), (ga 13), (ga 14), (ga 15), (ga 16)]))] [(cA, .int)] t) (va_A [(h0, .inr (10, [(g 0), (g 1), (g 2), .ref h3, (g 4), (g 5), .ref h6, (g 7), (g 8), (g 9), (g 10), (g 11), (g 12), (g 13), (g 14), (g 15)])), (h6, .inr (1, [(gm 0), (gm 1), .ref h7])), (h7, .inl (cA, 4, .inl (fun _ => (-1)))), (h3, .inr (5, [.int 0, (ga 1), (ga 2), (ga 3), (ga 4), (ga 5), (ga 6), (ga 7), (ga 8), (ga 9), (ga 10), (ga 11), (ga 12), (ga 13), (ga 14), (ga 15), (ga 16)]))] sz)) 0 0 (va_A [(h0, .inr (10, [(g 0), (g 1), (g 2), .ref h3, (g 4), (g 5), .ref h6, (g 7), (g 8), (g 9), (g 10), (g 11), (g 12), (g 13), (g 14), (g 15)])), (h6, .inr (1, [(gm 0), (gm 1), .ref h7])), (h7, .inl (cA, 4, .inl (fun _ => (-1)))), (h3, .inr (5, [.int 0, (ga 1), (ga 2), (ga 3), (ga 4), (ga 5), (ga 6), (ga 7), (ga 8), (ga 9), (ga 10), (ga 11), (ga 12), (ga 13), (ga 14), (ga 15), (ga 16)]))] sz) := by
  refine Met.ofW (cc := cX10_write) (maxL := 4) (ret := (some .int)) (by decide) rfl ?_
  intro p e s m args below meth c s₁ B hml hv
  obtain ⟨rfl, hsz, hP, hK, hD0⟩ := hv
  have hx := B.exec
  have hb := B.bytes
  have hr := B.returns
  have hts := atoms_spec (ws := .code yX10_write cX10_write 4 (some .int) :: pw) B.pre
  have hts : ∀ w ∈ pw, w.before _ s = true := fun w h => hts w (List.mem_cons_of_mem _ h)
  have hown : s.vm.findClass RX10 = some m.cls := findClass_of_methodNamed B.named
  have hlocks := B.notSynchronized
  subst hsz
  have hD := hD0.self (sz := s.heap.size)
  generalize hAe : va_A [(h0, .inr (10, [(g 0), (g 1), (g 2), .ref h3, (g 4), (g 5), .ref h6, (g 7), (g 8), (g 9), (g 10), (g 11), (g 12), (g 13), (g 14), (g 15)])), (h6, .inr (1, [(gm 0), (gm 1), .ref h7])), (h7, .inl (cA, 4, .inl (fun _ => (-1)))), (h3, .inr (5, [.int 0, (ga 1), (ga 2), (ga 3), (ga 4), (ga 5), (ga 6), (ga 7), (ga 8), (ga 9), (ga 10), (ga 11), (ga 12), (ga 13), (ga 14), (ga 15), (ga 16)]))] s.heap.size = A at hD ⊢
  have hA : ∀ q : Nat, s.heap.size ≤ q → A q := fun q h => by rw [← hAe]; exact Or.inr h
  have hS : va_S A s.heap s.heap [] := va_S.rf
  have hP : va_P (dC, dI) vwCl [(h0, .inr (10, [(g 0), (g 1), (g 2), .ref h3, (g 4), (g 5), .ref h6, (g 7), (g 8), (g 9), (g 10), (g 11), (g 12), (g 13), (g 14), (g 15)])), (h6, .inr (1, [(gm 0), (gm 1), .ref h7])), (h7, .inl (cA, 4, .inl (fun _ => (-1)))), (h3, .inr (5, [.int 0, (ga 1), (ga 2), (ga 3), (ga 4), (ga 5), (ga 6), (ga 7), (ga 8), (ga 9), (ga 10), (ga 11), (ga 12), (ga 13), (ga 14), (ga 15), (ga 16)]))] s.heap := hP
  have hl := lv_entry ([.ref h0, .int p0, .int p1, .int p2]) (n := 4) (Nat.le_of_ble_eq_true rfl)
  rw [lg_entry_eq]
  generalize (lg_sl ([.ref h0, .int p0, .int p1, .int p2]) ++ List.replicate (4 - (lg_sl ([.ref h0, .int p0, .int p1, .int p2])).length) Slot.unset).toArray = ls at hl ⊢
  have hl : lv_has ls 4 [(0, .ref h0), (1, .int p0), (2, .int p1), (3, .int p2)] := hl
  refine lv_aload_n hx hb dX10_write_0 rfl (lv_at hl 0 rfl) ?_
  refine va_get (D := (dC, dI)) (ci := 10) (v := .ref h6) (C := RX10) (T := TX10) (N := 16) hx hb hts inlX10 hown hK hP 0 rfl rfl 6 (by decide) (hts (.fieldLink RX10 48 "ShapeReader" "messages" "LShapeReader$Messages;") mw_1_9) (fun _ h9 => h9) rfl dX10_write_1 ?_
  refine lv_iload_n hx hb dX10_write_4 rfl (lv_at hl 1 rfl) ?_
  have hPc := hP.sub (ws' := [(h6, .inr (1, [(gm 0), (gm 1), .ref h7]))]) [1] rfl
  have hDc := hD.sub (ws' := [(h6, .inr (1, [(gm 0), (gm 1), .ref h7]))]) [1] (by decide) rfl
  have hKc := hK.sub (tys' := []) [] rfl
  have hFc := va_free (wc := [(h6, .inr (1, [(gm 0), (gm 1), .ref h7]))]) hD hS hA [1] rfl
  refine va_calli (va_runV (As := [.int p0]) (rest := []) ⟨hx, hb, hml, hown, hts⟩ (c_isNumber l dC dI h6 (fun k => ([(gm 0), (gm 1), .ref h7] : List Value).getD k .null) p0 s.heap.size) (cwV 1 hts (gV mw_2_25 mw_2_26 mw_2_27 mw_0_5 mw_20_11) rfl rfl rfl (by decide +kernel) ⟨(Nat.le_of_ble_eq_true rfl), (Nat.le_of_ble_eq_true rfl)⟩) (vV (ci := 1) (q0 := 0) hKc hPc hDc rfl rfl) rfl rfl hl.1 rfl (lv_room (Nat.le_of_ble_eq_true rfl)) dX10_write_5 ⟨(Nat.le_of_ble_eq_true rfl), (Nat.le_of_ble_eq_true rfl)⟩) hS (fun q _ h => hFc q h) hFc (fun r_1 u t H1 locs ht hvm hw hB hz1 hk1 hS => ?_)
  obtain ⟨hP1, hK1, hD1⟩ := hB
  rw [ht] at hP1
  have hK1 := va_K.moved hvm.symm hK1
  obtain ⟨hP, hD⟩ := va_join (wr := [(h0, .inr (10, [(g 0), (g 1), (g 2), .ref h3, (g 4), (g 5), .ref h6, (g 7), (g 8), (g 9), (g 10), (g 11), (g 12), (g 13), (g 14), (g 15)])), (h7, .inl (cA, 4, .inl (fun _ => (-1)))), (h3, .inr (5, [.int 0, (ga 1), (ga 2), (ga 3), (ga 4), (ga 5), (ga 6), (ga 7), (ga 8), (ga 9), (ga 10), (ga 11), (ga 12), (ga 13), (ga 14), (ga 15), (ga 16)]))]) (w1 := [(h6, .inr (1, [(gm 0), (gm 1), .ref h7]))]) hP hD [1] [0, 2, 3] rfl rfl (by decide) (by decide) hk1 hFc hP1 hD1
  clear hPc hDc hKc hP1 hK1 hD1 hFc hk1 hz1
  generalize H1 = H at hP hS ⊢
  have hP : va_P (dC, dI) vwCl [(h0, .inr (10, [(g 0), (g 1), (g 2), .ref h3, (g 4), (g 5), .ref h6, (g 7), (g 8), (g 9), (g 10), (g 11), (g 12), (g 13), (g 14), (g 15)])), (h7, .inl (cA, 4, .inl (fun _ => (-1)))), (h3, .inr (5, [.int 0, (ga 1), (ga 2), (ga 3), (ga 4), (ga 5), (ga 6), (ga 7), (ga 8), (ga 9), (ga 10), (ga 11), (ga 12), (ga 13), (ga 14), (ga 15), (ga 16)])), (h6, .inr (1, [(gm 0), (gm 1), .ref h7]))] H := hP
  have hD : va_D A [(h0, .inr (10, [(g 0), (g 1), (g 2), .ref h3, (g 4), (g 5), .ref h6, (g 7), (g 8), (g 9), (g 10), (g 11), (g 12), (g 13), (g 14), (g 15)])), (h7, .inl (cA, 4, .inl (fun _ => (-1)))), (h3, .inr (5, [.int 0, (ga 1), (ga 2), (ga 3), (ga 4), (ga 5), (ga 6), (ga 7), (ga 8), (ga 9), (ga 10), (ga 11), (ga 12), (ga 13), (ga 14), (ga 15), (ga 16)])), (h6, .inr (1, [(gm 0), (gm 1), .ref h7]))] := hD
  rcases hw with ⟨rfl, g_2, g_3⟩ | rfl
  · refine lv_if_eq (tgt := 31) hx hb dX10_write_8 (by decide) (fun h => absurd h (by decide)) (fun _ => ?_)
    refine lv_aload_n hx hb dX10_write_11 rfl (lv_at hl 0 rfl) ?_
    refine lv_iload_n hx hb dX10_write_12 rfl (lv_at hl 2 rfl) ?_
    have hPc := hP.sub (ws' := [(h0, .inr (10, [(g 0), (g 1), (g 2), .ref h3, (g 4), (g 5), .ref h6, (g 7), (g 8), (g 9), (g 10), (g 11), (g 12), (g 13), (g 14), (g 15)])), (h3, .inr (5, [.int 0, (ga 1), (ga 2), (ga 3), (ga 4), (ga 5), (ga 6), (ga 7), (ga 8), (ga 9), (ga 10), (ga 11), (ga 12), (ga 13), (ga 14), (ga 15), (ga 16)]))]) [0, 2] rfl
    have hDc := hD.sub (ws' := [(h0, .inr (10, [(g 0), (g 1), (g 2), .ref h3, (g 4), (g 5), .ref h6, (g 7), (g 8), (g 9), (g 10), (g 11), (g 12), (g 13), (g 14), (g 15)])), (h3, .inr (5, [.int 0, (ga 1), (ga 2), (ga 3), (ga 4), (ga 5), (ga 6), (ga 7), (ga 8), (ga 9), (ga 10), (ga 11), (ga 12), (ga 13), (ga 14), (ga 15), (ga 16)]))]) [0, 2] (by decide) rfl
    have hKc := hK.sub (tys' := []) [] rfl
    have hFc := va_free (wc := [(h0, .inr (10, [(g 0), (g 1), (g 2), .ref h3, (g 4), (g 5), .ref h6, (g 7), (g 8), (g 9), (g 10), (g 11), (g 12), (g 13), (g 14), (g 15)])), (h3, .inr (5, [.int 0, (ga 1), (ga 2), (ga 3), (ga 4), (ga 5), (ga 6), (ga 7), (ga 8), (ga 9), (ga 10), (ga 11), (ga 12), (ga 13), (ga 14), (ga 15), (ga 16)]))]) hD hS hA [0, 2] rfl
    refine va_calli (va_runV (As := [.int p1]) (rest := []) ⟨hx, hb, hml, hown, hts⟩ (c_isPlan l dC dI h0 h3 (fun k => ([(g 0), (g 1), (g 2), .null, (g 4), (g 5), .ref h6, (g 7), (g 8), (g 9), (g 10), (g 11), (g 12), (g 13), (g 14), (g 15)] : List Value).getD k .null) ga p1 H.size) (cwV 1 hts (gV mw_2_28 mw_2_29 mw_3_0 mw_0_14 mw_19_6) rfl rfl rfl (by decide +kernel) ⟨(Nat.le_of_ble_eq_true rfl), (Nat.le_of_ble_eq_true rfl)⟩) (vV (ci := 10) (q0 := 0) hKc hPc hDc rfl rfl) rfl rfl hl.1 rfl (lv_room (Nat.le_of_ble_eq_true rfl)) dX10_write_13 ⟨(Nat.le_of_ble_eq_true rfl), (Nat.le_of_ble_eq_true rfl)⟩) hS (fun q _ h => hFc q h) hFc (fun r_5 u t H1 locs ht hvm hw hB hz1 hk1 hS => ?_)
    obtain ⟨hP1, hK1, hD1⟩ := hB
    rw [ht] at hP1
    have hK1 := va_K.moved hvm.symm hK1
    obtain ⟨hP, hD⟩ := va_join (wr := [(h7, .inl (cA, 4, .inl (fun _ => (-1)))), (h6, .inr (1, [(gm 0), (gm 1), .ref h7]))]) (w1 := [(h0, .inr (10, [(g 0), (g 1), (g 2), .ref h3, (g 4), (g 5), .ref h6, (g 7), (g 8), (g 9), (g 10), (g 11), (g 12), (g 13), (g 14), (g 15)])), (h3, .inr (5, [.int 0, (ga 1), (ga 2), (ga 3), (ga 4), (ga 5), (ga 6), (ga 7), (ga 8), (ga 9), (ga 10), (ga 11), (ga 12), (ga 13), (ga 14), (ga 15), (ga 16)]))]) hP hD [0, 2] [1, 3] rfl rfl (by decide) (by decide) hk1 hFc hP1 hD1
    clear hPc hDc hKc hP1 hK1 hD1 hFc hk1 hz1
    generalize H1 = H at hP hS ⊢
    have hP : va_P (dC, dI) vwCl [(h7, .inl (cA, 4, .inl (fun _ => (-1)))), (h6, .inr (1, [(gm 0), (gm 1), .ref h7])), (h0, .inr (10, [(g 0), (g 1), (g 2), .ref h3, (g 4), (g 5), .ref h6, (g 7), (g 8), (g 9), (g 10), (g 11), (g 12), (g 13), (g 14), (g 15)])), (h3, .inr (5, [.int 0, (ga 1), (ga 2), (ga 3), (ga 4), (ga 5), (ga 6), (ga 7), (ga 8), (ga 9), (ga 10), (ga 11), (ga 12), (ga 13), (ga 14), (ga 15), (ga 16)]))] H := hP
    have hD : va_D A [(h7, .inl (cA, 4, .inl (fun _ => (-1)))), (h6, .inr (1, [(gm 0), (gm 1), .ref h7])), (h0, .inr (10, [(g 0), (g 1), (g 2), .ref h3, (g 4), (g 5), .ref h6, (g 7), (g 8), (g 9), (g 10), (g 11), (g 12), (g 13), (g 14), (g 15)])), (h3, .inr (5, [.int 0, (ga 1), (ga 2), (ga 3), (ga 4), (ga 5), (ga 6), (ga 7), (ga 8), (ga 9), (ga 10), (ga 11), (ga 12), (ga 13), (ga 14), (ga 15), (ga 16)]))] := hD
    obtain rfl : r_5 = 0 := hw
    refine lv_if_eq (tgt := 31) hx hb dX10_write_16 (by decide) (fun _ => ?_) (fun h => absurd (by decide) h)
    refine lv_iconst (v := (-1)) hx hb dX10_write_31 (by decide) ?_
    have hP9 := hP.sub (ws' := [(h0, .inr (10, [(g 0), (g 1), (g 2), .ref h3, (g 4), (g 5), .ref h6, (g 7), (g 8), (g 9), (g 10), (g 11), (g 12), (g 13), (g 14), (g 15)])), (h6, .inr (1, [(gm 0), (gm 1), .ref h7])), (h7, .inl (cA, 4, .inl (fun _ => (-1)))), (h3, .inr (5, [.int 0, (ga 1), (ga 2), (ga 3), (ga 4), (ga 5), (ga 6), (ga 7), (ga 8), (ga 9), (ga 10), (ga 11), (ga 12), (ga 13), (ga 14), (ga 15), (ga 16)]))]) [2, 1, 0, 3] rfl
    have hD9 := hD.sub (ws' := [(h0, .inr (10, [(g 0), (g 1), (g 2), .ref h3, (g 4), (g 5), .ref h6, (g 7), (g 8), (g 9), (g 10), (g 11), (g 12), (g 13), (g 14), (g 15)])), (h6, .inr (1, [(gm 0), (gm 1), .ref h7])), (h7, .inl (cA, 4, .inl (fun _ => (-1)))), (h3, .inr (5, [.int 0, (ga 1), (ga 2), (ga 3), (ga 4), (ga 5), (ga 6), (ga 7), (ga 8), (ga 9), (ga 10), (ga 11), (ga 12), (ga 13), (ga 14), (ga 15), (ga 16)]))]) [2, 1, 0, 3] (by decide) rfl
    have hK9 := hK.sub (tys' := [(cA, .int)]) [0] rfl
    refine W.widen (k := 0) (n := 0) (Nat.le_of_ble_eq_true rfl) (Nat.le_of_ble_eq_true rfl) ?_
    exact W.iret (v := (-1)) hx hb hr (fun t ht hW => ⟨⟨(-1), (), rfl, rfl, by rw [ht]; exact hP9, va_K.moved hW.alike hK9, hD9⟩, hS.F ht⟩) hS.2.2 dX10_write_32
  · refine lv_if_eq (tgt := 31) hx hb dX10_write_8 (by decide) (fun _ => ?_) (fun h => absurd (by decide) h)
    refine lv_iconst (v := (-1)) hx hb dX10_write_31 (by decide) ?_
    have hP9 := hP.sub (ws' := [(h0, .inr (10, [(g 0), (g 1), (g 2), .ref h3, (g 4), (g 5), .ref h6, (g 7), (g 8), (g 9), (g 10), (g 11), (g 12), (g 13), (g 14), (g 15)])), (h6, .inr (1, [(gm 0), (gm 1), .ref h7])), (h7, .inl (cA, 4, .inl (fun _ => (-1)))), (h3, .inr (5, [.int 0, (ga 1), (ga 2), (ga 3), (ga 4), (ga 5), (ga 6), (ga 7), (ga 8), (ga 9), (ga 10), (ga 11), (ga 12), (ga 13), (ga 14), (ga 15), (ga 16)]))]) [0, 3, 1, 2] rfl
    have hD9 := hD.sub (ws' := [(h0, .inr (10, [(g 0), (g 1), (g 2), .ref h3, (g 4), (g 5), .ref h6, (g 7), (g 8), (g 9), (g 10), (g 11), (g 12), (g 13), (g 14), (g 15)])), (h6, .inr (1, [(gm 0), (gm 1), .ref h7])), (h7, .inl (cA, 4, .inl (fun _ => (-1)))), (h3, .inr (5, [.int 0, (ga 1), (ga 2), (ga 3), (ga 4), (ga 5), (ga 6), (ga 7), (ga 8), (ga 9), (ga 10), (ga 11), (ga 12), (ga 13), (ga 14), (ga 15), (ga 16)]))]) [0, 3, 1, 2] (by decide) rfl
    have hK9 := hK.sub (tys' := [(cA, .int)]) [0] rfl
    refine W.widen (k := 0) (n := 0) (Nat.le_of_ble_eq_true rfl) (Nat.le_of_ble_eq_true rfl) ?_
    exact W.iret (v := (-1)) hx hb hr (fun t ht hW => ⟨⟨(-1), (), rfl, rfl, by rw [ht]; exact hP9, va_K.moved hW.alike hK9, hD9⟩, hS.F ht⟩) hS.2.2 dX10_write_32

set_option maxRecDepth 100000 in
set_option maxHeartbeats 4000000 in
theorem c_failure (l : Launch) (dC : Nat → ClassId) (dI : Nat → Nat → Nat) (h0 : Nat) (h10 : Nat) (g : Nat → Value) (gr : Nat → Value) (p0 : Int32) (sz : Nat) : Met l yX10_failure (.code yX10_failure cX10_failure 2 (some .int) :: pw) ({ frames := 0, cells := 0, slots := 0, locals := 0 }) (va_Pc [.ref h0, .int p0] (vPre dC dI [(h0, .inr (10, [(g 0), (g 1), (g 2), (g 3), (g 4), (g 5), (g 6), (g 7), (g 8), (g 9), (g 10), (g 11), (g 12), (g 13), .ref h10, (g 15)])), (h10, .inr (4, [(gr 0), (gr 1), (gr 2), (gr 3), (gr 4), (gr 5), (gr 6), .int 0, (gr 8), (gr 9), (gr 10), (gr 11)]))] [] sz)) (va_Qi (fun (r : Int32) (_ : Unit) => r = (-1)) (fun (_ : Unit) t => vPst dC dI (va_A [(h0, .inr (10, [(g 0), (g 1), (g 2), (g 3), (g 4), (g 5), (g 6), (g 7), (g 8), (g 9), (g 10), (g 11), (g 12), (g 13), .ref h10, (g 15)])), (h10, .inr (4, [(gr 0), (gr 1), (gr 2), (gr 3), (gr 4), (gr 5), (gr 6), .int 0, (gr 8), (gr 9), (gr 10), (gr 11)]))] sz) [(h0, .inr (10, [(g 0), (g 1), (g 2), (g 3), (g 4), (g 5), (g 6), (g 7), (g 8), (g 9), (g 10), (g 11), (g 12), (g 13), .ref h10, (g 15)])), (h10, .inr (4, [(gr 0), (gr 1), (gr 2), (gr 3), (gr 4), (gr 5), (gr 6), .int 0, (gr 8), (gr 9), (gr 10), (gr 11)]))] [] t) (va_A [(h0, .inr (10, [(g 0), (g 1), (g 2), (g 3), (g 4), (g 5), (g 6), (g 7), (g 8), (g 9), (g 10), (g 11), (g 12), (g 13), .ref h10, (g 15)])), (h10, .inr (4, [(gr 0), (gr 1), (gr 2), (gr 3), (gr 4), (gr 5), (gr 6), .int 0, (gr 8), (gr 9), (gr 10), (gr 11)]))] sz)) 0 0 (va_A [(h0, .inr (10, [(g 0), (g 1), (g 2), (g 3), (g 4), (g 5), (g 6), (g 7), (g 8), (g 9), (g 10), (g 11), (g 12), (g 13), .ref h10, (g 15)])), (h10, .inr (4, [(gr 0), (gr 1), (gr 2), (gr 3), (gr 4), (gr 5), (gr 6), .int 0, (gr 8), (gr 9), (gr 10), (gr 11)]))] sz) := by
  refine Met.ofW (cc := cX10_failure) (maxL := 2) (ret := (some .int)) (by decide) rfl ?_
  intro p e s m args below meth c s₁ B hml hv
  obtain ⟨rfl, hsz, hP, hK, hD0⟩ := hv
  have hx := B.exec
  have hb := B.bytes
  have hr := B.returns
  have hts := atoms_spec (ws := .code yX10_failure cX10_failure 2 (some .int) :: pw) B.pre
  have hts : ∀ w ∈ pw, w.before _ s = true := fun w h => hts w (List.mem_cons_of_mem _ h)
  have hown : s.vm.findClass RX10 = some m.cls := findClass_of_methodNamed B.named
  have hlocks := B.notSynchronized
  subst hsz
  have hD := hD0.self (sz := s.heap.size)
  generalize hAe : va_A [(h0, .inr (10, [(g 0), (g 1), (g 2), (g 3), (g 4), (g 5), (g 6), (g 7), (g 8), (g 9), (g 10), (g 11), (g 12), (g 13), .ref h10, (g 15)])), (h10, .inr (4, [(gr 0), (gr 1), (gr 2), (gr 3), (gr 4), (gr 5), (gr 6), .int 0, (gr 8), (gr 9), (gr 10), (gr 11)]))] s.heap.size = A at hD ⊢
  have hA : ∀ q : Nat, s.heap.size ≤ q → A q := fun q h => by rw [← hAe]; exact Or.inr h
  have hS : va_S A s.heap s.heap [] := va_S.rf
  have hP : va_P (dC, dI) vwCl [(h0, .inr (10, [(g 0), (g 1), (g 2), (g 3), (g 4), (g 5), (g 6), (g 7), (g 8), (g 9), (g 10), (g 11), (g 12), (g 13), .ref h10, (g 15)])), (h10, .inr (4, [(gr 0), (gr 1), (gr 2), (gr 3), (gr 4), (gr 5), (gr 6), .int 0, (gr 8), (gr 9), (gr 10), (gr 11)]))] s.heap := hP
  have hl := lv_entry ([.ref h0, .int p0]) (n := 2) (Nat.le_of_ble_eq_true rfl)
  rw [lg_entry_eq]
  generalize (lg_sl ([.ref h0, .int p0]) ++ List.replicate (2 - (lg_sl ([.ref h0, .int p0])).length) Slot.unset).toArray = ls at hl ⊢
  have hl : lv_has ls 2 [(0, .ref h0), (1, .int p0)] := hl
  refine lv_aload_n hx hb dX10_failure_0 rfl (lv_at hl 0 rfl) ?_
  refine va_get (D := (dC, dI)) (ci := 10) (v := .ref h10) (C := RX10) (T := TX10) (N := 16) hx hb hts inlX10 hown hK hP 0 rfl rfl 14 (by decide) (hts (.fieldLink RX10 104 "ShapeReader" "latest" "LShapeReader$Reading;") mw_2_10) (fun _ h9 => h9) rfl dX10_failure_1 ?_
  refine va_get (D := (dC, dI)) (ci := 4) (v := .int 0) (C := RX4) (T := TX4) (N := 12) hx hb hts inlX4 hown hK hP 1 rfl rfl 7 (by decide) (hts (.fieldLink RX10 256 "ShapeReader$Reading" "failure" "I") mw_3_17) (fun _ h9 => h9) rfl dX10_failure_4 ?_
  refine lv_if_ne (tgt := 12) hx hb dX10_failure_7 (by decide) (fun h => absurd rfl h) (fun _ => ?_)
  refine lv_iconst (v := (-1)) hx hb dX10_failure_10 (by decide) ?_
  have hP9 := hP.sub (ws' := [(h0, .inr (10, [(g 0), (g 1), (g 2), (g 3), (g 4), (g 5), (g 6), (g 7), (g 8), (g 9), (g 10), (g 11), (g 12), (g 13), .ref h10, (g 15)])), (h10, .inr (4, [(gr 0), (gr 1), (gr 2), (gr 3), (gr 4), (gr 5), (gr 6), .int 0, (gr 8), (gr 9), (gr 10), (gr 11)]))]) [0, 1] rfl
  have hD9 := hD.sub (ws' := [(h0, .inr (10, [(g 0), (g 1), (g 2), (g 3), (g 4), (g 5), (g 6), (g 7), (g 8), (g 9), (g 10), (g 11), (g 12), (g 13), .ref h10, (g 15)])), (h10, .inr (4, [(gr 0), (gr 1), (gr 2), (gr 3), (gr 4), (gr 5), (gr 6), .int 0, (gr 8), (gr 9), (gr 10), (gr 11)]))]) [0, 1] (by decide) rfl
  have hK9 := hK.sub (tys' := []) [] rfl
  refine W.widen (k := 0) (n := 0) (Nat.le_of_ble_eq_true rfl) (Nat.le_of_ble_eq_true rfl) ?_
  exact W.iret (v := (-1)) hx hb hr (fun t ht hW => ⟨⟨(-1), (), rfl, rfl, by rw [ht]; exact hP9, va_K.moved hW.alike hK9, hD9⟩, hS.F ht⟩) hS.2.2 dX10_failure_11

set_option maxRecDepth 100000 in
set_option maxHeartbeats 4000000 in
theorem c_failureStep (l : Launch) (dC : Nat → ClassId) (dI : Nat → Nat → Nat) (h0 : Nat) (h10 : Nat) (g : Nat → Value) (gr : Nat → Value) (p0 : Int32) (sz : Nat) : Met l yX10_failureStep (.code yX10_failureStep cX10_failureStep 2 (some .int) :: pw) ({ frames := 0, cells := 0, slots := 0, locals := 0 }) (va_Pc [.ref h0, .int p0] (vPre dC dI [(h0, .inr (10, [(g 0), (g 1), (g 2), (g 3), (g 4), (g 5), (g 6), (g 7), (g 8), (g 9), (g 10), (g 11), (g 12), (g 13), .ref h10, (g 15)])), (h10, .inr (4, [(gr 0), (gr 1), (gr 2), (gr 3), (gr 4), (gr 5), (gr 6), .int 0, (gr 8), (gr 9), (gr 10), (gr 11)]))] [] sz)) (va_Qi (fun (r : Int32) (_ : Unit) => r = (-1)) (fun (_ : Unit) t => vPst dC dI (va_A [(h0, .inr (10, [(g 0), (g 1), (g 2), (g 3), (g 4), (g 5), (g 6), (g 7), (g 8), (g 9), (g 10), (g 11), (g 12), (g 13), .ref h10, (g 15)])), (h10, .inr (4, [(gr 0), (gr 1), (gr 2), (gr 3), (gr 4), (gr 5), (gr 6), .int 0, (gr 8), (gr 9), (gr 10), (gr 11)]))] sz) [(h0, .inr (10, [(g 0), (g 1), (g 2), (g 3), (g 4), (g 5), (g 6), (g 7), (g 8), (g 9), (g 10), (g 11), (g 12), (g 13), .ref h10, (g 15)])), (h10, .inr (4, [(gr 0), (gr 1), (gr 2), (gr 3), (gr 4), (gr 5), (gr 6), .int 0, (gr 8), (gr 9), (gr 10), (gr 11)]))] [] t) (va_A [(h0, .inr (10, [(g 0), (g 1), (g 2), (g 3), (g 4), (g 5), (g 6), (g 7), (g 8), (g 9), (g 10), (g 11), (g 12), (g 13), .ref h10, (g 15)])), (h10, .inr (4, [(gr 0), (gr 1), (gr 2), (gr 3), (gr 4), (gr 5), (gr 6), .int 0, (gr 8), (gr 9), (gr 10), (gr 11)]))] sz)) 0 0 (va_A [(h0, .inr (10, [(g 0), (g 1), (g 2), (g 3), (g 4), (g 5), (g 6), (g 7), (g 8), (g 9), (g 10), (g 11), (g 12), (g 13), .ref h10, (g 15)])), (h10, .inr (4, [(gr 0), (gr 1), (gr 2), (gr 3), (gr 4), (gr 5), (gr 6), .int 0, (gr 8), (gr 9), (gr 10), (gr 11)]))] sz) := by
  refine Met.ofW (cc := cX10_failureStep) (maxL := 2) (ret := (some .int)) (by decide) rfl ?_
  intro p e s m args below meth c s₁ B hml hv
  obtain ⟨rfl, hsz, hP, hK, hD0⟩ := hv
  have hx := B.exec
  have hb := B.bytes
  have hr := B.returns
  have hts := atoms_spec (ws := .code yX10_failureStep cX10_failureStep 2 (some .int) :: pw) B.pre
  have hts : ∀ w ∈ pw, w.before _ s = true := fun w h => hts w (List.mem_cons_of_mem _ h)
  have hown : s.vm.findClass RX10 = some m.cls := findClass_of_methodNamed B.named
  have hlocks := B.notSynchronized
  subst hsz
  have hD := hD0.self (sz := s.heap.size)
  generalize hAe : va_A [(h0, .inr (10, [(g 0), (g 1), (g 2), (g 3), (g 4), (g 5), (g 6), (g 7), (g 8), (g 9), (g 10), (g 11), (g 12), (g 13), .ref h10, (g 15)])), (h10, .inr (4, [(gr 0), (gr 1), (gr 2), (gr 3), (gr 4), (gr 5), (gr 6), .int 0, (gr 8), (gr 9), (gr 10), (gr 11)]))] s.heap.size = A at hD ⊢
  have hA : ∀ q : Nat, s.heap.size ≤ q → A q := fun q h => by rw [← hAe]; exact Or.inr h
  have hS : va_S A s.heap s.heap [] := va_S.rf
  have hP : va_P (dC, dI) vwCl [(h0, .inr (10, [(g 0), (g 1), (g 2), (g 3), (g 4), (g 5), (g 6), (g 7), (g 8), (g 9), (g 10), (g 11), (g 12), (g 13), .ref h10, (g 15)])), (h10, .inr (4, [(gr 0), (gr 1), (gr 2), (gr 3), (gr 4), (gr 5), (gr 6), .int 0, (gr 8), (gr 9), (gr 10), (gr 11)]))] s.heap := hP
  have hl := lv_entry ([.ref h0, .int p0]) (n := 2) (Nat.le_of_ble_eq_true rfl)
  rw [lg_entry_eq]
  generalize (lg_sl ([.ref h0, .int p0]) ++ List.replicate (2 - (lg_sl ([.ref h0, .int p0])).length) Slot.unset).toArray = ls at hl ⊢
  have hl : lv_has ls 2 [(0, .ref h0), (1, .int p0)] := hl
  refine lv_aload_n hx hb dX10_failureStep_0 rfl (lv_at hl 0 rfl) ?_
  refine va_get (D := (dC, dI)) (ci := 10) (v := .ref h10) (C := RX10) (T := TX10) (N := 16) hx hb hts inlX10 hown hK hP 0 rfl rfl 14 (by decide) (hts (.fieldLink RX10 104 "ShapeReader" "latest" "LShapeReader$Reading;") mw_2_10) (fun _ h9 => h9) rfl dX10_failureStep_1 ?_
  refine va_get (D := (dC, dI)) (ci := 4) (v := .int 0) (C := RX4) (T := TX4) (N := 12) hx hb hts inlX4 hown hK hP 1 rfl rfl 7 (by decide) (hts (.fieldLink RX10 256 "ShapeReader$Reading" "failure" "I") mw_3_17) (fun _ h9 => h9) rfl dX10_failureStep_4 ?_
  refine lv_if_ne (tgt := 14) hx hb dX10_failureStep_7 (by decide) (fun h => absurd rfl h) (fun _ => ?_)
  refine lv_iconst (v := (-1)) hx hb dX10_failureStep_10 (by decide) ?_
  refine lv_goto (tgt := 22) hx hb dX10_failureStep_11 (by decide) ?_
  have hP9 := hP.sub (ws' := [(h0, .inr (10, [(g 0), (g 1), (g 2), (g 3), (g 4), (g 5), (g 6), (g 7), (g 8), (g 9), (g 10), (g 11), (g 12), (g 13), .ref h10, (g 15)])), (h10, .inr (4, [(gr 0), (gr 1), (gr 2), (gr 3), (gr 4), (gr 5), (gr 6), .int 0, (gr 8), (gr 9), (gr 10), (gr 11)]))]) [0, 1] rfl
  have hD9 := hD.sub (ws' := [(h0, .inr (10, [(g 0), (g 1), (g 2), (g 3), (g 4), (g 5), (g 6), (g 7), (g 8), (g 9), (g 10), (g 11), (g 12), (g 13), .ref h10, (g 15)])), (h10, .inr (4, [(gr 0), (gr 1), (gr 2), (gr 3), (gr 4), (gr 5), (gr 6), .int 0, (gr 8), (gr 9), (gr 10), (gr 11)]))]) [0, 1] (by decide) rfl
  have hK9 := hK.sub (tys' := []) [] rfl
  refine W.widen (k := 0) (n := 0) (Nat.le_of_ble_eq_true rfl) (Nat.le_of_ble_eq_true rfl) ?_
  exact W.iret (v := (-1)) hx hb hr (fun t ht hW => ⟨⟨(-1), (), rfl, rfl, by rw [ht]; exact hP9, va_K.moved hW.alike hK9, hD9⟩, hS.F ht⟩) hS.2.2 dX10_failureStep_22

set_option maxRecDepth 100000 in
set_option maxHeartbeats 4000000 in
theorem c_pairAt (l : Launch) (dC : Nat → ClassId) (dI : Nat → Nat → Nat) (h8 : Nat) (gw : Nat → Value) (p0 : Int32) (sz : Nat) : Met l yX9_pairAt (.code yX9_pairAt cX9_pairAt 2 (some .int) :: pw) ({ frames := 0, cells := 0, slots := 0, locals := 0 }) (va_Pc [.ref h8, .int p0] (vPre dC dI [(h8, .inr (9, [(gw 0), .int 0, .int 0, .int 0]))] [] sz)) (va_Qi (fun (r : Int32) (_ : Unit) => r = (-1)) (fun (_ : Unit) t => vPst dC dI (va_A [(h8, .inr (9, [(gw 0), .int 0, .int 0, .int 0]))] sz) [(h8, .inr (9, [(gw 0), .int 0, .int 0, .int 0]))] [] t) (va_A [(h8, .inr (9, [(gw 0), .int 0, .int 0, .int 0]))] sz)) 0 0 (va_A [(h8, .inr (9, [(gw 0), .int 0, .int 0, .int 0]))] sz) := by
  refine Met.ofW (cc := cX9_pairAt) (maxL := 2) (ret := (some .int)) (by decide) rfl ?_
  intro p e s m args below meth c s₁ B hml hv
  obtain ⟨rfl, hsz, hP, hK, hD0⟩ := hv
  have hx := B.exec
  have hb := B.bytes
  have hr := B.returns
  have hts := atoms_spec (ws := .code yX9_pairAt cX9_pairAt 2 (some .int) :: pw) B.pre
  have hts : ∀ w ∈ pw, w.before _ s = true := fun w h => hts w (List.mem_cons_of_mem _ h)
  have hown : s.vm.findClass RX9 = some m.cls := findClass_of_methodNamed B.named
  have hlocks := B.notSynchronized
  subst hsz
  have hD := hD0.self (sz := s.heap.size)
  generalize hAe : va_A [(h8, .inr (9, [(gw 0), .int 0, .int 0, .int 0]))] s.heap.size = A at hD ⊢
  have hA : ∀ q : Nat, s.heap.size ≤ q → A q := fun q h => by rw [← hAe]; exact Or.inr h
  have hS : va_S A s.heap s.heap [] := va_S.rf
  have hP : va_P (dC, dI) vwCl [(h8, .inr (9, [(gw 0), .int 0, .int 0, .int 0]))] s.heap := hP
  have hl := lv_entry ([.ref h8, .int p0]) (n := 2) (Nat.le_of_ble_eq_true rfl)
  rw [lg_entry_eq]
  generalize (lg_sl ([.ref h8, .int p0]) ++ List.replicate (2 - (lg_sl ([.ref h8, .int p0])).length) Slot.unset).toArray = ls at hl ⊢
  have hl : lv_has ls 2 [(0, .ref h8), (1, .int p0)] := hl
  refine lv_iload_n hx hb dX9_pairAt_0 rfl (lv_at hl 1 rfl) ?_
  refine lv_if_lt (tgt := 26) hx hb dX9_pairAt_1 (by decide) (fun c_1 => ?_) (fun c_1 => ?_)
  · refine lv_iconst (v := (-1)) hx hb dX9_pairAt_26 (by decide) ?_
    have hP9 := hP.sub (ws' := [(h8, .inr (9, [(gw 0), .int 0, .int 0, .int 0]))]) [0] rfl
    have hD9 := hD.sub (ws' := [(h8, .inr (9, [(gw 0), .int 0, .int 0, .int 0]))]) [0] (by decide) rfl
    have hK9 := hK.sub (tys' := []) [] rfl
    refine W.widen (k := 0) (n := 0) (Nat.le_of_ble_eq_true rfl) (Nat.le_of_ble_eq_true rfl) ?_
    exact W.iret (v := (-1)) hx hb hr (fun t ht hW => ⟨⟨(-1), (), rfl, rfl, by rw [ht]; exact hP9, va_K.moved hW.alike hK9, hD9⟩, hS.F ht⟩) hS.2.2 dX9_pairAt_27
  · refine lv_iload_n hx hb dX9_pairAt_4 rfl (lv_at hl 1 rfl) ?_
    refine lv_aload_n hx hb dX9_pairAt_5 rfl (lv_at hl 0 rfl) ?_
    refine va_get (D := (dC, dI)) (ci := 9) (v := .int 0) (C := RX9) (T := TX9) (N := 4) hx hb hts inlX9 hown hK hP 0 rfl rfl 1 (by decide) (hts (.fieldLink RX9 15 "ShapeReader$Ways" "size" "I") mw_7_0) (fun _ h9 => h9) rfl dX9_pairAt_6 ?_
    refine lv_icmp_ge (tgt := 26) hx hb dX9_pairAt_9 (by decide) (fun c_2 => ?_) (fun c_2 => False.elim (by have a0 := il_nlt c_1; have a1 := il_nle c_2; have e0 : (0 : Int32).toInt = 0 := (by decide); omega))
    refine lv_iconst (v := (-1)) hx hb dX9_pairAt_26 (by decide) ?_
    have hP9 := hP.sub (ws' := [(h8, .inr (9, [(gw 0), .int 0, .int 0, .int 0]))]) [0] rfl
    have hD9 := hD.sub (ws' := [(h8, .inr (9, [(gw 0), .int 0, .int 0, .int 0]))]) [0] (by decide) rfl
    have hK9 := hK.sub (tys' := []) [] rfl
    refine W.widen (k := 0) (n := 0) (Nat.le_of_ble_eq_true rfl) (Nat.le_of_ble_eq_true rfl) ?_
    exact W.iret (v := (-1)) hx hb hr (fun t ht hW => ⟨⟨(-1), (), rfl, rfl, by rw [ht]; exact hP9, va_K.moved hW.alike hK9, hD9⟩, hS.F ht⟩) hS.2.2 dX9_pairAt_27

set_option maxRecDepth 100000 in
set_option maxHeartbeats 4000000 in
theorem c_kept0 (l : Launch) (dC : Nat → ClassId) (dI : Nat → Nat → Nat) (h0 : Nat) (h8 : Nat) (g : Nat → Value) (gw : Nat → Value) (sz : Nat) : Met l yX10_kept (.code yX10_kept cX10_kept 2 (some .int) :: pw) ({ frames := 0, cells := 0, slots := 0, locals := 0 }) (va_Pc [.ref h0, .int (-1)] (vPre dC dI [(h0, .inr (10, [(g 0), (g 1), (g 2), (g 3), (g 4), (g 5), (g 6), (g 7), .ref h8, (g 9), (g 10), (g 11), (g 12), (g 13), (g 14), (g 15)])), (h8, .inr (9, [(gw 0), .int 0, .int 0, .int 0]))] [] sz)) (va_Qi (fun (r : Int32) (_ : Unit) => r = 0) (fun (_ : Unit) t => vPst dC dI (va_A [(h0, .inr (10, [(g 0), (g 1), (g 2), (g 3), (g 4), (g 5), (g 6), (g 7), .ref h8, (g 9), (g 10), (g 11), (g 12), (g 13), (g 14), (g 15)])), (h8, .inr (9, [(gw 0), .int 0, .int 0, .int 0]))] sz) [(h0, .inr (10, [(g 0), (g 1), (g 2), (g 3), (g 4), (g 5), (g 6), (g 7), .ref h8, (g 9), (g 10), (g 11), (g 12), (g 13), (g 14), (g 15)])), (h8, .inr (9, [(gw 0), .int 0, .int 0, .int 0]))] [] t) (va_A [(h0, .inr (10, [(g 0), (g 1), (g 2), (g 3), (g 4), (g 5), (g 6), (g 7), .ref h8, (g 9), (g 10), (g 11), (g 12), (g 13), (g 14), (g 15)])), (h8, .inr (9, [(gw 0), .int 0, .int 0, .int 0]))] sz)) 0 0 (va_A [(h0, .inr (10, [(g 0), (g 1), (g 2), (g 3), (g 4), (g 5), (g 6), (g 7), .ref h8, (g 9), (g 10), (g 11), (g 12), (g 13), (g 14), (g 15)])), (h8, .inr (9, [(gw 0), .int 0, .int 0, .int 0]))] sz) := by
  refine Met.ofW (cc := cX10_kept) (maxL := 2) (ret := (some .int)) (by decide) rfl ?_
  intro p e s m args below meth c s₁ B hml hv
  obtain ⟨rfl, hsz, hP, hK, hD0⟩ := hv
  have hx := B.exec
  have hb := B.bytes
  have hr := B.returns
  have hts := atoms_spec (ws := .code yX10_kept cX10_kept 2 (some .int) :: pw) B.pre
  have hts : ∀ w ∈ pw, w.before _ s = true := fun w h => hts w (List.mem_cons_of_mem _ h)
  have hown : s.vm.findClass RX10 = some m.cls := findClass_of_methodNamed B.named
  have hlocks := B.notSynchronized
  subst hsz
  have hD := hD0.self (sz := s.heap.size)
  generalize hAe : va_A [(h0, .inr (10, [(g 0), (g 1), (g 2), (g 3), (g 4), (g 5), (g 6), (g 7), .ref h8, (g 9), (g 10), (g 11), (g 12), (g 13), (g 14), (g 15)])), (h8, .inr (9, [(gw 0), .int 0, .int 0, .int 0]))] s.heap.size = A at hD ⊢
  have hA : ∀ q : Nat, s.heap.size ≤ q → A q := fun q h => by rw [← hAe]; exact Or.inr h
  have hS : va_S A s.heap s.heap [] := va_S.rf
  have hP : va_P (dC, dI) vwCl [(h0, .inr (10, [(g 0), (g 1), (g 2), (g 3), (g 4), (g 5), (g 6), (g 7), .ref h8, (g 9), (g 10), (g 11), (g 12), (g 13), (g 14), (g 15)])), (h8, .inr (9, [(gw 0), .int 0, .int 0, .int 0]))] s.heap := hP
  have hl := lv_entry ([.ref h0, .int (-1)]) (n := 2) (Nat.le_of_ble_eq_true rfl)
  rw [lg_entry_eq]
  generalize (lg_sl ([.ref h0, .int (-1)]) ++ List.replicate (2 - (lg_sl ([.ref h0, .int (-1)])).length) Slot.unset).toArray = ls at hl ⊢
  have hl : lv_has ls 2 [(0, .ref h0), (1, .int (-1))] := hl
  refine lv_iload_n hx hb dX10_kept_0 rfl (lv_at hl 1 rfl) ?_
  refine lv_iconst (v := (-1)) hx hb dX10_kept_1 (by decide) ?_
  refine lv_icmp_ne (tgt := 15) hx hb dX10_kept_2 (by decide) (fun h => absurd rfl h) (fun _ => ?_)
  refine lv_aload_n hx hb dX10_kept_5 rfl (lv_at hl 0 rfl) ?_
  refine va_get (D := (dC, dI)) (ci := 10) (v := .ref h8) (C := RX10) (T := TX10) (N := 16) hx hb hts inlX10 hown hK hP 0 rfl rfl 8 (by decide) (hts (.fieldLink RX10 64 "ShapeReader" "ways" "LShapeReader$Ways;") mw_1_18) (fun _ h9 => h9) rfl dX10_kept_6 ?_
  refine va_get (D := (dC, dI)) (ci := 9) (v := .int 0) (C := RX9) (T := TX9) (N := 4) hx hb hts inlX9 hown hK hP 1 rfl rfl 1 (by decide) (hts (.fieldLink RX10 298 "ShapeReader$Ways" "size" "I") mw_3_23) (fun _ h9 => h9) rfl dX10_kept_9 ?_
  refine lv_goto (tgt := 23) hx hb dX10_kept_12 (by decide) ?_
  have hP9 := hP.sub (ws' := [(h0, .inr (10, [(g 0), (g 1), (g 2), (g 3), (g 4), (g 5), (g 6), (g 7), .ref h8, (g 9), (g 10), (g 11), (g 12), (g 13), (g 14), (g 15)])), (h8, .inr (9, [(gw 0), .int 0, .int 0, .int 0]))]) [0, 1] rfl
  have hD9 := hD.sub (ws' := [(h0, .inr (10, [(g 0), (g 1), (g 2), (g 3), (g 4), (g 5), (g 6), (g 7), .ref h8, (g 9), (g 10), (g 11), (g 12), (g 13), (g 14), (g 15)])), (h8, .inr (9, [(gw 0), .int 0, .int 0, .int 0]))]) [0, 1] (by decide) rfl
  have hK9 := hK.sub (tys' := []) [] rfl
  refine W.widen (k := 0) (n := 0) (Nat.le_of_ble_eq_true rfl) (Nat.le_of_ble_eq_true rfl) ?_
  exact W.iret (v := 0) hx hb hr (fun t ht hW => ⟨⟨0, (), rfl, rfl, by rw [ht]; exact hP9, va_K.moved hW.alike hK9, hD9⟩, hS.F ht⟩) hS.2.2 dX10_kept_23

set_option maxRecDepth 100000 in
set_option maxHeartbeats 4000000 in
theorem c_kept1 (l : Launch) (dC : Nat → ClassId) (dI : Nat → Nat → Nat) (h0 : Nat) (h8 : Nat) (g : Nat → Value) (gw : Nat → Value) (p0 : Int32) (hp : ¬ p0 = (-1)) (sz : Nat) : Met l yX10_kept (.code yX10_kept cX10_kept 2 (some .int) :: pw) ({ frames := 1, cells := 0, slots := 0, locals := 21 }) (va_Pc [.ref h0, .int p0] (vPre dC dI [(h0, .inr (10, [(g 0), (g 1), (g 2), (g 3), (g 4), (g 5), (g 6), (g 7), .ref h8, (g 9), (g 10), (g 11), (g 12), (g 13), (g 14), (g 15)])), (h8, .inr (9, [(gw 0), .int 0, .int 0, .int 0]))] [] sz)) (va_Qi (fun (r : Int32) (_ : Unit) => r = (-1)) (fun (_ : Unit) t => vPst dC dI (va_A [(h0, .inr (10, [(g 0), (g 1), (g 2), (g 3), (g 4), (g 5), (g 6), (g 7), .ref h8, (g 9), (g 10), (g 11), (g 12), (g 13), (g 14), (g 15)])), (h8, .inr (9, [(gw 0), .int 0, .int 0, .int 0]))] sz) [(h0, .inr (10, [(g 0), (g 1), (g 2), (g 3), (g 4), (g 5), (g 6), (g 7), .ref h8, (g 9), (g 10), (g 11), (g 12), (g 13), (g 14), (g 15)])), (h8, .inr (9, [(gw 0), .int 0, .int 0, .int 0]))] [] t) (va_A [(h0, .inr (10, [(g 0), (g 1), (g 2), (g 3), (g 4), (g 5), (g 6), (g 7), .ref h8, (g 9), (g 10), (g 11), (g 12), (g 13), (g 14), (g 15)])), (h8, .inr (9, [(gw 0), .int 0, .int 0, .int 0]))] sz)) 0 0 (va_A [(h0, .inr (10, [(g 0), (g 1), (g 2), (g 3), (g 4), (g 5), (g 6), (g 7), .ref h8, (g 9), (g 10), (g 11), (g 12), (g 13), (g 14), (g 15)])), (h8, .inr (9, [(gw 0), .int 0, .int 0, .int 0]))] sz) := by
  refine Met.ofW (cc := cX10_kept) (maxL := 2) (ret := (some .int)) (by decide) rfl ?_
  intro p e s m args below meth c s₁ B hml hv
  obtain ⟨rfl, hsz, hP, hK, hD0⟩ := hv
  have hx := B.exec
  have hb := B.bytes
  have hr := B.returns
  have hts := atoms_spec (ws := .code yX10_kept cX10_kept 2 (some .int) :: pw) B.pre
  have hts : ∀ w ∈ pw, w.before _ s = true := fun w h => hts w (List.mem_cons_of_mem _ h)
  have hown : s.vm.findClass RX10 = some m.cls := findClass_of_methodNamed B.named
  have hlocks := B.notSynchronized
  subst hsz
  have hD := hD0.self (sz := s.heap.size)
  generalize hAe : va_A [(h0, .inr (10, [(g 0), (g 1), (g 2), (g 3), (g 4), (g 5), (g 6), (g 7), .ref h8, (g 9), (g 10), (g 11), (g 12), (g 13), (g 14), (g 15)])), (h8, .inr (9, [(gw 0), .int 0, .int 0, .int 0]))] s.heap.size = A at hD ⊢
  have hA : ∀ q : Nat, s.heap.size ≤ q → A q := fun q h => by rw [← hAe]; exact Or.inr h
  have hS : va_S A s.heap s.heap [] := va_S.rf
  have hP : va_P (dC, dI) vwCl [(h0, .inr (10, [(g 0), (g 1), (g 2), (g 3), (g 4), (g 5), (g 6), (g 7), .ref h8, (g 9), (g 10), (g 11), (g 12), (g 13), (g 14), (g 15)])), (h8, .inr (9, [(gw 0), .int 0, .int 0, .int 0]))] s.heap := hP
  have hl := lv_entry ([.ref h0, .int p0]) (n := 2) (Nat.le_of_ble_eq_true rfl)
  rw [lg_entry_eq]
  generalize (lg_sl ([.ref h0, .int p0]) ++ List.replicate (2 - (lg_sl ([.ref h0, .int p0])).length) Slot.unset).toArray = ls at hl ⊢
  have hl : lv_has ls 2 [(0, .ref h0), (1, .int p0)] := hl
  refine lv_iload_n hx hb dX10_kept_0 rfl (lv_at hl 1 rfl) ?_
  refine lv_iconst (v := (-1)) hx hb dX10_kept_1 (by decide) ?_
  refine lv_icmp_ne (tgt := 15) hx hb dX10_kept_2 (by decide) (fun _ => ?_) (fun c_1 => absurd c_1 hp)
  refine lv_aload_n hx hb dX10_kept_15 rfl (lv_at hl 0 rfl) ?_
  refine va_get (D := (dC, dI)) (ci := 10) (v := .ref h8) (C := RX10) (T := TX10) (N := 16) hx hb hts inlX10 hown hK hP 0 rfl rfl 8 (by decide) (hts (.fieldLink RX10 64 "ShapeReader" "ways" "LShapeReader$Ways;") mw_1_18) (fun _ h9 => h9) rfl dX10_kept_16 ?_
  refine lv_iload_n hx hb dX10_kept_19 rfl (lv_at hl 1 rfl) ?_
  have hPc := hP.sub (ws' := [(h8, .inr (9, [(gw 0), .int 0, .int 0, .int 0]))]) [1] rfl
  have hDc := hD.sub (ws' := [(h8, .inr (9, [(gw 0), .int 0, .int 0, .int 0]))]) [1] (by decide) rfl
  have hKc := hK.sub (tys' := []) [] rfl
  have hFc := va_free (wc := [(h8, .inr (9, [(gw 0), .int 0, .int 0, .int 0]))]) hD hS hA [1] rfl
  refine va_calli (va_runV (As := [.int p0]) (rest := []) ⟨hx, hb, hml, hown, hts⟩ (c_pairAt l dC dI h8 gw p0 s.heap.size) (cwV 1 hts (gV mw_3_24 mw_3_25 mw_3_26 mw_0_13 mw_20_17) rfl rfl rfl (by decide +kernel) ⟨(Nat.le_of_ble_eq_true rfl), (Nat.le_of_ble_eq_true rfl)⟩) (vV (ci := 9) (q0 := 0) hKc hPc hDc rfl rfl) rfl rfl hl.1 rfl (lv_room (Nat.le_of_ble_eq_true rfl)) dX10_kept_20 ⟨(Nat.le_of_ble_eq_true rfl), (Nat.le_of_ble_eq_true rfl)⟩) hS (fun q _ h => hFc q h) hFc (fun r_2 u t H1 locs ht hvm hw hB hz1 hk1 hS => ?_)
  obtain ⟨hP1, hK1, hD1⟩ := hB
  rw [ht] at hP1
  have hK1 := va_K.moved hvm.symm hK1
  obtain ⟨hP, hD⟩ := va_join (wr := [(h0, .inr (10, [(g 0), (g 1), (g 2), (g 3), (g 4), (g 5), (g 6), (g 7), .ref h8, (g 9), (g 10), (g 11), (g 12), (g 13), (g 14), (g 15)]))]) (w1 := [(h8, .inr (9, [(gw 0), .int 0, .int 0, .int 0]))]) hP hD [1] [0] rfl rfl (by decide) (by decide) hk1 hFc hP1 hD1
  clear hPc hDc hKc hP1 hK1 hD1 hFc hk1 hz1
  generalize H1 = H at hP hS ⊢
  have hP : va_P (dC, dI) vwCl [(h0, .inr (10, [(g 0), (g 1), (g 2), (g 3), (g 4), (g 5), (g 6), (g 7), .ref h8, (g 9), (g 10), (g 11), (g 12), (g 13), (g 14), (g 15)])), (h8, .inr (9, [(gw 0), .int 0, .int 0, .int 0]))] H := hP
  have hD : va_D A [(h0, .inr (10, [(g 0), (g 1), (g 2), (g 3), (g 4), (g 5), (g 6), (g 7), .ref h8, (g 9), (g 10), (g 11), (g 12), (g 13), (g 14), (g 15)])), (h8, .inr (9, [(gw 0), .int 0, .int 0, .int 0]))] := hD
  obtain rfl : r_2 = (-1) := hw
  have hP9 := hP.sub (ws' := [(h0, .inr (10, [(g 0), (g 1), (g 2), (g 3), (g 4), (g 5), (g 6), (g 7), .ref h8, (g 9), (g 10), (g 11), (g 12), (g 13), (g 14), (g 15)])), (h8, .inr (9, [(gw 0), .int 0, .int 0, .int 0]))]) [0, 1] rfl
  have hD9 := hD.sub (ws' := [(h0, .inr (10, [(g 0), (g 1), (g 2), (g 3), (g 4), (g 5), (g 6), (g 7), .ref h8, (g 9), (g 10), (g 11), (g 12), (g 13), (g 14), (g 15)])), (h8, .inr (9, [(gw 0), .int 0, .int 0, .int 0]))]) [0, 1] (by decide) rfl
  have hK9 := hK.sub (tys' := []) [] rfl
  refine W.widen (k := 0) (n := 0) (Nat.le_of_ble_eq_true rfl) (Nat.le_of_ble_eq_true rfl) ?_
  exact W.iret (v := (-1)) hx hb hr (fun t ht hW => ⟨⟨(-1), (), rfl, rfl, by rw [ht]; exact hP9, va_K.moved hW.alike hK9, hD9⟩, hS.F ht⟩) hS.2.2 dX10_kept_23

set_option maxRecDepth 100000 in
set_option maxHeartbeats 4000000 in
theorem c_rowAt (l : Launch) (dC : Nat → ClassId) (dI : Nat → Nat → Nat) (h9 : Nat) (gt : Nat → Value) (p0 : Int32) (sz : Nat) : Met l yX7_rowAt (.code yX7_rowAt cX7_rowAt 2 (some .int) :: pw) ({ frames := 0, cells := 0, slots := 0, locals := 0 }) (va_Pc [.ref h9, .int p0] (vPre dC dI [(h9, .inr (7, [(gt 0), .int 0, (gt 2), (gt 3), (gt 4), (gt 5), (gt 6), (gt 7), (gt 8), (gt 9), (gt 10), (gt 11), (gt 12)]))] [] sz)) (va_Qi (fun (r : Int32) (_ : Unit) => r = (-1)) (fun (_ : Unit) t => vPst dC dI (va_A [(h9, .inr (7, [(gt 0), .int 0, (gt 2), (gt 3), (gt 4), (gt 5), (gt 6), (gt 7), (gt 8), (gt 9), (gt 10), (gt 11), (gt 12)]))] sz) [(h9, .inr (7, [(gt 0), .int 0, (gt 2), (gt 3), (gt 4), (gt 5), (gt 6), (gt 7), (gt 8), (gt 9), (gt 10), (gt 11), (gt 12)]))] [] t) (va_A [(h9, .inr (7, [(gt 0), .int 0, (gt 2), (gt 3), (gt 4), (gt 5), (gt 6), (gt 7), (gt 8), (gt 9), (gt 10), (gt 11), (gt 12)]))] sz)) 0 0 (va_A [(h9, .inr (7, [(gt 0), .int 0, (gt 2), (gt 3), (gt 4), (gt 5), (gt 6), (gt 7), (gt 8), (gt 9), (gt 10), (gt 11), (gt 12)]))] sz) := by
  refine Met.ofW (cc := cX7_rowAt) (maxL := 2) (ret := (some .int)) (by decide) rfl ?_
  intro p e s m args below meth c s₁ B hml hv
  obtain ⟨rfl, hsz, hP, hK, hD0⟩ := hv
  have hx := B.exec
  have hb := B.bytes
  have hr := B.returns
  have hts := atoms_spec (ws := .code yX7_rowAt cX7_rowAt 2 (some .int) :: pw) B.pre
  have hts : ∀ w ∈ pw, w.before _ s = true := fun w h => hts w (List.mem_cons_of_mem _ h)
  have hown : s.vm.findClass RX7 = some m.cls := findClass_of_methodNamed B.named
  have hlocks := B.notSynchronized
  subst hsz
  have hD := hD0.self (sz := s.heap.size)
  generalize hAe : va_A [(h9, .inr (7, [(gt 0), .int 0, (gt 2), (gt 3), (gt 4), (gt 5), (gt 6), (gt 7), (gt 8), (gt 9), (gt 10), (gt 11), (gt 12)]))] s.heap.size = A at hD ⊢
  have hA : ∀ q : Nat, s.heap.size ≤ q → A q := fun q h => by rw [← hAe]; exact Or.inr h
  have hS : va_S A s.heap s.heap [] := va_S.rf
  have hP : va_P (dC, dI) vwCl [(h9, .inr (7, [(gt 0), .int 0, (gt 2), (gt 3), (gt 4), (gt 5), (gt 6), (gt 7), (gt 8), (gt 9), (gt 10), (gt 11), (gt 12)]))] s.heap := hP
  have hl := lv_entry ([.ref h9, .int p0]) (n := 2) (Nat.le_of_ble_eq_true rfl)
  rw [lg_entry_eq]
  generalize (lg_sl ([.ref h9, .int p0]) ++ List.replicate (2 - (lg_sl ([.ref h9, .int p0])).length) Slot.unset).toArray = ls at hl ⊢
  have hl : lv_has ls 2 [(0, .ref h9), (1, .int p0)] := hl
  refine lv_iload_n hx hb dX7_rowAt_0 rfl (lv_at hl 1 rfl) ?_
  refine lv_if_lt (tgt := 29) hx hb dX7_rowAt_1 (by decide) (fun c_1 => ?_) (fun c_1 => ?_)
  · refine lv_iconst (v := (-1)) hx hb dX7_rowAt_29 (by decide) ?_
    have hP9 := hP.sub (ws' := [(h9, .inr (7, [(gt 0), .int 0, (gt 2), (gt 3), (gt 4), (gt 5), (gt 6), (gt 7), (gt 8), (gt 9), (gt 10), (gt 11), (gt 12)]))]) [0] rfl
    have hD9 := hD.sub (ws' := [(h9, .inr (7, [(gt 0), .int 0, (gt 2), (gt 3), (gt 4), (gt 5), (gt 6), (gt 7), (gt 8), (gt 9), (gt 10), (gt 11), (gt 12)]))]) [0] (by decide) rfl
    have hK9 := hK.sub (tys' := []) [] rfl
    refine W.widen (k := 0) (n := 0) (Nat.le_of_ble_eq_true rfl) (Nat.le_of_ble_eq_true rfl) ?_
    exact W.iret (v := (-1)) hx hb hr (fun t ht hW => ⟨⟨(-1), (), rfl, rfl, by rw [ht]; exact hP9, va_K.moved hW.alike hK9, hD9⟩, hS.F ht⟩) hS.2.2 dX7_rowAt_30
  · refine lv_iload_n hx hb dX7_rowAt_4 rfl (lv_at hl 1 rfl) ?_
    refine lv_aload_n hx hb dX7_rowAt_5 rfl (lv_at hl 0 rfl) ?_
    refine va_get (D := (dC, dI)) (ci := 7) (v := .int 0) (C := RX7) (T := TX7) (N := 13) hx hb hts inlX7 hown hK hP 0 rfl rfl 1 (by decide) (hts (.fieldLink RX7 9 "ShapeReader$Tree" "size" "I") mw_7_4) (fun _ h9 => h9) rfl dX7_rowAt_6 ?_
    refine lv_icmp_ge (tgt := 29) hx hb dX7_rowAt_9 (by decide) (fun c_2 => ?_) (fun c_2 => False.elim (by have a0 := il_nlt c_1; have a1 := il_nle c_2; have e0 : (0 : Int32).toInt = 0 := (by decide); omega))
    refine lv_iconst (v := (-1)) hx hb dX7_rowAt_29 (by decide) ?_
    have hP9 := hP.sub (ws' := [(h9, .inr (7, [(gt 0), .int 0, (gt 2), (gt 3), (gt 4), (gt 5), (gt 6), (gt 7), (gt 8), (gt 9), (gt 10), (gt 11), (gt 12)]))]) [0] rfl
    have hD9 := hD.sub (ws' := [(h9, .inr (7, [(gt 0), .int 0, (gt 2), (gt 3), (gt 4), (gt 5), (gt 6), (gt 7), (gt 8), (gt 9), (gt 10), (gt 11), (gt 12)]))]) [0] (by decide) rfl
    have hK9 := hK.sub (tys' := []) [] rfl
    refine W.widen (k := 0) (n := 0) (Nat.le_of_ble_eq_true rfl) (Nat.le_of_ble_eq_true rfl) ?_
    exact W.iret (v := (-1)) hx hb hr (fun t ht hW => ⟨⟨(-1), (), rfl, rfl, by rw [ht]; exact hP9, va_K.moved hW.alike hK9, hD9⟩, hS.F ht⟩) hS.2.2 dX7_rowAt_30

set_option maxRecDepth 100000 in
set_option maxHeartbeats 4000000 in
theorem c_writtenBits (l : Launch) (dC : Nat → ClassId) (dI : Nat → Nat → Nat) (h0 : Nat) (h1 : Nat) (cA : ClassId) (g : Nat → Value) (sz : Nat) : Met l yX1_writtenBits (.code yX1_writtenBits cX1_writtenBits 3 (some .int) :: pw) ({ frames := 2, cells := 0, slots := 0, locals := 42 }) (va_Pc [.ref h0] (vPre dC dI [(h0, .inr (1, [(g 0), (g 1), .ref h1])), (h1, .inl (cA, 4, .inl (fun _ => (-1))))] [(cA, .int)] sz)) (va_Qi (fun (r : Int32) (_ : Unit) => r = 0) (fun (_ : Unit) t => vPst dC dI (va_A [(h0, .inr (1, [(g 0), (g 1), .ref h1])), (h1, .inl (cA, 4, .inl (fun _ => (-1))))] sz) [(h0, .inr (1, [(g 0), (g 1), .ref h1])), (h1, .inl (cA, 4, .inl (fun _ => (-1))))] [(cA, .int)] t) (va_A [(h0, .inr (1, [(g 0), (g 1), .ref h1])), (h1, .inl (cA, 4, .inl (fun _ => (-1))))] sz)) 0 0 (va_A [(h0, .inr (1, [(g 0), (g 1), .ref h1])), (h1, .inl (cA, 4, .inl (fun _ => (-1))))] sz) := by
  refine Met.ofW (cc := cX1_writtenBits) (maxL := 3) (ret := (some .int)) (by decide) rfl ?_
  intro p e s m args below meth c s₁ B hml hv
  obtain ⟨rfl, hsz, hP, hK, hD0⟩ := hv
  have hx := B.exec
  have hb := B.bytes
  have hr := B.returns
  have hts := atoms_spec (ws := .code yX1_writtenBits cX1_writtenBits 3 (some .int) :: pw) B.pre
  have hts : ∀ w ∈ pw, w.before _ s = true := fun w h => hts w (List.mem_cons_of_mem _ h)
  have hown : s.vm.findClass RX1 = some m.cls := findClass_of_methodNamed B.named
  have hlocks := B.notSynchronized
  subst hsz
  have hD := hD0.self (sz := s.heap.size)
  generalize hAe : va_A [(h0, .inr (1, [(g 0), (g 1), .ref h1])), (h1, .inl (cA, 4, .inl (fun _ => (-1))))] s.heap.size = A at hD ⊢
  have hA : ∀ q : Nat, s.heap.size ≤ q → A q := fun q h => by rw [← hAe]; exact Or.inr h
  have hS : va_S A s.heap s.heap [] := va_S.rf
  have hP : va_P (dC, dI) vwCl [(h0, .inr (1, [(g 0), (g 1), .ref h1])), (h1, .inl (cA, 4, .inl (fun _ => (-1))))] s.heap := hP
  have hl := lv_entry ([.ref h0]) (n := 3) (Nat.le_of_ble_eq_true rfl)
  rw [lg_entry_eq]
  generalize (lg_sl ([.ref h0]) ++ List.replicate (3 - (lg_sl ([.ref h0])).length) Slot.unset).toArray = ls at hl ⊢
  have hl : lv_has ls 3 [(0, .ref h0)] := hl
  refine lv_iconst (v := 0) hx hb dX1_writtenBits_0 (by decide) ?_
  refine lv_istore_n (lv' := [(1, .int 0), (0, .ref h0)]) hx hb dX1_writtenBits_1 rfl hl (by decide) rfl (fun ls hl => ?_)
  refine lv_iconst (v := 0) hx hb dX1_writtenBits_2 (by decide) ?_
  refine lv_istore_n (lv' := [(2, .int 0), (1, .int 0), (0, .ref h0)]) hx hb dX1_writtenBits_3 rfl hl (by decide) rfl (fun ls hl => ?_)
  refine lv_iload_n hx hb dX1_writtenBits_4 rfl (lv_at hl 0 rfl) ?_
  refine lv_iconst (v := 4) hx hb dX1_writtenBits_5 (by decide) ?_
  refine lv_icmp_ge (tgt := 29) hx hb dX1_writtenBits_6 (by decide) (fun h => absurd h (by decide)) (fun _ => ?_)
  refine lv_aload_n hx hb dX1_writtenBits_9 rfl (lv_at hl 2 rfl) ?_
  refine lv_iload_n hx hb dX1_writtenBits_10 rfl (lv_at hl 0 rfl) ?_
  have hPc := hP.sub (ws' := [(h0, .inr (1, [(g 0), (g 1), .ref h1])), (h1, .inl (cA, 4, .inl (fun _ => (-1))))]) [0, 1] rfl
  have hDc := hD.sub (ws' := [(h0, .inr (1, [(g 0), (g 1), .ref h1])), (h1, .inl (cA, 4, .inl (fun _ => (-1))))]) [0, 1] (by decide) rfl
  have hKc := hK.sub (tys' := [(cA, .int)]) [0] rfl
  have hFc := va_free (wc := [(h0, .inr (1, [(g 0), (g 1), .ref h1])), (h1, .inl (cA, 4, .inl (fun _ => (-1))))]) hD hS hA [0, 1] rfl
  refine va_calli (va_runV (As := [.int 0]) (rest := []) ⟨hx, hb, hml, hown, hts⟩ (c_isWritten l dC dI h0 h1 cA g 0 s.heap.size) (cwV 1 hts (gV mw_6_12 mw_3_9 mw_3_10 mw_0_5 mw_20_12) rfl rfl rfl (by decide +kernel) ⟨(Nat.le_of_ble_eq_true rfl), (Nat.le_of_ble_eq_true rfl)⟩) (vV (ci := 1) (q0 := 0) hKc hPc hDc rfl rfl) rfl rfl hl.1 rfl (lv_room (Nat.le_of_ble_eq_true rfl)) dX1_writtenBits_11 ⟨(Nat.le_of_ble_eq_true rfl), (Nat.le_of_ble_eq_true rfl)⟩) hS (fun q _ h => hFc q h) hFc (fun r_2 u t H1 locs ht hvm hw hB hz1 hk1 hS => ?_)
  obtain ⟨hP1, hK1, hD1⟩ := hB
  rw [ht] at hP1
  have hK1 := va_K.moved hvm.symm hK1
  obtain ⟨hP, hD⟩ := va_join (wr := []) (w1 := [(h0, .inr (1, [(g 0), (g 1), .ref h1])), (h1, .inl (cA, 4, .inl (fun _ => (-1))))]) hP hD [0, 1] [] rfl rfl (by decide) (by decide) hk1 hFc hP1 hD1
  clear hPc hDc hKc hP1 hK1 hD1 hFc hk1 hz1
  generalize H1 = H at hP hS ⊢
  have hP : va_P (dC, dI) vwCl [(h0, .inr (1, [(g 0), (g 1), .ref h1])), (h1, .inl (cA, 4, .inl (fun _ => (-1))))] H := hP
  have hD : va_D A [(h0, .inr (1, [(g 0), (g 1), .ref h1])), (h1, .inl (cA, 4, .inl (fun _ => (-1))))] := hD
  obtain rfl : r_2 = 0 := hw
  refine lv_if_eq (tgt := 23) hx hb dX1_writtenBits_14 (by decide) (fun _ => ?_) (fun h => absurd (by decide) h)
  refine lv_iinc (v := 1) (lv' := [(2, .int 1), (1, .int 0), (0, .ref h0)]) hx hb dX1_writtenBits_23 hl (k := 0) rfl (by decide) (by decide) rfl (fun ls hl => ?_)
  refine lv_goto (tgt := 4) hx hb dX1_writtenBits_26 (by decide) ?_
  refine lv_iload_n hx hb dX1_writtenBits_4 rfl (lv_at hl 0 rfl) ?_
  refine lv_iconst (v := 4) hx hb dX1_writtenBits_5 (by decide) ?_
  refine lv_icmp_ge (tgt := 29) hx hb dX1_writtenBits_6 (by decide) (fun h => absurd h (by decide)) (fun _ => ?_)
  refine lv_aload_n hx hb dX1_writtenBits_9 rfl (lv_at hl 2 rfl) ?_
  refine lv_iload_n hx hb dX1_writtenBits_10 rfl (lv_at hl 0 rfl) ?_
  have hPc := hP.sub (ws' := [(h0, .inr (1, [(g 0), (g 1), .ref h1])), (h1, .inl (cA, 4, .inl (fun _ => (-1))))]) [0, 1] rfl
  have hDc := hD.sub (ws' := [(h0, .inr (1, [(g 0), (g 1), .ref h1])), (h1, .inl (cA, 4, .inl (fun _ => (-1))))]) [0, 1] (by decide) rfl
  have hKc := hK.sub (tys' := [(cA, .int)]) [0] rfl
  have hFc := va_free (wc := [(h0, .inr (1, [(g 0), (g 1), .ref h1])), (h1, .inl (cA, 4, .inl (fun _ => (-1))))]) hD hS hA [0, 1] rfl
  refine va_calli (va_runV (As := [.int 1]) (rest := []) ⟨hx, hb, hml, hown, hts⟩ (c_isWritten l dC dI h0 h1 cA g 1 H.size) (cwV 1 hts (gV mw_6_12 mw_3_9 mw_3_10 mw_0_5 mw_20_12) rfl rfl rfl (by decide +kernel) ⟨(Nat.le_of_ble_eq_true rfl), (Nat.le_of_ble_eq_true rfl)⟩) (vV (ci := 1) (q0 := 0) hKc hPc hDc rfl rfl) rfl rfl hl.1 rfl (lv_room (Nat.le_of_ble_eq_true rfl)) dX1_writtenBits_11 ⟨(Nat.le_of_ble_eq_true rfl), (Nat.le_of_ble_eq_true rfl)⟩) hS (fun q _ h => hFc q h) hFc (fun r_5 u t H1 locs ht hvm hw hB hz1 hk1 hS => ?_)
  obtain ⟨hP1, hK1, hD1⟩ := hB
  rw [ht] at hP1
  have hK1 := va_K.moved hvm.symm hK1
  obtain ⟨hP, hD⟩ := va_join (wr := []) (w1 := [(h0, .inr (1, [(g 0), (g 1), .ref h1])), (h1, .inl (cA, 4, .inl (fun _ => (-1))))]) hP hD [0, 1] [] rfl rfl (by decide) (by decide) hk1 hFc hP1 hD1
  clear hPc hDc hKc hP1 hK1 hD1 hFc hk1 hz1
  generalize H1 = H at hP hS ⊢
  have hP : va_P (dC, dI) vwCl [(h0, .inr (1, [(g 0), (g 1), .ref h1])), (h1, .inl (cA, 4, .inl (fun _ => (-1))))] H := hP
  have hD : va_D A [(h0, .inr (1, [(g 0), (g 1), .ref h1])), (h1, .inl (cA, 4, .inl (fun _ => (-1))))] := hD
  obtain rfl : r_5 = 0 := hw
  refine lv_if_eq (tgt := 23) hx hb dX1_writtenBits_14 (by decide) (fun _ => ?_) (fun h => absurd (by decide) h)
  refine lv_iinc (v := 2) (lv' := [(2, .int 2), (1, .int 0), (0, .ref h0)]) hx hb dX1_writtenBits_23 hl (k := 0) rfl (by decide) (by decide) rfl (fun ls hl => ?_)
  refine lv_goto (tgt := 4) hx hb dX1_writtenBits_26 (by decide) ?_
  refine lv_iload_n hx hb dX1_writtenBits_4 rfl (lv_at hl 0 rfl) ?_
  refine lv_iconst (v := 4) hx hb dX1_writtenBits_5 (by decide) ?_
  refine lv_icmp_ge (tgt := 29) hx hb dX1_writtenBits_6 (by decide) (fun h => absurd h (by decide)) (fun _ => ?_)
  refine lv_aload_n hx hb dX1_writtenBits_9 rfl (lv_at hl 2 rfl) ?_
  refine lv_iload_n hx hb dX1_writtenBits_10 rfl (lv_at hl 0 rfl) ?_
  have hPc := hP.sub (ws' := [(h0, .inr (1, [(g 0), (g 1), .ref h1])), (h1, .inl (cA, 4, .inl (fun _ => (-1))))]) [0, 1] rfl
  have hDc := hD.sub (ws' := [(h0, .inr (1, [(g 0), (g 1), .ref h1])), (h1, .inl (cA, 4, .inl (fun _ => (-1))))]) [0, 1] (by decide) rfl
  have hKc := hK.sub (tys' := [(cA, .int)]) [0] rfl
  have hFc := va_free (wc := [(h0, .inr (1, [(g 0), (g 1), .ref h1])), (h1, .inl (cA, 4, .inl (fun _ => (-1))))]) hD hS hA [0, 1] rfl
  refine va_calli (va_runV (As := [.int 2]) (rest := []) ⟨hx, hb, hml, hown, hts⟩ (c_isWritten l dC dI h0 h1 cA g 2 H.size) (cwV 1 hts (gV mw_6_12 mw_3_9 mw_3_10 mw_0_5 mw_20_12) rfl rfl rfl (by decide +kernel) ⟨(Nat.le_of_ble_eq_true rfl), (Nat.le_of_ble_eq_true rfl)⟩) (vV (ci := 1) (q0 := 0) hKc hPc hDc rfl rfl) rfl rfl hl.1 rfl (lv_room (Nat.le_of_ble_eq_true rfl)) dX1_writtenBits_11 ⟨(Nat.le_of_ble_eq_true rfl), (Nat.le_of_ble_eq_true rfl)⟩) hS (fun q _ h => hFc q h) hFc (fun r_8 u t H1 locs ht hvm hw hB hz1 hk1 hS => ?_)
  obtain ⟨hP1, hK1, hD1⟩ := hB
  rw [ht] at hP1
  have hK1 := va_K.moved hvm.symm hK1
  obtain ⟨hP, hD⟩ := va_join (wr := []) (w1 := [(h0, .inr (1, [(g 0), (g 1), .ref h1])), (h1, .inl (cA, 4, .inl (fun _ => (-1))))]) hP hD [0, 1] [] rfl rfl (by decide) (by decide) hk1 hFc hP1 hD1
  clear hPc hDc hKc hP1 hK1 hD1 hFc hk1 hz1
  generalize H1 = H at hP hS ⊢
  have hP : va_P (dC, dI) vwCl [(h0, .inr (1, [(g 0), (g 1), .ref h1])), (h1, .inl (cA, 4, .inl (fun _ => (-1))))] H := hP
  have hD : va_D A [(h0, .inr (1, [(g 0), (g 1), .ref h1])), (h1, .inl (cA, 4, .inl (fun _ => (-1))))] := hD
  obtain rfl : r_8 = 0 := hw
  refine lv_if_eq (tgt := 23) hx hb dX1_writtenBits_14 (by decide) (fun _ => ?_) (fun h => absurd (by decide) h)
  refine lv_iinc (v := 3) (lv' := [(2, .int 3), (1, .int 0), (0, .ref h0)]) hx hb dX1_writtenBits_23 hl (k := 0) rfl (by decide) (by decide) rfl (fun ls hl => ?_)
  refine lv_goto (tgt := 4) hx hb dX1_writtenBits_26 (by decide) ?_
  refine lv_iload_n hx hb dX1_writtenBits_4 rfl (lv_at hl 0 rfl) ?_
  refine lv_iconst (v := 4) hx hb dX1_writtenBits_5 (by decide) ?_
  refine lv_icmp_ge (tgt := 29) hx hb dX1_writtenBits_6 (by decide) (fun h => absurd h (by decide)) (fun _ => ?_)
  refine lv_aload_n hx hb dX1_writtenBits_9 rfl (lv_at hl 2 rfl) ?_
  refine lv_iload_n hx hb dX1_writtenBits_10 rfl (lv_at hl 0 rfl) ?_
  have hPc := hP.sub (ws' := [(h0, .inr (1, [(g 0), (g 1), .ref h1])), (h1, .inl (cA, 4, .inl (fun _ => (-1))))]) [0, 1] rfl
  have hDc := hD.sub (ws' := [(h0, .inr (1, [(g 0), (g 1), .ref h1])), (h1, .inl (cA, 4, .inl (fun _ => (-1))))]) [0, 1] (by decide) rfl
  have hKc := hK.sub (tys' := [(cA, .int)]) [0] rfl
  have hFc := va_free (wc := [(h0, .inr (1, [(g 0), (g 1), .ref h1])), (h1, .inl (cA, 4, .inl (fun _ => (-1))))]) hD hS hA [0, 1] rfl
  refine va_calli (va_runV (As := [.int 3]) (rest := []) ⟨hx, hb, hml, hown, hts⟩ (c_isWritten l dC dI h0 h1 cA g 3 H.size) (cwV 1 hts (gV mw_6_12 mw_3_9 mw_3_10 mw_0_5 mw_20_12) rfl rfl rfl (by decide +kernel) ⟨(Nat.le_of_ble_eq_true rfl), (Nat.le_of_ble_eq_true rfl)⟩) (vV (ci := 1) (q0 := 0) hKc hPc hDc rfl rfl) rfl rfl hl.1 rfl (lv_room (Nat.le_of_ble_eq_true rfl)) dX1_writtenBits_11 ⟨(Nat.le_of_ble_eq_true rfl), (Nat.le_of_ble_eq_true rfl)⟩) hS (fun q _ h => hFc q h) hFc (fun r_11 u t H1 locs ht hvm hw hB hz1 hk1 hS => ?_)
  obtain ⟨hP1, hK1, hD1⟩ := hB
  rw [ht] at hP1
  have hK1 := va_K.moved hvm.symm hK1
  obtain ⟨hP, hD⟩ := va_join (wr := []) (w1 := [(h0, .inr (1, [(g 0), (g 1), .ref h1])), (h1, .inl (cA, 4, .inl (fun _ => (-1))))]) hP hD [0, 1] [] rfl rfl (by decide) (by decide) hk1 hFc hP1 hD1
  clear hPc hDc hKc hP1 hK1 hD1 hFc hk1 hz1
  generalize H1 = H at hP hS ⊢
  have hP : va_P (dC, dI) vwCl [(h0, .inr (1, [(g 0), (g 1), .ref h1])), (h1, .inl (cA, 4, .inl (fun _ => (-1))))] H := hP
  have hD : va_D A [(h0, .inr (1, [(g 0), (g 1), .ref h1])), (h1, .inl (cA, 4, .inl (fun _ => (-1))))] := hD
  obtain rfl : r_11 = 0 := hw
  refine lv_if_eq (tgt := 23) hx hb dX1_writtenBits_14 (by decide) (fun _ => ?_) (fun h => absurd (by decide) h)
  refine lv_iinc (v := 4) (lv' := [(2, .int 4), (1, .int 0), (0, .ref h0)]) hx hb dX1_writtenBits_23 hl (k := 0) rfl (by decide) (by decide) rfl (fun ls hl => ?_)
  refine lv_goto (tgt := 4) hx hb dX1_writtenBits_26 (by decide) ?_
  refine lv_iload_n hx hb dX1_writtenBits_4 rfl (lv_at hl 0 rfl) ?_
  refine lv_iconst (v := 4) hx hb dX1_writtenBits_5 (by decide) ?_
  refine lv_icmp_ge (tgt := 29) hx hb dX1_writtenBits_6 (by decide) (fun _ => ?_) (fun h => absurd (by decide) h)
  refine lv_iload_n hx hb dX1_writtenBits_29 rfl (lv_at hl 1 rfl) ?_
  have hP9 := hP.sub (ws' := [(h0, .inr (1, [(g 0), (g 1), .ref h1])), (h1, .inl (cA, 4, .inl (fun _ => (-1))))]) [0, 1] rfl
  have hD9 := hD.sub (ws' := [(h0, .inr (1, [(g 0), (g 1), .ref h1])), (h1, .inl (cA, 4, .inl (fun _ => (-1))))]) [0, 1] (by decide) rfl
  have hK9 := hK.sub (tys' := [(cA, .int)]) [0] rfl
  refine W.widen (k := 0) (n := 0) (Nat.le_of_ble_eq_true rfl) (Nat.le_of_ble_eq_true rfl) ?_
  exact W.iret (v := 0) hx hb hr (fun t ht hW => ⟨⟨0, (), rfl, rfl, by rw [ht]; exact hP9, va_K.moved hW.alike hK9, hD9⟩, hS.F ht⟩) hS.2.2 dX1_writtenBits_30

set_option maxRecDepth 100000 in
set_option maxHeartbeats 4000000 in
theorem c_count0 (l : Launch) (dC : Nat → ClassId) (dI : Nat → Nat → Nat) (h0 : Nat) (h3 : Nat) (h6 : Nat) (h7 : Nat) (h8 : Nat) (h9 : Nat) (cA : ClassId) (g : Nat → Value) (ga : Nat → Value) (gm : Nat → Value) (gw : Nat → Value) (gt : Nat → Value) (sz : Nat) : Met l yX10_count (.code yX10_count cX10_count 2 (some .int) :: pw) ({ frames := 0, cells := 0, slots := 0, locals := 0 }) (va_Pc [.ref h0, .int 0] (vPre dC dI [(h0, .inr (10, [(g 0), .int 0, (g 2), .ref h3, (g 4), (g 5), .ref h6, (g 7), .ref h8, .ref h9, (g 10), (g 11), (g 12), (g 13), (g 14), (g 15)])), (h3, .inr (5, [.int 0, (ga 1), (ga 2), (ga 3), (ga 4), (ga 5), (ga 6), (ga 7), (ga 8), (ga 9), (ga 10), (ga 11), (ga 12), (ga 13), (ga 14), (ga 15), (ga 16)])), (h6, .inr (1, [(gm 0), (gm 1), .ref h7])), (h7, .inl (cA, 4, .inl (fun _ => (-1)))), (h8, .inr (9, [(gw 0), .int 0, .int 0, .int 0])), (h9, .inr (7, [(gt 0), .int 0, (gt 2), (gt 3), (gt 4), (gt 5), (gt 6), (gt 7), (gt 8), (gt 9), (gt 10), (gt 11), (gt 12)]))] [(cA, .int)] sz)) (va_Qi (fun (r : Int32) (_ : Unit) => r = 0) (fun (_ : Unit) t => vPst dC dI (va_A [(h0, .inr (10, [(g 0), .int 0, (g 2), .ref h3, (g 4), (g 5), .ref h6, (g 7), .ref h8, .ref h9, (g 10), (g 11), (g 12), (g 13), (g 14), (g 15)])), (h3, .inr (5, [.int 0, (ga 1), (ga 2), (ga 3), (ga 4), (ga 5), (ga 6), (ga 7), (ga 8), (ga 9), (ga 10), (ga 11), (ga 12), (ga 13), (ga 14), (ga 15), (ga 16)])), (h6, .inr (1, [(gm 0), (gm 1), .ref h7])), (h7, .inl (cA, 4, .inl (fun _ => (-1)))), (h8, .inr (9, [(gw 0), .int 0, .int 0, .int 0])), (h9, .inr (7, [(gt 0), .int 0, (gt 2), (gt 3), (gt 4), (gt 5), (gt 6), (gt 7), (gt 8), (gt 9), (gt 10), (gt 11), (gt 12)]))] sz) [(h0, .inr (10, [(g 0), .int 0, (g 2), .ref h3, (g 4), (g 5), .ref h6, (g 7), .ref h8, .ref h9, (g 10), (g 11), (g 12), (g 13), (g 14), (g 15)])), (h3, .inr (5, [.int 0, (ga 1), (ga 2), (ga 3), (ga 4), (ga 5), (ga 6), (ga 7), (ga 8), (ga 9), (ga 10), (ga 11), (ga 12), (ga 13), (ga 14), (ga 15), (ga 16)])), (h6, .inr (1, [(gm 0), (gm 1), .ref h7])), (h7, .inl (cA, 4, .inl (fun _ => (-1)))), (h8, .inr (9, [(gw 0), .int 0, .int 0, .int 0])), (h9, .inr (7, [(gt 0), .int 0, (gt 2), (gt 3), (gt 4), (gt 5), (gt 6), (gt 7), (gt 8), (gt 9), (gt 10), (gt 11), (gt 12)]))] [(cA, .int)] t) (va_A [(h0, .inr (10, [(g 0), .int 0, (g 2), .ref h3, (g 4), (g 5), .ref h6, (g 7), .ref h8, .ref h9, (g 10), (g 11), (g 12), (g 13), (g 14), (g 15)])), (h3, .inr (5, [.int 0, (ga 1), (ga 2), (ga 3), (ga 4), (ga 5), (ga 6), (ga 7), (ga 8), (ga 9), (ga 10), (ga 11), (ga 12), (ga 13), (ga 14), (ga 15), (ga 16)])), (h6, .inr (1, [(gm 0), (gm 1), .ref h7])), (h7, .inl (cA, 4, .inl (fun _ => (-1)))), (h8, .inr (9, [(gw 0), .int 0, .int 0, .int 0])), (h9, .inr (7, [(gt 0), .int 0, (gt 2), (gt 3), (gt 4), (gt 5), (gt 6), (gt 7), (gt 8), (gt 9), (gt 10), (gt 11), (gt 12)]))] sz)) 0 0 (va_A [(h0, .inr (10, [(g 0), .int 0, (g 2), .ref h3, (g 4), (g 5), .ref h6, (g 7), .ref h8, .ref h9, (g 10), (g 11), (g 12), (g 13), (g 14), (g 15)])), (h3, .inr (5, [.int 0, (ga 1), (ga 2), (ga 3), (ga 4), (ga 5), (ga 6), (ga 7), (ga 8), (ga 9), (ga 10), (ga 11), (ga 12), (ga 13), (ga 14), (ga 15), (ga 16)])), (h6, .inr (1, [(gm 0), (gm 1), .ref h7])), (h7, .inl (cA, 4, .inl (fun _ => (-1)))), (h8, .inr (9, [(gw 0), .int 0, .int 0, .int 0])), (h9, .inr (7, [(gt 0), .int 0, (gt 2), (gt 3), (gt 4), (gt 5), (gt 6), (gt 7), (gt 8), (gt 9), (gt 10), (gt 11), (gt 12)]))] sz) := by
  refine Met.ofW (cc := cX10_count) (maxL := 2) (ret := (some .int)) (by decide) rfl ?_
  intro p e s m args below meth c s₁ B hml hv
  obtain ⟨rfl, hsz, hP, hK, hD0⟩ := hv
  have hx := B.exec
  have hb := B.bytes
  have hr := B.returns
  have hts := atoms_spec (ws := .code yX10_count cX10_count 2 (some .int) :: pw) B.pre
  have hts : ∀ w ∈ pw, w.before _ s = true := fun w h => hts w (List.mem_cons_of_mem _ h)
  have hown : s.vm.findClass RX10 = some m.cls := findClass_of_methodNamed B.named
  have hlocks := B.notSynchronized
  subst hsz
  have hD := hD0.self (sz := s.heap.size)
  generalize hAe : va_A [(h0, .inr (10, [(g 0), .int 0, (g 2), .ref h3, (g 4), (g 5), .ref h6, (g 7), .ref h8, .ref h9, (g 10), (g 11), (g 12), (g 13), (g 14), (g 15)])), (h3, .inr (5, [.int 0, (ga 1), (ga 2), (ga 3), (ga 4), (ga 5), (ga 6), (ga 7), (ga 8), (ga 9), (ga 10), (ga 11), (ga 12), (ga 13), (ga 14), (ga 15), (ga 16)])), (h6, .inr (1, [(gm 0), (gm 1), .ref h7])), (h7, .inl (cA, 4, .inl (fun _ => (-1)))), (h8, .inr (9, [(gw 0), .int 0, .int 0, .int 0])), (h9, .inr (7, [(gt 0), .int 0, (gt 2), (gt 3), (gt 4), (gt 5), (gt 6), (gt 7), (gt 8), (gt 9), (gt 10), (gt 11), (gt 12)]))] s.heap.size = A at hD ⊢
  have hA : ∀ q : Nat, s.heap.size ≤ q → A q := fun q h => by rw [← hAe]; exact Or.inr h
  have hS : va_S A s.heap s.heap [] := va_S.rf
  have hP : va_P (dC, dI) vwCl [(h0, .inr (10, [(g 0), .int 0, (g 2), .ref h3, (g 4), (g 5), .ref h6, (g 7), .ref h8, .ref h9, (g 10), (g 11), (g 12), (g 13), (g 14), (g 15)])), (h3, .inr (5, [.int 0, (ga 1), (ga 2), (ga 3), (ga 4), (ga 5), (ga 6), (ga 7), (ga 8), (ga 9), (ga 10), (ga 11), (ga 12), (ga 13), (ga 14), (ga 15), (ga 16)])), (h6, .inr (1, [(gm 0), (gm 1), .ref h7])), (h7, .inl (cA, 4, .inl (fun _ => (-1)))), (h8, .inr (9, [(gw 0), .int 0, .int 0, .int 0])), (h9, .inr (7, [(gt 0), .int 0, (gt 2), (gt 3), (gt 4), (gt 5), (gt 6), (gt 7), (gt 8), (gt 9), (gt 10), (gt 11), (gt 12)]))] s.heap := hP
  have hl := lv_entry ([.ref h0, .int 0]) (n := 2) (Nat.le_of_ble_eq_true rfl)
  rw [lg_entry_eq]
  generalize (lg_sl ([.ref h0, .int 0]) ++ List.replicate (2 - (lg_sl ([.ref h0, .int 0])).length) Slot.unset).toArray = ls at hl ⊢
  have hl : lv_has ls 2 [(0, .ref h0), (1, .int 0)] := hl
  refine lv_iload_n hx hb dX10_count_0 rfl (lv_at hl 1 rfl) ?_
  refine lv_tableIn (off := 39) (tgt := 40) hx hb dX10_count_1 (by decide) (by decide) rfl (by decide) ?_
  refine lv_aload_n hx hb dX10_count_40 rfl (lv_at hl 0 rfl) ?_
  refine va_get (D := (dC, dI)) (ci := 10) (v := .ref h3) (C := RX10) (T := TX10) (N := 16) hx hb hts inlX10 hown hK hP 0 rfl rfl 3 (by decide) (hts (.fieldLink RX10 29 "ShapeReader" "shapes" "LShapeReader$Shapes;") mw_0_28) (fun _ h9 => h9) rfl dX10_count_41 ?_
  refine va_get (D := (dC, dI)) (ci := 5) (v := .int 0) (C := RX5) (T := TX5) (N := 17) hx hb hts inlX5 hown hK hP 1 rfl rfl 0 (by decide) (hts (.fieldLink RX10 137 "ShapeReader$Shapes" "planCount" "I") mw_2_24) (fun _ h9 => h9) rfl dX10_count_44 ?_
  have hP9 := hP.sub (ws' := [(h0, .inr (10, [(g 0), .int 0, (g 2), .ref h3, (g 4), (g 5), .ref h6, (g 7), .ref h8, .ref h9, (g 10), (g 11), (g 12), (g 13), (g 14), (g 15)])), (h3, .inr (5, [.int 0, (ga 1), (ga 2), (ga 3), (ga 4), (ga 5), (ga 6), (ga 7), (ga 8), (ga 9), (ga 10), (ga 11), (ga 12), (ga 13), (ga 14), (ga 15), (ga 16)])), (h6, .inr (1, [(gm 0), (gm 1), .ref h7])), (h7, .inl (cA, 4, .inl (fun _ => (-1)))), (h8, .inr (9, [(gw 0), .int 0, .int 0, .int 0])), (h9, .inr (7, [(gt 0), .int 0, (gt 2), (gt 3), (gt 4), (gt 5), (gt 6), (gt 7), (gt 8), (gt 9), (gt 10), (gt 11), (gt 12)]))]) [0, 1, 2, 3, 4, 5] rfl
  have hD9 := hD.sub (ws' := [(h0, .inr (10, [(g 0), .int 0, (g 2), .ref h3, (g 4), (g 5), .ref h6, (g 7), .ref h8, .ref h9, (g 10), (g 11), (g 12), (g 13), (g 14), (g 15)])), (h3, .inr (5, [.int 0, (ga 1), (ga 2), (ga 3), (ga 4), (ga 5), (ga 6), (ga 7), (ga 8), (ga 9), (ga 10), (ga 11), (ga 12), (ga 13), (ga 14), (ga 15), (ga 16)])), (h6, .inr (1, [(gm 0), (gm 1), .ref h7])), (h7, .inl (cA, 4, .inl (fun _ => (-1)))), (h8, .inr (9, [(gw 0), .int 0, .int 0, .int 0])), (h9, .inr (7, [(gt 0), .int 0, (gt 2), (gt 3), (gt 4), (gt 5), (gt 6), (gt 7), (gt 8), (gt 9), (gt 10), (gt 11), (gt 12)]))]) [0, 1, 2, 3, 4, 5] (by decide) rfl
  have hK9 := hK.sub (tys' := [(cA, .int)]) [0] rfl
  refine W.widen (k := 0) (n := 0) (Nat.le_of_ble_eq_true rfl) (Nat.le_of_ble_eq_true rfl) ?_
  exact W.iret (v := 0) hx hb hr (fun t ht hW => ⟨⟨0, (), rfl, rfl, by rw [ht]; exact hP9, va_K.moved hW.alike hK9, hD9⟩, hS.F ht⟩) hS.2.2 dX10_count_47

set_option maxRecDepth 100000 in
set_option maxHeartbeats 4000000 in
theorem c_count1 (l : Launch) (dC : Nat → ClassId) (dI : Nat → Nat → Nat) (h0 : Nat) (h3 : Nat) (h6 : Nat) (h7 : Nat) (h8 : Nat) (h9 : Nat) (cA : ClassId) (g : Nat → Value) (ga : Nat → Value) (gm : Nat → Value) (gw : Nat → Value) (gt : Nat → Value) (sz : Nat) : Met l yX10_count (.code yX10_count cX10_count 2 (some .int) :: pw) ({ frames := 3, cells := 0, slots := 0, locals := 64 }) (va_Pc [.ref h0, .int 1] (vPre dC dI [(h0, .inr (10, [(g 0), .int 0, (g 2), .ref h3, (g 4), (g 5), .ref h6, (g 7), .ref h8, .ref h9, (g 10), (g 11), (g 12), (g 13), (g 14), (g 15)])), (h3, .inr (5, [.int 0, (ga 1), (ga 2), (ga 3), (ga 4), (ga 5), (ga 6), (ga 7), (ga 8), (ga 9), (ga 10), (ga 11), (ga 12), (ga 13), (ga 14), (ga 15), (ga 16)])), (h6, .inr (1, [(gm 0), (gm 1), .ref h7])), (h7, .inl (cA, 4, .inl (fun _ => (-1)))), (h8, .inr (9, [(gw 0), .int 0, .int 0, .int 0])), (h9, .inr (7, [(gt 0), .int 0, (gt 2), (gt 3), (gt 4), (gt 5), (gt 6), (gt 7), (gt 8), (gt 9), (gt 10), (gt 11), (gt 12)]))] [(cA, .int)] sz)) (va_Qi (fun (r : Int32) (_ : Unit) => r = 0) (fun (_ : Unit) t => vPst dC dI (va_A [(h0, .inr (10, [(g 0), .int 0, (g 2), .ref h3, (g 4), (g 5), .ref h6, (g 7), .ref h8, .ref h9, (g 10), (g 11), (g 12), (g 13), (g 14), (g 15)])), (h3, .inr (5, [.int 0, (ga 1), (ga 2), (ga 3), (ga 4), (ga 5), (ga 6), (ga 7), (ga 8), (ga 9), (ga 10), (ga 11), (ga 12), (ga 13), (ga 14), (ga 15), (ga 16)])), (h6, .inr (1, [(gm 0), (gm 1), .ref h7])), (h7, .inl (cA, 4, .inl (fun _ => (-1)))), (h8, .inr (9, [(gw 0), .int 0, .int 0, .int 0])), (h9, .inr (7, [(gt 0), .int 0, (gt 2), (gt 3), (gt 4), (gt 5), (gt 6), (gt 7), (gt 8), (gt 9), (gt 10), (gt 11), (gt 12)]))] sz) [(h0, .inr (10, [(g 0), .int 0, (g 2), .ref h3, (g 4), (g 5), .ref h6, (g 7), .ref h8, .ref h9, (g 10), (g 11), (g 12), (g 13), (g 14), (g 15)])), (h3, .inr (5, [.int 0, (ga 1), (ga 2), (ga 3), (ga 4), (ga 5), (ga 6), (ga 7), (ga 8), (ga 9), (ga 10), (ga 11), (ga 12), (ga 13), (ga 14), (ga 15), (ga 16)])), (h6, .inr (1, [(gm 0), (gm 1), .ref h7])), (h7, .inl (cA, 4, .inl (fun _ => (-1)))), (h8, .inr (9, [(gw 0), .int 0, .int 0, .int 0])), (h9, .inr (7, [(gt 0), .int 0, (gt 2), (gt 3), (gt 4), (gt 5), (gt 6), (gt 7), (gt 8), (gt 9), (gt 10), (gt 11), (gt 12)]))] [(cA, .int)] t) (va_A [(h0, .inr (10, [(g 0), .int 0, (g 2), .ref h3, (g 4), (g 5), .ref h6, (g 7), .ref h8, .ref h9, (g 10), (g 11), (g 12), (g 13), (g 14), (g 15)])), (h3, .inr (5, [.int 0, (ga 1), (ga 2), (ga 3), (ga 4), (ga 5), (ga 6), (ga 7), (ga 8), (ga 9), (ga 10), (ga 11), (ga 12), (ga 13), (ga 14), (ga 15), (ga 16)])), (h6, .inr (1, [(gm 0), (gm 1), .ref h7])), (h7, .inl (cA, 4, .inl (fun _ => (-1)))), (h8, .inr (9, [(gw 0), .int 0, .int 0, .int 0])), (h9, .inr (7, [(gt 0), .int 0, (gt 2), (gt 3), (gt 4), (gt 5), (gt 6), (gt 7), (gt 8), (gt 9), (gt 10), (gt 11), (gt 12)]))] sz)) 0 0 (va_A [(h0, .inr (10, [(g 0), .int 0, (g 2), .ref h3, (g 4), (g 5), .ref h6, (g 7), .ref h8, .ref h9, (g 10), (g 11), (g 12), (g 13), (g 14), (g 15)])), (h3, .inr (5, [.int 0, (ga 1), (ga 2), (ga 3), (ga 4), (ga 5), (ga 6), (ga 7), (ga 8), (ga 9), (ga 10), (ga 11), (ga 12), (ga 13), (ga 14), (ga 15), (ga 16)])), (h6, .inr (1, [(gm 0), (gm 1), .ref h7])), (h7, .inl (cA, 4, .inl (fun _ => (-1)))), (h8, .inr (9, [(gw 0), .int 0, .int 0, .int 0])), (h9, .inr (7, [(gt 0), .int 0, (gt 2), (gt 3), (gt 4), (gt 5), (gt 6), (gt 7), (gt 8), (gt 9), (gt 10), (gt 11), (gt 12)]))] sz) := by
  refine Met.ofW (cc := cX10_count) (maxL := 2) (ret := (some .int)) (by decide) rfl ?_
  intro p e s m args below meth c s₁ B hml hv
  obtain ⟨rfl, hsz, hP, hK, hD0⟩ := hv
  have hx := B.exec
  have hb := B.bytes
  have hr := B.returns
  have hts := atoms_spec (ws := .code yX10_count cX10_count 2 (some .int) :: pw) B.pre
  have hts : ∀ w ∈ pw, w.before _ s = true := fun w h => hts w (List.mem_cons_of_mem _ h)
  have hown : s.vm.findClass RX10 = some m.cls := findClass_of_methodNamed B.named
  have hlocks := B.notSynchronized
  subst hsz
  have hD := hD0.self (sz := s.heap.size)
  generalize hAe : va_A [(h0, .inr (10, [(g 0), .int 0, (g 2), .ref h3, (g 4), (g 5), .ref h6, (g 7), .ref h8, .ref h9, (g 10), (g 11), (g 12), (g 13), (g 14), (g 15)])), (h3, .inr (5, [.int 0, (ga 1), (ga 2), (ga 3), (ga 4), (ga 5), (ga 6), (ga 7), (ga 8), (ga 9), (ga 10), (ga 11), (ga 12), (ga 13), (ga 14), (ga 15), (ga 16)])), (h6, .inr (1, [(gm 0), (gm 1), .ref h7])), (h7, .inl (cA, 4, .inl (fun _ => (-1)))), (h8, .inr (9, [(gw 0), .int 0, .int 0, .int 0])), (h9, .inr (7, [(gt 0), .int 0, (gt 2), (gt 3), (gt 4), (gt 5), (gt 6), (gt 7), (gt 8), (gt 9), (gt 10), (gt 11), (gt 12)]))] s.heap.size = A at hD ⊢
  have hA : ∀ q : Nat, s.heap.size ≤ q → A q := fun q h => by rw [← hAe]; exact Or.inr h
  have hS : va_S A s.heap s.heap [] := va_S.rf
  have hP : va_P (dC, dI) vwCl [(h0, .inr (10, [(g 0), .int 0, (g 2), .ref h3, (g 4), (g 5), .ref h6, (g 7), .ref h8, .ref h9, (g 10), (g 11), (g 12), (g 13), (g 14), (g 15)])), (h3, .inr (5, [.int 0, (ga 1), (ga 2), (ga 3), (ga 4), (ga 5), (ga 6), (ga 7), (ga 8), (ga 9), (ga 10), (ga 11), (ga 12), (ga 13), (ga 14), (ga 15), (ga 16)])), (h6, .inr (1, [(gm 0), (gm 1), .ref h7])), (h7, .inl (cA, 4, .inl (fun _ => (-1)))), (h8, .inr (9, [(gw 0), .int 0, .int 0, .int 0])), (h9, .inr (7, [(gt 0), .int 0, (gt 2), (gt 3), (gt 4), (gt 5), (gt 6), (gt 7), (gt 8), (gt 9), (gt 10), (gt 11), (gt 12)]))] s.heap := hP
  have hl := lv_entry ([.ref h0, .int 1]) (n := 2) (Nat.le_of_ble_eq_true rfl)
  rw [lg_entry_eq]
  generalize (lg_sl ([.ref h0, .int 1]) ++ List.replicate (2 - (lg_sl ([.ref h0, .int 1])).length) Slot.unset).toArray = ls at hl ⊢
  have hl : lv_has ls 2 [(0, .ref h0), (1, .int 1)] := hl
  refine lv_iload_n hx hb dX10_count_0 rfl (lv_at hl 1 rfl) ?_
  refine lv_tableIn (off := 47) (tgt := 48) hx hb dX10_count_1 (by decide) (by decide) rfl (by decide) ?_
  refine lv_aload_n hx hb dX10_count_48 rfl (lv_at hl 0 rfl) ?_
  refine va_get (D := (dC, dI)) (ci := 10) (v := .ref h6) (C := RX10) (T := TX10) (N := 16) hx hb hts inlX10 hown hK hP 0 rfl rfl 6 (by decide) (hts (.fieldLink RX10 48 "ShapeReader" "messages" "LShapeReader$Messages;") mw_1_9) (fun _ h9 => h9) rfl dX10_count_49 ?_
  have hPc := hP.sub (ws' := [(h6, .inr (1, [(gm 0), (gm 1), .ref h7])), (h7, .inl (cA, 4, .inl (fun _ => (-1))))]) [2, 3] rfl
  have hDc := hD.sub (ws' := [(h6, .inr (1, [(gm 0), (gm 1), .ref h7])), (h7, .inl (cA, 4, .inl (fun _ => (-1))))]) [2, 3] (by decide) rfl
  have hKc := hK.sub (tys' := [(cA, .int)]) [0] rfl
  have hFc := va_free (wc := [(h6, .inr (1, [(gm 0), (gm 1), .ref h7])), (h7, .inl (cA, 4, .inl (fun _ => (-1))))]) hD hS hA [2, 3] rfl
  refine va_calli (va_runV (As := []) (rest := []) ⟨hx, hb, hml, hown, hts⟩ (c_writtenBits l dC dI h6 h7 cA gm s.heap.size) (cwV 0 hts (gV mw_3_27 mw_3_28 mw_3_29 mw_0_5 mw_20_14) rfl rfl rfl (by decide +kernel) ⟨(Nat.le_of_ble_eq_true rfl), (Nat.le_of_ble_eq_true rfl)⟩) (vV (ci := 1) (q0 := 0) hKc hPc hDc rfl rfl) rfl rfl hl.1 rfl (lv_room (Nat.le_of_ble_eq_true rfl)) dX10_count_52 ⟨(Nat.le_of_ble_eq_true rfl), (Nat.le_of_ble_eq_true rfl)⟩) hS (fun q _ h => hFc q h) hFc (fun r_1 u t H1 locs ht hvm hw hB hz1 hk1 hS => ?_)
  obtain ⟨hP1, hK1, hD1⟩ := hB
  rw [ht] at hP1
  have hK1 := va_K.moved hvm.symm hK1
  obtain ⟨hP, hD⟩ := va_join (wr := [(h0, .inr (10, [(g 0), .int 0, (g 2), .ref h3, (g 4), (g 5), .ref h6, (g 7), .ref h8, .ref h9, (g 10), (g 11), (g 12), (g 13), (g 14), (g 15)])), (h3, .inr (5, [.int 0, (ga 1), (ga 2), (ga 3), (ga 4), (ga 5), (ga 6), (ga 7), (ga 8), (ga 9), (ga 10), (ga 11), (ga 12), (ga 13), (ga 14), (ga 15), (ga 16)])), (h8, .inr (9, [(gw 0), .int 0, .int 0, .int 0])), (h9, .inr (7, [(gt 0), .int 0, (gt 2), (gt 3), (gt 4), (gt 5), (gt 6), (gt 7), (gt 8), (gt 9), (gt 10), (gt 11), (gt 12)]))]) (w1 := [(h6, .inr (1, [(gm 0), (gm 1), .ref h7])), (h7, .inl (cA, 4, .inl (fun _ => (-1))))]) hP hD [2, 3] [0, 1, 4, 5] rfl rfl (by decide) (by decide) hk1 hFc hP1 hD1
  clear hPc hDc hKc hP1 hK1 hD1 hFc hk1 hz1
  generalize H1 = H at hP hS ⊢
  have hP : va_P (dC, dI) vwCl [(h0, .inr (10, [(g 0), .int 0, (g 2), .ref h3, (g 4), (g 5), .ref h6, (g 7), .ref h8, .ref h9, (g 10), (g 11), (g 12), (g 13), (g 14), (g 15)])), (h3, .inr (5, [.int 0, (ga 1), (ga 2), (ga 3), (ga 4), (ga 5), (ga 6), (ga 7), (ga 8), (ga 9), (ga 10), (ga 11), (ga 12), (ga 13), (ga 14), (ga 15), (ga 16)])), (h8, .inr (9, [(gw 0), .int 0, .int 0, .int 0])), (h9, .inr (7, [(gt 0), .int 0, (gt 2), (gt 3), (gt 4), (gt 5), (gt 6), (gt 7), (gt 8), (gt 9), (gt 10), (gt 11), (gt 12)])), (h6, .inr (1, [(gm 0), (gm 1), .ref h7])), (h7, .inl (cA, 4, .inl (fun _ => (-1))))] H := hP
  have hD : va_D A [(h0, .inr (10, [(g 0), .int 0, (g 2), .ref h3, (g 4), (g 5), .ref h6, (g 7), .ref h8, .ref h9, (g 10), (g 11), (g 12), (g 13), (g 14), (g 15)])), (h3, .inr (5, [.int 0, (ga 1), (ga 2), (ga 3), (ga 4), (ga 5), (ga 6), (ga 7), (ga 8), (ga 9), (ga 10), (ga 11), (ga 12), (ga 13), (ga 14), (ga 15), (ga 16)])), (h8, .inr (9, [(gw 0), .int 0, .int 0, .int 0])), (h9, .inr (7, [(gt 0), .int 0, (gt 2), (gt 3), (gt 4), (gt 5), (gt 6), (gt 7), (gt 8), (gt 9), (gt 10), (gt 11), (gt 12)])), (h6, .inr (1, [(gm 0), (gm 1), .ref h7])), (h7, .inl (cA, 4, .inl (fun _ => (-1))))] := hD
  obtain rfl : r_1 = 0 := hw
  have hP9 := hP.sub (ws' := [(h0, .inr (10, [(g 0), .int 0, (g 2), .ref h3, (g 4), (g 5), .ref h6, (g 7), .ref h8, .ref h9, (g 10), (g 11), (g 12), (g 13), (g 14), (g 15)])), (h3, .inr (5, [.int 0, (ga 1), (ga 2), (ga 3), (ga 4), (ga 5), (ga 6), (ga 7), (ga 8), (ga 9), (ga 10), (ga 11), (ga 12), (ga 13), (ga 14), (ga 15), (ga 16)])), (h6, .inr (1, [(gm 0), (gm 1), .ref h7])), (h7, .inl (cA, 4, .inl (fun _ => (-1)))), (h8, .inr (9, [(gw 0), .int 0, .int 0, .int 0])), (h9, .inr (7, [(gt 0), .int 0, (gt 2), (gt 3), (gt 4), (gt 5), (gt 6), (gt 7), (gt 8), (gt 9), (gt 10), (gt 11), (gt 12)]))]) [0, 1, 4, 5, 2, 3] rfl
  have hD9 := hD.sub (ws' := [(h0, .inr (10, [(g 0), .int 0, (g 2), .ref h3, (g 4), (g 5), .ref h6, (g 7), .ref h8, .ref h9, (g 10), (g 11), (g 12), (g 13), (g 14), (g 15)])), (h3, .inr (5, [.int 0, (ga 1), (ga 2), (ga 3), (ga 4), (ga 5), (ga 6), (ga 7), (ga 8), (ga 9), (ga 10), (ga 11), (ga 12), (ga 13), (ga 14), (ga 15), (ga 16)])), (h6, .inr (1, [(gm 0), (gm 1), .ref h7])), (h7, .inl (cA, 4, .inl (fun _ => (-1)))), (h8, .inr (9, [(gw 0), .int 0, .int 0, .int 0])), (h9, .inr (7, [(gt 0), .int 0, (gt 2), (gt 3), (gt 4), (gt 5), (gt 6), (gt 7), (gt 8), (gt 9), (gt 10), (gt 11), (gt 12)]))]) [0, 1, 4, 5, 2, 3] (by decide) rfl
  have hK9 := hK.sub (tys' := [(cA, .int)]) [0] rfl
  refine W.widen (k := 0) (n := 0) (Nat.le_of_ble_eq_true rfl) (Nat.le_of_ble_eq_true rfl) ?_
  exact W.iret (v := 0) hx hb hr (fun t ht hW => ⟨⟨0, (), rfl, rfl, by rw [ht]; exact hP9, va_K.moved hW.alike hK9, hD9⟩, hS.F ht⟩) hS.2.2 dX10_count_55

set_option maxRecDepth 100000 in
set_option maxHeartbeats 4000000 in
theorem c_count2 (l : Launch) (dC : Nat → ClassId) (dI : Nat → Nat → Nat) (h0 : Nat) (h3 : Nat) (h6 : Nat) (h7 : Nat) (h8 : Nat) (h9 : Nat) (cA : ClassId) (g : Nat → Value) (ga : Nat → Value) (gm : Nat → Value) (gw : Nat → Value) (gt : Nat → Value) (sz : Nat) : Met l yX10_count (.code yX10_count cX10_count 2 (some .int) :: pw) ({ frames := 0, cells := 0, slots := 0, locals := 0 }) (va_Pc [.ref h0, .int 2] (vPre dC dI [(h0, .inr (10, [(g 0), .int 0, (g 2), .ref h3, (g 4), (g 5), .ref h6, (g 7), .ref h8, .ref h9, (g 10), (g 11), (g 12), (g 13), (g 14), (g 15)])), (h3, .inr (5, [.int 0, (ga 1), (ga 2), (ga 3), (ga 4), (ga 5), (ga 6), (ga 7), (ga 8), (ga 9), (ga 10), (ga 11), (ga 12), (ga 13), (ga 14), (ga 15), (ga 16)])), (h6, .inr (1, [(gm 0), (gm 1), .ref h7])), (h7, .inl (cA, 4, .inl (fun _ => (-1)))), (h8, .inr (9, [(gw 0), .int 0, .int 0, .int 0])), (h9, .inr (7, [(gt 0), .int 0, (gt 2), (gt 3), (gt 4), (gt 5), (gt 6), (gt 7), (gt 8), (gt 9), (gt 10), (gt 11), (gt 12)]))] [(cA, .int)] sz)) (va_Qi (fun (r : Int32) (_ : Unit) => r = 0) (fun (_ : Unit) t => vPst dC dI (va_A [(h0, .inr (10, [(g 0), .int 0, (g 2), .ref h3, (g 4), (g 5), .ref h6, (g 7), .ref h8, .ref h9, (g 10), (g 11), (g 12), (g 13), (g 14), (g 15)])), (h3, .inr (5, [.int 0, (ga 1), (ga 2), (ga 3), (ga 4), (ga 5), (ga 6), (ga 7), (ga 8), (ga 9), (ga 10), (ga 11), (ga 12), (ga 13), (ga 14), (ga 15), (ga 16)])), (h6, .inr (1, [(gm 0), (gm 1), .ref h7])), (h7, .inl (cA, 4, .inl (fun _ => (-1)))), (h8, .inr (9, [(gw 0), .int 0, .int 0, .int 0])), (h9, .inr (7, [(gt 0), .int 0, (gt 2), (gt 3), (gt 4), (gt 5), (gt 6), (gt 7), (gt 8), (gt 9), (gt 10), (gt 11), (gt 12)]))] sz) [(h0, .inr (10, [(g 0), .int 0, (g 2), .ref h3, (g 4), (g 5), .ref h6, (g 7), .ref h8, .ref h9, (g 10), (g 11), (g 12), (g 13), (g 14), (g 15)])), (h3, .inr (5, [.int 0, (ga 1), (ga 2), (ga 3), (ga 4), (ga 5), (ga 6), (ga 7), (ga 8), (ga 9), (ga 10), (ga 11), (ga 12), (ga 13), (ga 14), (ga 15), (ga 16)])), (h6, .inr (1, [(gm 0), (gm 1), .ref h7])), (h7, .inl (cA, 4, .inl (fun _ => (-1)))), (h8, .inr (9, [(gw 0), .int 0, .int 0, .int 0])), (h9, .inr (7, [(gt 0), .int 0, (gt 2), (gt 3), (gt 4), (gt 5), (gt 6), (gt 7), (gt 8), (gt 9), (gt 10), (gt 11), (gt 12)]))] [(cA, .int)] t) (va_A [(h0, .inr (10, [(g 0), .int 0, (g 2), .ref h3, (g 4), (g 5), .ref h6, (g 7), .ref h8, .ref h9, (g 10), (g 11), (g 12), (g 13), (g 14), (g 15)])), (h3, .inr (5, [.int 0, (ga 1), (ga 2), (ga 3), (ga 4), (ga 5), (ga 6), (ga 7), (ga 8), (ga 9), (ga 10), (ga 11), (ga 12), (ga 13), (ga 14), (ga 15), (ga 16)])), (h6, .inr (1, [(gm 0), (gm 1), .ref h7])), (h7, .inl (cA, 4, .inl (fun _ => (-1)))), (h8, .inr (9, [(gw 0), .int 0, .int 0, .int 0])), (h9, .inr (7, [(gt 0), .int 0, (gt 2), (gt 3), (gt 4), (gt 5), (gt 6), (gt 7), (gt 8), (gt 9), (gt 10), (gt 11), (gt 12)]))] sz)) 0 0 (va_A [(h0, .inr (10, [(g 0), .int 0, (g 2), .ref h3, (g 4), (g 5), .ref h6, (g 7), .ref h8, .ref h9, (g 10), (g 11), (g 12), (g 13), (g 14), (g 15)])), (h3, .inr (5, [.int 0, (ga 1), (ga 2), (ga 3), (ga 4), (ga 5), (ga 6), (ga 7), (ga 8), (ga 9), (ga 10), (ga 11), (ga 12), (ga 13), (ga 14), (ga 15), (ga 16)])), (h6, .inr (1, [(gm 0), (gm 1), .ref h7])), (h7, .inl (cA, 4, .inl (fun _ => (-1)))), (h8, .inr (9, [(gw 0), .int 0, .int 0, .int 0])), (h9, .inr (7, [(gt 0), .int 0, (gt 2), (gt 3), (gt 4), (gt 5), (gt 6), (gt 7), (gt 8), (gt 9), (gt 10), (gt 11), (gt 12)]))] sz) := by
  refine Met.ofW (cc := cX10_count) (maxL := 2) (ret := (some .int)) (by decide) rfl ?_
  intro p e s m args below meth c s₁ B hml hv
  obtain ⟨rfl, hsz, hP, hK, hD0⟩ := hv
  have hx := B.exec
  have hb := B.bytes
  have hr := B.returns
  have hts := atoms_spec (ws := .code yX10_count cX10_count 2 (some .int) :: pw) B.pre
  have hts : ∀ w ∈ pw, w.before _ s = true := fun w h => hts w (List.mem_cons_of_mem _ h)
  have hown : s.vm.findClass RX10 = some m.cls := findClass_of_methodNamed B.named
  have hlocks := B.notSynchronized
  subst hsz
  have hD := hD0.self (sz := s.heap.size)
  generalize hAe : va_A [(h0, .inr (10, [(g 0), .int 0, (g 2), .ref h3, (g 4), (g 5), .ref h6, (g 7), .ref h8, .ref h9, (g 10), (g 11), (g 12), (g 13), (g 14), (g 15)])), (h3, .inr (5, [.int 0, (ga 1), (ga 2), (ga 3), (ga 4), (ga 5), (ga 6), (ga 7), (ga 8), (ga 9), (ga 10), (ga 11), (ga 12), (ga 13), (ga 14), (ga 15), (ga 16)])), (h6, .inr (1, [(gm 0), (gm 1), .ref h7])), (h7, .inl (cA, 4, .inl (fun _ => (-1)))), (h8, .inr (9, [(gw 0), .int 0, .int 0, .int 0])), (h9, .inr (7, [(gt 0), .int 0, (gt 2), (gt 3), (gt 4), (gt 5), (gt 6), (gt 7), (gt 8), (gt 9), (gt 10), (gt 11), (gt 12)]))] s.heap.size = A at hD ⊢
  have hA : ∀ q : Nat, s.heap.size ≤ q → A q := fun q h => by rw [← hAe]; exact Or.inr h
  have hS : va_S A s.heap s.heap [] := va_S.rf
  have hP : va_P (dC, dI) vwCl [(h0, .inr (10, [(g 0), .int 0, (g 2), .ref h3, (g 4), (g 5), .ref h6, (g 7), .ref h8, .ref h9, (g 10), (g 11), (g 12), (g 13), (g 14), (g 15)])), (h3, .inr (5, [.int 0, (ga 1), (ga 2), (ga 3), (ga 4), (ga 5), (ga 6), (ga 7), (ga 8), (ga 9), (ga 10), (ga 11), (ga 12), (ga 13), (ga 14), (ga 15), (ga 16)])), (h6, .inr (1, [(gm 0), (gm 1), .ref h7])), (h7, .inl (cA, 4, .inl (fun _ => (-1)))), (h8, .inr (9, [(gw 0), .int 0, .int 0, .int 0])), (h9, .inr (7, [(gt 0), .int 0, (gt 2), (gt 3), (gt 4), (gt 5), (gt 6), (gt 7), (gt 8), (gt 9), (gt 10), (gt 11), (gt 12)]))] s.heap := hP
  have hl := lv_entry ([.ref h0, .int 2]) (n := 2) (Nat.le_of_ble_eq_true rfl)
  rw [lg_entry_eq]
  generalize (lg_sl ([.ref h0, .int 2]) ++ List.replicate (2 - (lg_sl ([.ref h0, .int 2])).length) Slot.unset).toArray = ls at hl ⊢
  have hl : lv_has ls 2 [(0, .ref h0), (1, .int 2)] := hl
  refine lv_iload_n hx hb dX10_count_0 rfl (lv_at hl 1 rfl) ?_
  refine lv_tableIn (off := 55) (tgt := 56) hx hb dX10_count_1 (by decide) (by decide) rfl (by decide) ?_
  refine lv_aload_n hx hb dX10_count_56 rfl (lv_at hl 0 rfl) ?_
  refine va_get (D := (dC, dI)) (ci := 10) (v := .ref h9) (C := RX10) (T := TX10) (N := 16) hx hb hts inlX10 hown hK hP 0 rfl rfl 9 (by decide) (hts (.fieldLink RX10 73 "ShapeReader" "shown" "LShapeReader$Tree;") mw_1_23) (fun _ h9 => h9) rfl dX10_count_57 ?_
  refine va_get (D := (dC, dI)) (ci := 7) (v := .int 0) (C := RX7) (T := TX7) (N := 13) hx hb hts inlX7 hown hK hP 5 rfl rfl 1 (by decide) (hts (.fieldLink RX10 305 "ShapeReader$Tree" "size" "I") mw_4_0) (fun _ h9 => h9) rfl dX10_count_60 ?_
  have hP9 := hP.sub (ws' := [(h0, .inr (10, [(g 0), .int 0, (g 2), .ref h3, (g 4), (g 5), .ref h6, (g 7), .ref h8, .ref h9, (g 10), (g 11), (g 12), (g 13), (g 14), (g 15)])), (h3, .inr (5, [.int 0, (ga 1), (ga 2), (ga 3), (ga 4), (ga 5), (ga 6), (ga 7), (ga 8), (ga 9), (ga 10), (ga 11), (ga 12), (ga 13), (ga 14), (ga 15), (ga 16)])), (h6, .inr (1, [(gm 0), (gm 1), .ref h7])), (h7, .inl (cA, 4, .inl (fun _ => (-1)))), (h8, .inr (9, [(gw 0), .int 0, .int 0, .int 0])), (h9, .inr (7, [(gt 0), .int 0, (gt 2), (gt 3), (gt 4), (gt 5), (gt 6), (gt 7), (gt 8), (gt 9), (gt 10), (gt 11), (gt 12)]))]) [0, 1, 2, 3, 4, 5] rfl
  have hD9 := hD.sub (ws' := [(h0, .inr (10, [(g 0), .int 0, (g 2), .ref h3, (g 4), (g 5), .ref h6, (g 7), .ref h8, .ref h9, (g 10), (g 11), (g 12), (g 13), (g 14), (g 15)])), (h3, .inr (5, [.int 0, (ga 1), (ga 2), (ga 3), (ga 4), (ga 5), (ga 6), (ga 7), (ga 8), (ga 9), (ga 10), (ga 11), (ga 12), (ga 13), (ga 14), (ga 15), (ga 16)])), (h6, .inr (1, [(gm 0), (gm 1), .ref h7])), (h7, .inl (cA, 4, .inl (fun _ => (-1)))), (h8, .inr (9, [(gw 0), .int 0, .int 0, .int 0])), (h9, .inr (7, [(gt 0), .int 0, (gt 2), (gt 3), (gt 4), (gt 5), (gt 6), (gt 7), (gt 8), (gt 9), (gt 10), (gt 11), (gt 12)]))]) [0, 1, 2, 3, 4, 5] (by decide) rfl
  have hK9 := hK.sub (tys' := [(cA, .int)]) [0] rfl
  refine W.widen (k := 0) (n := 0) (Nat.le_of_ble_eq_true rfl) (Nat.le_of_ble_eq_true rfl) ?_
  exact W.iret (v := 0) hx hb hr (fun t ht hW => ⟨⟨0, (), rfl, rfl, by rw [ht]; exact hP9, va_K.moved hW.alike hK9, hD9⟩, hS.F ht⟩) hS.2.2 dX10_count_63

set_option maxRecDepth 100000 in
set_option maxHeartbeats 4000000 in
theorem c_count3 (l : Launch) (dC : Nat → ClassId) (dI : Nat → Nat → Nat) (h0 : Nat) (h3 : Nat) (h6 : Nat) (h7 : Nat) (h8 : Nat) (h9 : Nat) (cA : ClassId) (g : Nat → Value) (ga : Nat → Value) (gm : Nat → Value) (gw : Nat → Value) (gt : Nat → Value) (sz : Nat) : Met l yX10_count (.code yX10_count cX10_count 2 (some .int) :: pw) ({ frames := 0, cells := 0, slots := 0, locals := 0 }) (va_Pc [.ref h0, .int 3] (vPre dC dI [(h0, .inr (10, [(g 0), .int 0, (g 2), .ref h3, (g 4), (g 5), .ref h6, (g 7), .ref h8, .ref h9, (g 10), (g 11), (g 12), (g 13), (g 14), (g 15)])), (h3, .inr (5, [.int 0, (ga 1), (ga 2), (ga 3), (ga 4), (ga 5), (ga 6), (ga 7), (ga 8), (ga 9), (ga 10), (ga 11), (ga 12), (ga 13), (ga 14), (ga 15), (ga 16)])), (h6, .inr (1, [(gm 0), (gm 1), .ref h7])), (h7, .inl (cA, 4, .inl (fun _ => (-1)))), (h8, .inr (9, [(gw 0), .int 0, .int 0, .int 0])), (h9, .inr (7, [(gt 0), .int 0, (gt 2), (gt 3), (gt 4), (gt 5), (gt 6), (gt 7), (gt 8), (gt 9), (gt 10), (gt 11), (gt 12)]))] [(cA, .int)] sz)) (va_Qi (fun (r : Int32) (_ : Unit) => r = 0) (fun (_ : Unit) t => vPst dC dI (va_A [(h0, .inr (10, [(g 0), .int 0, (g 2), .ref h3, (g 4), (g 5), .ref h6, (g 7), .ref h8, .ref h9, (g 10), (g 11), (g 12), (g 13), (g 14), (g 15)])), (h3, .inr (5, [.int 0, (ga 1), (ga 2), (ga 3), (ga 4), (ga 5), (ga 6), (ga 7), (ga 8), (ga 9), (ga 10), (ga 11), (ga 12), (ga 13), (ga 14), (ga 15), (ga 16)])), (h6, .inr (1, [(gm 0), (gm 1), .ref h7])), (h7, .inl (cA, 4, .inl (fun _ => (-1)))), (h8, .inr (9, [(gw 0), .int 0, .int 0, .int 0])), (h9, .inr (7, [(gt 0), .int 0, (gt 2), (gt 3), (gt 4), (gt 5), (gt 6), (gt 7), (gt 8), (gt 9), (gt 10), (gt 11), (gt 12)]))] sz) [(h0, .inr (10, [(g 0), .int 0, (g 2), .ref h3, (g 4), (g 5), .ref h6, (g 7), .ref h8, .ref h9, (g 10), (g 11), (g 12), (g 13), (g 14), (g 15)])), (h3, .inr (5, [.int 0, (ga 1), (ga 2), (ga 3), (ga 4), (ga 5), (ga 6), (ga 7), (ga 8), (ga 9), (ga 10), (ga 11), (ga 12), (ga 13), (ga 14), (ga 15), (ga 16)])), (h6, .inr (1, [(gm 0), (gm 1), .ref h7])), (h7, .inl (cA, 4, .inl (fun _ => (-1)))), (h8, .inr (9, [(gw 0), .int 0, .int 0, .int 0])), (h9, .inr (7, [(gt 0), .int 0, (gt 2), (gt 3), (gt 4), (gt 5), (gt 6), (gt 7), (gt 8), (gt 9), (gt 10), (gt 11), (gt 12)]))] [(cA, .int)] t) (va_A [(h0, .inr (10, [(g 0), .int 0, (g 2), .ref h3, (g 4), (g 5), .ref h6, (g 7), .ref h8, .ref h9, (g 10), (g 11), (g 12), (g 13), (g 14), (g 15)])), (h3, .inr (5, [.int 0, (ga 1), (ga 2), (ga 3), (ga 4), (ga 5), (ga 6), (ga 7), (ga 8), (ga 9), (ga 10), (ga 11), (ga 12), (ga 13), (ga 14), (ga 15), (ga 16)])), (h6, .inr (1, [(gm 0), (gm 1), .ref h7])), (h7, .inl (cA, 4, .inl (fun _ => (-1)))), (h8, .inr (9, [(gw 0), .int 0, .int 0, .int 0])), (h9, .inr (7, [(gt 0), .int 0, (gt 2), (gt 3), (gt 4), (gt 5), (gt 6), (gt 7), (gt 8), (gt 9), (gt 10), (gt 11), (gt 12)]))] sz)) 0 0 (va_A [(h0, .inr (10, [(g 0), .int 0, (g 2), .ref h3, (g 4), (g 5), .ref h6, (g 7), .ref h8, .ref h9, (g 10), (g 11), (g 12), (g 13), (g 14), (g 15)])), (h3, .inr (5, [.int 0, (ga 1), (ga 2), (ga 3), (ga 4), (ga 5), (ga 6), (ga 7), (ga 8), (ga 9), (ga 10), (ga 11), (ga 12), (ga 13), (ga 14), (ga 15), (ga 16)])), (h6, .inr (1, [(gm 0), (gm 1), .ref h7])), (h7, .inl (cA, 4, .inl (fun _ => (-1)))), (h8, .inr (9, [(gw 0), .int 0, .int 0, .int 0])), (h9, .inr (7, [(gt 0), .int 0, (gt 2), (gt 3), (gt 4), (gt 5), (gt 6), (gt 7), (gt 8), (gt 9), (gt 10), (gt 11), (gt 12)]))] sz) := by
  refine Met.ofW (cc := cX10_count) (maxL := 2) (ret := (some .int)) (by decide) rfl ?_
  intro p e s m args below meth c s₁ B hml hv
  obtain ⟨rfl, hsz, hP, hK, hD0⟩ := hv
  have hx := B.exec
  have hb := B.bytes
  have hr := B.returns
  have hts := atoms_spec (ws := .code yX10_count cX10_count 2 (some .int) :: pw) B.pre
  have hts : ∀ w ∈ pw, w.before _ s = true := fun w h => hts w (List.mem_cons_of_mem _ h)
  have hown : s.vm.findClass RX10 = some m.cls := findClass_of_methodNamed B.named
  have hlocks := B.notSynchronized
  subst hsz
  have hD := hD0.self (sz := s.heap.size)
  generalize hAe : va_A [(h0, .inr (10, [(g 0), .int 0, (g 2), .ref h3, (g 4), (g 5), .ref h6, (g 7), .ref h8, .ref h9, (g 10), (g 11), (g 12), (g 13), (g 14), (g 15)])), (h3, .inr (5, [.int 0, (ga 1), (ga 2), (ga 3), (ga 4), (ga 5), (ga 6), (ga 7), (ga 8), (ga 9), (ga 10), (ga 11), (ga 12), (ga 13), (ga 14), (ga 15), (ga 16)])), (h6, .inr (1, [(gm 0), (gm 1), .ref h7])), (h7, .inl (cA, 4, .inl (fun _ => (-1)))), (h8, .inr (9, [(gw 0), .int 0, .int 0, .int 0])), (h9, .inr (7, [(gt 0), .int 0, (gt 2), (gt 3), (gt 4), (gt 5), (gt 6), (gt 7), (gt 8), (gt 9), (gt 10), (gt 11), (gt 12)]))] s.heap.size = A at hD ⊢
  have hA : ∀ q : Nat, s.heap.size ≤ q → A q := fun q h => by rw [← hAe]; exact Or.inr h
  have hS : va_S A s.heap s.heap [] := va_S.rf
  have hP : va_P (dC, dI) vwCl [(h0, .inr (10, [(g 0), .int 0, (g 2), .ref h3, (g 4), (g 5), .ref h6, (g 7), .ref h8, .ref h9, (g 10), (g 11), (g 12), (g 13), (g 14), (g 15)])), (h3, .inr (5, [.int 0, (ga 1), (ga 2), (ga 3), (ga 4), (ga 5), (ga 6), (ga 7), (ga 8), (ga 9), (ga 10), (ga 11), (ga 12), (ga 13), (ga 14), (ga 15), (ga 16)])), (h6, .inr (1, [(gm 0), (gm 1), .ref h7])), (h7, .inl (cA, 4, .inl (fun _ => (-1)))), (h8, .inr (9, [(gw 0), .int 0, .int 0, .int 0])), (h9, .inr (7, [(gt 0), .int 0, (gt 2), (gt 3), (gt 4), (gt 5), (gt 6), (gt 7), (gt 8), (gt 9), (gt 10), (gt 11), (gt 12)]))] s.heap := hP
  have hl := lv_entry ([.ref h0, .int 3]) (n := 2) (Nat.le_of_ble_eq_true rfl)
  rw [lg_entry_eq]
  generalize (lg_sl ([.ref h0, .int 3]) ++ List.replicate (2 - (lg_sl ([.ref h0, .int 3])).length) Slot.unset).toArray = ls at hl ⊢
  have hl : lv_has ls 2 [(0, .ref h0), (1, .int 3)] := hl
  refine lv_iload_n hx hb dX10_count_0 rfl (lv_at hl 1 rfl) ?_
  refine lv_tableIn (off := 63) (tgt := 64) hx hb dX10_count_1 (by decide) (by decide) rfl (by decide) ?_
  refine lv_aload_n hx hb dX10_count_64 rfl (lv_at hl 0 rfl) ?_
  refine va_get (D := (dC, dI)) (ci := 10) (v := .ref h8) (C := RX10) (T := TX10) (N := 16) hx hb hts inlX10 hown hK hP 0 rfl rfl 8 (by decide) (hts (.fieldLink RX10 64 "ShapeReader" "ways" "LShapeReader$Ways;") mw_1_18) (fun _ h9 => h9) rfl dX10_count_65 ?_
  refine va_get (D := (dC, dI)) (ci := 9) (v := .int 0) (C := RX9) (T := TX9) (N := 4) hx hb hts inlX9 hown hK hP 4 rfl rfl 2 (by decide) (hts (.fieldLink RX10 306 "ShapeReader$Ways" "found" "I") mw_4_1) (fun _ h9 => h9) rfl dX10_count_68 ?_
  have hP9 := hP.sub (ws' := [(h0, .inr (10, [(g 0), .int 0, (g 2), .ref h3, (g 4), (g 5), .ref h6, (g 7), .ref h8, .ref h9, (g 10), (g 11), (g 12), (g 13), (g 14), (g 15)])), (h3, .inr (5, [.int 0, (ga 1), (ga 2), (ga 3), (ga 4), (ga 5), (ga 6), (ga 7), (ga 8), (ga 9), (ga 10), (ga 11), (ga 12), (ga 13), (ga 14), (ga 15), (ga 16)])), (h6, .inr (1, [(gm 0), (gm 1), .ref h7])), (h7, .inl (cA, 4, .inl (fun _ => (-1)))), (h8, .inr (9, [(gw 0), .int 0, .int 0, .int 0])), (h9, .inr (7, [(gt 0), .int 0, (gt 2), (gt 3), (gt 4), (gt 5), (gt 6), (gt 7), (gt 8), (gt 9), (gt 10), (gt 11), (gt 12)]))]) [0, 1, 2, 3, 4, 5] rfl
  have hD9 := hD.sub (ws' := [(h0, .inr (10, [(g 0), .int 0, (g 2), .ref h3, (g 4), (g 5), .ref h6, (g 7), .ref h8, .ref h9, (g 10), (g 11), (g 12), (g 13), (g 14), (g 15)])), (h3, .inr (5, [.int 0, (ga 1), (ga 2), (ga 3), (ga 4), (ga 5), (ga 6), (ga 7), (ga 8), (ga 9), (ga 10), (ga 11), (ga 12), (ga 13), (ga 14), (ga 15), (ga 16)])), (h6, .inr (1, [(gm 0), (gm 1), .ref h7])), (h7, .inl (cA, 4, .inl (fun _ => (-1)))), (h8, .inr (9, [(gw 0), .int 0, .int 0, .int 0])), (h9, .inr (7, [(gt 0), .int 0, (gt 2), (gt 3), (gt 4), (gt 5), (gt 6), (gt 7), (gt 8), (gt 9), (gt 10), (gt 11), (gt 12)]))]) [0, 1, 2, 3, 4, 5] (by decide) rfl
  have hK9 := hK.sub (tys' := [(cA, .int)]) [0] rfl
  refine W.widen (k := 0) (n := 0) (Nat.le_of_ble_eq_true rfl) (Nat.le_of_ble_eq_true rfl) ?_
  exact W.iret (v := 0) hx hb hr (fun t ht hW => ⟨⟨0, (), rfl, rfl, by rw [ht]; exact hP9, va_K.moved hW.alike hK9, hD9⟩, hS.F ht⟩) hS.2.2 dX10_count_71

set_option maxRecDepth 100000 in
set_option maxHeartbeats 4000000 in
theorem c_count4 (l : Launch) (dC : Nat → ClassId) (dI : Nat → Nat → Nat) (h0 : Nat) (h3 : Nat) (h6 : Nat) (h7 : Nat) (h8 : Nat) (h9 : Nat) (cA : ClassId) (g : Nat → Value) (ga : Nat → Value) (gm : Nat → Value) (gw : Nat → Value) (gt : Nat → Value) (sz : Nat) : Met l yX10_count (.code yX10_count cX10_count 2 (some .int) :: pw) ({ frames := 0, cells := 0, slots := 0, locals := 0 }) (va_Pc [.ref h0, .int 4] (vPre dC dI [(h0, .inr (10, [(g 0), .int 0, (g 2), .ref h3, (g 4), (g 5), .ref h6, (g 7), .ref h8, .ref h9, (g 10), (g 11), (g 12), (g 13), (g 14), (g 15)])), (h3, .inr (5, [.int 0, (ga 1), (ga 2), (ga 3), (ga 4), (ga 5), (ga 6), (ga 7), (ga 8), (ga 9), (ga 10), (ga 11), (ga 12), (ga 13), (ga 14), (ga 15), (ga 16)])), (h6, .inr (1, [(gm 0), (gm 1), .ref h7])), (h7, .inl (cA, 4, .inl (fun _ => (-1)))), (h8, .inr (9, [(gw 0), .int 0, .int 0, .int 0])), (h9, .inr (7, [(gt 0), .int 0, (gt 2), (gt 3), (gt 4), (gt 5), (gt 6), (gt 7), (gt 8), (gt 9), (gt 10), (gt 11), (gt 12)]))] [(cA, .int)] sz)) (va_Qi (fun (r : Int32) (_ : Unit) => r = 0) (fun (_ : Unit) t => vPst dC dI (va_A [(h0, .inr (10, [(g 0), .int 0, (g 2), .ref h3, (g 4), (g 5), .ref h6, (g 7), .ref h8, .ref h9, (g 10), (g 11), (g 12), (g 13), (g 14), (g 15)])), (h3, .inr (5, [.int 0, (ga 1), (ga 2), (ga 3), (ga 4), (ga 5), (ga 6), (ga 7), (ga 8), (ga 9), (ga 10), (ga 11), (ga 12), (ga 13), (ga 14), (ga 15), (ga 16)])), (h6, .inr (1, [(gm 0), (gm 1), .ref h7])), (h7, .inl (cA, 4, .inl (fun _ => (-1)))), (h8, .inr (9, [(gw 0), .int 0, .int 0, .int 0])), (h9, .inr (7, [(gt 0), .int 0, (gt 2), (gt 3), (gt 4), (gt 5), (gt 6), (gt 7), (gt 8), (gt 9), (gt 10), (gt 11), (gt 12)]))] sz) [(h0, .inr (10, [(g 0), .int 0, (g 2), .ref h3, (g 4), (g 5), .ref h6, (g 7), .ref h8, .ref h9, (g 10), (g 11), (g 12), (g 13), (g 14), (g 15)])), (h3, .inr (5, [.int 0, (ga 1), (ga 2), (ga 3), (ga 4), (ga 5), (ga 6), (ga 7), (ga 8), (ga 9), (ga 10), (ga 11), (ga 12), (ga 13), (ga 14), (ga 15), (ga 16)])), (h6, .inr (1, [(gm 0), (gm 1), .ref h7])), (h7, .inl (cA, 4, .inl (fun _ => (-1)))), (h8, .inr (9, [(gw 0), .int 0, .int 0, .int 0])), (h9, .inr (7, [(gt 0), .int 0, (gt 2), (gt 3), (gt 4), (gt 5), (gt 6), (gt 7), (gt 8), (gt 9), (gt 10), (gt 11), (gt 12)]))] [(cA, .int)] t) (va_A [(h0, .inr (10, [(g 0), .int 0, (g 2), .ref h3, (g 4), (g 5), .ref h6, (g 7), .ref h8, .ref h9, (g 10), (g 11), (g 12), (g 13), (g 14), (g 15)])), (h3, .inr (5, [.int 0, (ga 1), (ga 2), (ga 3), (ga 4), (ga 5), (ga 6), (ga 7), (ga 8), (ga 9), (ga 10), (ga 11), (ga 12), (ga 13), (ga 14), (ga 15), (ga 16)])), (h6, .inr (1, [(gm 0), (gm 1), .ref h7])), (h7, .inl (cA, 4, .inl (fun _ => (-1)))), (h8, .inr (9, [(gw 0), .int 0, .int 0, .int 0])), (h9, .inr (7, [(gt 0), .int 0, (gt 2), (gt 3), (gt 4), (gt 5), (gt 6), (gt 7), (gt 8), (gt 9), (gt 10), (gt 11), (gt 12)]))] sz)) 0 0 (va_A [(h0, .inr (10, [(g 0), .int 0, (g 2), .ref h3, (g 4), (g 5), .ref h6, (g 7), .ref h8, .ref h9, (g 10), (g 11), (g 12), (g 13), (g 14), (g 15)])), (h3, .inr (5, [.int 0, (ga 1), (ga 2), (ga 3), (ga 4), (ga 5), (ga 6), (ga 7), (ga 8), (ga 9), (ga 10), (ga 11), (ga 12), (ga 13), (ga 14), (ga 15), (ga 16)])), (h6, .inr (1, [(gm 0), (gm 1), .ref h7])), (h7, .inl (cA, 4, .inl (fun _ => (-1)))), (h8, .inr (9, [(gw 0), .int 0, .int 0, .int 0])), (h9, .inr (7, [(gt 0), .int 0, (gt 2), (gt 3), (gt 4), (gt 5), (gt 6), (gt 7), (gt 8), (gt 9), (gt 10), (gt 11), (gt 12)]))] sz) := by
  refine Met.ofW (cc := cX10_count) (maxL := 2) (ret := (some .int)) (by decide) rfl ?_
  intro p e s m args below meth c s₁ B hml hv
  obtain ⟨rfl, hsz, hP, hK, hD0⟩ := hv
  have hx := B.exec
  have hb := B.bytes
  have hr := B.returns
  have hts := atoms_spec (ws := .code yX10_count cX10_count 2 (some .int) :: pw) B.pre
  have hts : ∀ w ∈ pw, w.before _ s = true := fun w h => hts w (List.mem_cons_of_mem _ h)
  have hown : s.vm.findClass RX10 = some m.cls := findClass_of_methodNamed B.named
  have hlocks := B.notSynchronized
  subst hsz
  have hD := hD0.self (sz := s.heap.size)
  generalize hAe : va_A [(h0, .inr (10, [(g 0), .int 0, (g 2), .ref h3, (g 4), (g 5), .ref h6, (g 7), .ref h8, .ref h9, (g 10), (g 11), (g 12), (g 13), (g 14), (g 15)])), (h3, .inr (5, [.int 0, (ga 1), (ga 2), (ga 3), (ga 4), (ga 5), (ga 6), (ga 7), (ga 8), (ga 9), (ga 10), (ga 11), (ga 12), (ga 13), (ga 14), (ga 15), (ga 16)])), (h6, .inr (1, [(gm 0), (gm 1), .ref h7])), (h7, .inl (cA, 4, .inl (fun _ => (-1)))), (h8, .inr (9, [(gw 0), .int 0, .int 0, .int 0])), (h9, .inr (7, [(gt 0), .int 0, (gt 2), (gt 3), (gt 4), (gt 5), (gt 6), (gt 7), (gt 8), (gt 9), (gt 10), (gt 11), (gt 12)]))] s.heap.size = A at hD ⊢
  have hA : ∀ q : Nat, s.heap.size ≤ q → A q := fun q h => by rw [← hAe]; exact Or.inr h
  have hS : va_S A s.heap s.heap [] := va_S.rf
  have hP : va_P (dC, dI) vwCl [(h0, .inr (10, [(g 0), .int 0, (g 2), .ref h3, (g 4), (g 5), .ref h6, (g 7), .ref h8, .ref h9, (g 10), (g 11), (g 12), (g 13), (g 14), (g 15)])), (h3, .inr (5, [.int 0, (ga 1), (ga 2), (ga 3), (ga 4), (ga 5), (ga 6), (ga 7), (ga 8), (ga 9), (ga 10), (ga 11), (ga 12), (ga 13), (ga 14), (ga 15), (ga 16)])), (h6, .inr (1, [(gm 0), (gm 1), .ref h7])), (h7, .inl (cA, 4, .inl (fun _ => (-1)))), (h8, .inr (9, [(gw 0), .int 0, .int 0, .int 0])), (h9, .inr (7, [(gt 0), .int 0, (gt 2), (gt 3), (gt 4), (gt 5), (gt 6), (gt 7), (gt 8), (gt 9), (gt 10), (gt 11), (gt 12)]))] s.heap := hP
  have hl := lv_entry ([.ref h0, .int 4]) (n := 2) (Nat.le_of_ble_eq_true rfl)
  rw [lg_entry_eq]
  generalize (lg_sl ([.ref h0, .int 4]) ++ List.replicate (2 - (lg_sl ([.ref h0, .int 4])).length) Slot.unset).toArray = ls at hl ⊢
  have hl : lv_has ls 2 [(0, .ref h0), (1, .int 4)] := hl
  refine lv_iload_n hx hb dX10_count_0 rfl (lv_at hl 1 rfl) ?_
  refine lv_tableIn (off := 71) (tgt := 72) hx hb dX10_count_1 (by decide) (by decide) rfl (by decide) ?_
  refine lv_aload_n hx hb dX10_count_72 rfl (lv_at hl 0 rfl) ?_
  refine va_get (D := (dC, dI)) (ci := 10) (v := .ref h8) (C := RX10) (T := TX10) (N := 16) hx hb hts inlX10 hown hK hP 0 rfl rfl 8 (by decide) (hts (.fieldLink RX10 64 "ShapeReader" "ways" "LShapeReader$Ways;") mw_1_18) (fun _ h9 => h9) rfl dX10_count_73 ?_
  refine va_get (D := (dC, dI)) (ci := 9) (v := .int 0) (C := RX9) (T := TX9) (N := 4) hx hb hts inlX9 hown hK hP 4 rfl rfl 3 (by decide) (hts (.fieldLink RX10 309 "ShapeReader$Ways" "notFound" "I") mw_4_2) (fun _ h9 => h9) rfl dX10_count_76 ?_
  have hP9 := hP.sub (ws' := [(h0, .inr (10, [(g 0), .int 0, (g 2), .ref h3, (g 4), (g 5), .ref h6, (g 7), .ref h8, .ref h9, (g 10), (g 11), (g 12), (g 13), (g 14), (g 15)])), (h3, .inr (5, [.int 0, (ga 1), (ga 2), (ga 3), (ga 4), (ga 5), (ga 6), (ga 7), (ga 8), (ga 9), (ga 10), (ga 11), (ga 12), (ga 13), (ga 14), (ga 15), (ga 16)])), (h6, .inr (1, [(gm 0), (gm 1), .ref h7])), (h7, .inl (cA, 4, .inl (fun _ => (-1)))), (h8, .inr (9, [(gw 0), .int 0, .int 0, .int 0])), (h9, .inr (7, [(gt 0), .int 0, (gt 2), (gt 3), (gt 4), (gt 5), (gt 6), (gt 7), (gt 8), (gt 9), (gt 10), (gt 11), (gt 12)]))]) [0, 1, 2, 3, 4, 5] rfl
  have hD9 := hD.sub (ws' := [(h0, .inr (10, [(g 0), .int 0, (g 2), .ref h3, (g 4), (g 5), .ref h6, (g 7), .ref h8, .ref h9, (g 10), (g 11), (g 12), (g 13), (g 14), (g 15)])), (h3, .inr (5, [.int 0, (ga 1), (ga 2), (ga 3), (ga 4), (ga 5), (ga 6), (ga 7), (ga 8), (ga 9), (ga 10), (ga 11), (ga 12), (ga 13), (ga 14), (ga 15), (ga 16)])), (h6, .inr (1, [(gm 0), (gm 1), .ref h7])), (h7, .inl (cA, 4, .inl (fun _ => (-1)))), (h8, .inr (9, [(gw 0), .int 0, .int 0, .int 0])), (h9, .inr (7, [(gt 0), .int 0, (gt 2), (gt 3), (gt 4), (gt 5), (gt 6), (gt 7), (gt 8), (gt 9), (gt 10), (gt 11), (gt 12)]))]) [0, 1, 2, 3, 4, 5] (by decide) rfl
  have hK9 := hK.sub (tys' := [(cA, .int)]) [0] rfl
  refine W.widen (k := 0) (n := 0) (Nat.le_of_ble_eq_true rfl) (Nat.le_of_ble_eq_true rfl) ?_
  exact W.iret (v := 0) hx hb hr (fun t ht hW => ⟨⟨0, (), rfl, rfl, by rw [ht]; exact hP9, va_K.moved hW.alike hK9, hD9⟩, hS.F ht⟩) hS.2.2 dX10_count_79

set_option maxRecDepth 100000 in
set_option maxHeartbeats 4000000 in
theorem c_count5 (l : Launch) (dC : Nat → ClassId) (dI : Nat → Nat → Nat) (h0 : Nat) (h3 : Nat) (h6 : Nat) (h7 : Nat) (h8 : Nat) (h9 : Nat) (cA : ClassId) (g : Nat → Value) (ga : Nat → Value) (gm : Nat → Value) (gw : Nat → Value) (gt : Nat → Value) (sz : Nat) : Met l yX10_count (.code yX10_count cX10_count 2 (some .int) :: pw) ({ frames := 0, cells := 0, slots := 0, locals := 0 }) (va_Pc [.ref h0, .int 5] (vPre dC dI [(h0, .inr (10, [(g 0), .int 0, (g 2), .ref h3, (g 4), (g 5), .ref h6, (g 7), .ref h8, .ref h9, (g 10), (g 11), (g 12), (g 13), (g 14), (g 15)])), (h3, .inr (5, [.int 0, (ga 1), (ga 2), (ga 3), (ga 4), (ga 5), (ga 6), (ga 7), (ga 8), (ga 9), (ga 10), (ga 11), (ga 12), (ga 13), (ga 14), (ga 15), (ga 16)])), (h6, .inr (1, [(gm 0), (gm 1), .ref h7])), (h7, .inl (cA, 4, .inl (fun _ => (-1)))), (h8, .inr (9, [(gw 0), .int 0, .int 0, .int 0])), (h9, .inr (7, [(gt 0), .int 0, (gt 2), (gt 3), (gt 4), (gt 5), (gt 6), (gt 7), (gt 8), (gt 9), (gt 10), (gt 11), (gt 12)]))] [(cA, .int)] sz)) (va_Qi (fun (r : Int32) (_ : Unit) => r = 0) (fun (_ : Unit) t => vPst dC dI (va_A [(h0, .inr (10, [(g 0), .int 0, (g 2), .ref h3, (g 4), (g 5), .ref h6, (g 7), .ref h8, .ref h9, (g 10), (g 11), (g 12), (g 13), (g 14), (g 15)])), (h3, .inr (5, [.int 0, (ga 1), (ga 2), (ga 3), (ga 4), (ga 5), (ga 6), (ga 7), (ga 8), (ga 9), (ga 10), (ga 11), (ga 12), (ga 13), (ga 14), (ga 15), (ga 16)])), (h6, .inr (1, [(gm 0), (gm 1), .ref h7])), (h7, .inl (cA, 4, .inl (fun _ => (-1)))), (h8, .inr (9, [(gw 0), .int 0, .int 0, .int 0])), (h9, .inr (7, [(gt 0), .int 0, (gt 2), (gt 3), (gt 4), (gt 5), (gt 6), (gt 7), (gt 8), (gt 9), (gt 10), (gt 11), (gt 12)]))] sz) [(h0, .inr (10, [(g 0), .int 0, (g 2), .ref h3, (g 4), (g 5), .ref h6, (g 7), .ref h8, .ref h9, (g 10), (g 11), (g 12), (g 13), (g 14), (g 15)])), (h3, .inr (5, [.int 0, (ga 1), (ga 2), (ga 3), (ga 4), (ga 5), (ga 6), (ga 7), (ga 8), (ga 9), (ga 10), (ga 11), (ga 12), (ga 13), (ga 14), (ga 15), (ga 16)])), (h6, .inr (1, [(gm 0), (gm 1), .ref h7])), (h7, .inl (cA, 4, .inl (fun _ => (-1)))), (h8, .inr (9, [(gw 0), .int 0, .int 0, .int 0])), (h9, .inr (7, [(gt 0), .int 0, (gt 2), (gt 3), (gt 4), (gt 5), (gt 6), (gt 7), (gt 8), (gt 9), (gt 10), (gt 11), (gt 12)]))] [(cA, .int)] t) (va_A [(h0, .inr (10, [(g 0), .int 0, (g 2), .ref h3, (g 4), (g 5), .ref h6, (g 7), .ref h8, .ref h9, (g 10), (g 11), (g 12), (g 13), (g 14), (g 15)])), (h3, .inr (5, [.int 0, (ga 1), (ga 2), (ga 3), (ga 4), (ga 5), (ga 6), (ga 7), (ga 8), (ga 9), (ga 10), (ga 11), (ga 12), (ga 13), (ga 14), (ga 15), (ga 16)])), (h6, .inr (1, [(gm 0), (gm 1), .ref h7])), (h7, .inl (cA, 4, .inl (fun _ => (-1)))), (h8, .inr (9, [(gw 0), .int 0, .int 0, .int 0])), (h9, .inr (7, [(gt 0), .int 0, (gt 2), (gt 3), (gt 4), (gt 5), (gt 6), (gt 7), (gt 8), (gt 9), (gt 10), (gt 11), (gt 12)]))] sz)) 0 0 (va_A [(h0, .inr (10, [(g 0), .int 0, (g 2), .ref h3, (g 4), (g 5), .ref h6, (g 7), .ref h8, .ref h9, (g 10), (g 11), (g 12), (g 13), (g 14), (g 15)])), (h3, .inr (5, [.int 0, (ga 1), (ga 2), (ga 3), (ga 4), (ga 5), (ga 6), (ga 7), (ga 8), (ga 9), (ga 10), (ga 11), (ga 12), (ga 13), (ga 14), (ga 15), (ga 16)])), (h6, .inr (1, [(gm 0), (gm 1), .ref h7])), (h7, .inl (cA, 4, .inl (fun _ => (-1)))), (h8, .inr (9, [(gw 0), .int 0, .int 0, .int 0])), (h9, .inr (7, [(gt 0), .int 0, (gt 2), (gt 3), (gt 4), (gt 5), (gt 6), (gt 7), (gt 8), (gt 9), (gt 10), (gt 11), (gt 12)]))] sz) := by
  refine Met.ofW (cc := cX10_count) (maxL := 2) (ret := (some .int)) (by decide) rfl ?_
  intro p e s m args below meth c s₁ B hml hv
  obtain ⟨rfl, hsz, hP, hK, hD0⟩ := hv
  have hx := B.exec
  have hb := B.bytes
  have hr := B.returns
  have hts := atoms_spec (ws := .code yX10_count cX10_count 2 (some .int) :: pw) B.pre
  have hts : ∀ w ∈ pw, w.before _ s = true := fun w h => hts w (List.mem_cons_of_mem _ h)
  have hown : s.vm.findClass RX10 = some m.cls := findClass_of_methodNamed B.named
  have hlocks := B.notSynchronized
  subst hsz
  have hD := hD0.self (sz := s.heap.size)
  generalize hAe : va_A [(h0, .inr (10, [(g 0), .int 0, (g 2), .ref h3, (g 4), (g 5), .ref h6, (g 7), .ref h8, .ref h9, (g 10), (g 11), (g 12), (g 13), (g 14), (g 15)])), (h3, .inr (5, [.int 0, (ga 1), (ga 2), (ga 3), (ga 4), (ga 5), (ga 6), (ga 7), (ga 8), (ga 9), (ga 10), (ga 11), (ga 12), (ga 13), (ga 14), (ga 15), (ga 16)])), (h6, .inr (1, [(gm 0), (gm 1), .ref h7])), (h7, .inl (cA, 4, .inl (fun _ => (-1)))), (h8, .inr (9, [(gw 0), .int 0, .int 0, .int 0])), (h9, .inr (7, [(gt 0), .int 0, (gt 2), (gt 3), (gt 4), (gt 5), (gt 6), (gt 7), (gt 8), (gt 9), (gt 10), (gt 11), (gt 12)]))] s.heap.size = A at hD ⊢
  have hA : ∀ q : Nat, s.heap.size ≤ q → A q := fun q h => by rw [← hAe]; exact Or.inr h
  have hS : va_S A s.heap s.heap [] := va_S.rf
  have hP : va_P (dC, dI) vwCl [(h0, .inr (10, [(g 0), .int 0, (g 2), .ref h3, (g 4), (g 5), .ref h6, (g 7), .ref h8, .ref h9, (g 10), (g 11), (g 12), (g 13), (g 14), (g 15)])), (h3, .inr (5, [.int 0, (ga 1), (ga 2), (ga 3), (ga 4), (ga 5), (ga 6), (ga 7), (ga 8), (ga 9), (ga 10), (ga 11), (ga 12), (ga 13), (ga 14), (ga 15), (ga 16)])), (h6, .inr (1, [(gm 0), (gm 1), .ref h7])), (h7, .inl (cA, 4, .inl (fun _ => (-1)))), (h8, .inr (9, [(gw 0), .int 0, .int 0, .int 0])), (h9, .inr (7, [(gt 0), .int 0, (gt 2), (gt 3), (gt 4), (gt 5), (gt 6), (gt 7), (gt 8), (gt 9), (gt 10), (gt 11), (gt 12)]))] s.heap := hP
  have hl := lv_entry ([.ref h0, .int 5]) (n := 2) (Nat.le_of_ble_eq_true rfl)
  rw [lg_entry_eq]
  generalize (lg_sl ([.ref h0, .int 5]) ++ List.replicate (2 - (lg_sl ([.ref h0, .int 5])).length) Slot.unset).toArray = ls at hl ⊢
  have hl : lv_has ls 2 [(0, .ref h0), (1, .int 5)] := hl
  refine lv_iload_n hx hb dX10_count_0 rfl (lv_at hl 1 rfl) ?_
  refine lv_tableIn (off := 79) (tgt := 80) hx hb dX10_count_1 (by decide) (by decide) rfl (by decide) ?_
  refine lv_aload_n hx hb dX10_count_80 rfl (lv_at hl 0 rfl) ?_
  refine va_get (D := (dC, dI)) (ci := 10) (v := .int 0) (C := RX10) (T := TX10) (N := 16) hx hb hts inlX10 hown hK hP 0 rfl rfl 1 (by decide) (hts (.fieldLink RX10 13 "ShapeReader" "tapeSize" "I") mw_0_19) (fun _ h9 => h9) rfl dX10_count_81 ?_
  have hP9 := hP.sub (ws' := [(h0, .inr (10, [(g 0), .int 0, (g 2), .ref h3, (g 4), (g 5), .ref h6, (g 7), .ref h8, .ref h9, (g 10), (g 11), (g 12), (g 13), (g 14), (g 15)])), (h3, .inr (5, [.int 0, (ga 1), (ga 2), (ga 3), (ga 4), (ga 5), (ga 6), (ga 7), (ga 8), (ga 9), (ga 10), (ga 11), (ga 12), (ga 13), (ga 14), (ga 15), (ga 16)])), (h6, .inr (1, [(gm 0), (gm 1), .ref h7])), (h7, .inl (cA, 4, .inl (fun _ => (-1)))), (h8, .inr (9, [(gw 0), .int 0, .int 0, .int 0])), (h9, .inr (7, [(gt 0), .int 0, (gt 2), (gt 3), (gt 4), (gt 5), (gt 6), (gt 7), (gt 8), (gt 9), (gt 10), (gt 11), (gt 12)]))]) [0, 1, 2, 3, 4, 5] rfl
  have hD9 := hD.sub (ws' := [(h0, .inr (10, [(g 0), .int 0, (g 2), .ref h3, (g 4), (g 5), .ref h6, (g 7), .ref h8, .ref h9, (g 10), (g 11), (g 12), (g 13), (g 14), (g 15)])), (h3, .inr (5, [.int 0, (ga 1), (ga 2), (ga 3), (ga 4), (ga 5), (ga 6), (ga 7), (ga 8), (ga 9), (ga 10), (ga 11), (ga 12), (ga 13), (ga 14), (ga 15), (ga 16)])), (h6, .inr (1, [(gm 0), (gm 1), .ref h7])), (h7, .inl (cA, 4, .inl (fun _ => (-1)))), (h8, .inr (9, [(gw 0), .int 0, .int 0, .int 0])), (h9, .inr (7, [(gt 0), .int 0, (gt 2), (gt 3), (gt 4), (gt 5), (gt 6), (gt 7), (gt 8), (gt 9), (gt 10), (gt 11), (gt 12)]))]) [0, 1, 2, 3, 4, 5] (by decide) rfl
  have hK9 := hK.sub (tys' := [(cA, .int)]) [0] rfl
  refine W.widen (k := 0) (n := 0) (Nat.le_of_ble_eq_true rfl) (Nat.le_of_ble_eq_true rfl) ?_
  exact W.iret (v := 0) hx hb hr (fun t ht hW => ⟨⟨0, (), rfl, rfl, by rw [ht]; exact hP9, va_K.moved hW.alike hK9, hD9⟩, hS.F ht⟩) hS.2.2 dX10_count_84

set_option maxRecDepth 100000 in
set_option maxHeartbeats 4000000 in
theorem c_countX (l : Launch) (dC : Nat → ClassId) (dI : Nat → Nat → Nat) (h0 : Nat) (h3 : Nat) (h6 : Nat) (h7 : Nat) (h8 : Nat) (h9 : Nat) (cA : ClassId) (g : Nat → Value) (ga : Nat → Value) (gm : Nat → Value) (gw : Nat → Value) (gt : Nat → Value) (p0 : Int32) (hp : p0.toInt < 0 ∨ 5 < p0.toInt) (sz : Nat) : Met l yX10_count (.code yX10_count cX10_count 2 (some .int) :: pw) ({ frames := 0, cells := 0, slots := 0, locals := 0 }) (va_Pc [.ref h0, .int p0] (vPre dC dI [(h0, .inr (10, [(g 0), .int 0, (g 2), .ref h3, (g 4), (g 5), .ref h6, (g 7), .ref h8, .ref h9, (g 10), (g 11), (g 12), (g 13), (g 14), (g 15)])), (h3, .inr (5, [.int 0, (ga 1), (ga 2), (ga 3), (ga 4), (ga 5), (ga 6), (ga 7), (ga 8), (ga 9), (ga 10), (ga 11), (ga 12), (ga 13), (ga 14), (ga 15), (ga 16)])), (h6, .inr (1, [(gm 0), (gm 1), .ref h7])), (h7, .inl (cA, 4, .inl (fun _ => (-1)))), (h8, .inr (9, [(gw 0), .int 0, .int 0, .int 0])), (h9, .inr (7, [(gt 0), .int 0, (gt 2), (gt 3), (gt 4), (gt 5), (gt 6), (gt 7), (gt 8), (gt 9), (gt 10), (gt 11), (gt 12)]))] [(cA, .int)] sz)) (va_Qi (fun (r : Int32) (_ : Unit) => r = (-1)) (fun (_ : Unit) t => vPst dC dI (va_A [(h0, .inr (10, [(g 0), .int 0, (g 2), .ref h3, (g 4), (g 5), .ref h6, (g 7), .ref h8, .ref h9, (g 10), (g 11), (g 12), (g 13), (g 14), (g 15)])), (h3, .inr (5, [.int 0, (ga 1), (ga 2), (ga 3), (ga 4), (ga 5), (ga 6), (ga 7), (ga 8), (ga 9), (ga 10), (ga 11), (ga 12), (ga 13), (ga 14), (ga 15), (ga 16)])), (h6, .inr (1, [(gm 0), (gm 1), .ref h7])), (h7, .inl (cA, 4, .inl (fun _ => (-1)))), (h8, .inr (9, [(gw 0), .int 0, .int 0, .int 0])), (h9, .inr (7, [(gt 0), .int 0, (gt 2), (gt 3), (gt 4), (gt 5), (gt 6), (gt 7), (gt 8), (gt 9), (gt 10), (gt 11), (gt 12)]))] sz) [(h0, .inr (10, [(g 0), .int 0, (g 2), .ref h3, (g 4), (g 5), .ref h6, (g 7), .ref h8, .ref h9, (g 10), (g 11), (g 12), (g 13), (g 14), (g 15)])), (h3, .inr (5, [.int 0, (ga 1), (ga 2), (ga 3), (ga 4), (ga 5), (ga 6), (ga 7), (ga 8), (ga 9), (ga 10), (ga 11), (ga 12), (ga 13), (ga 14), (ga 15), (ga 16)])), (h6, .inr (1, [(gm 0), (gm 1), .ref h7])), (h7, .inl (cA, 4, .inl (fun _ => (-1)))), (h8, .inr (9, [(gw 0), .int 0, .int 0, .int 0])), (h9, .inr (7, [(gt 0), .int 0, (gt 2), (gt 3), (gt 4), (gt 5), (gt 6), (gt 7), (gt 8), (gt 9), (gt 10), (gt 11), (gt 12)]))] [(cA, .int)] t) (va_A [(h0, .inr (10, [(g 0), .int 0, (g 2), .ref h3, (g 4), (g 5), .ref h6, (g 7), .ref h8, .ref h9, (g 10), (g 11), (g 12), (g 13), (g 14), (g 15)])), (h3, .inr (5, [.int 0, (ga 1), (ga 2), (ga 3), (ga 4), (ga 5), (ga 6), (ga 7), (ga 8), (ga 9), (ga 10), (ga 11), (ga 12), (ga 13), (ga 14), (ga 15), (ga 16)])), (h6, .inr (1, [(gm 0), (gm 1), .ref h7])), (h7, .inl (cA, 4, .inl (fun _ => (-1)))), (h8, .inr (9, [(gw 0), .int 0, .int 0, .int 0])), (h9, .inr (7, [(gt 0), .int 0, (gt 2), (gt 3), (gt 4), (gt 5), (gt 6), (gt 7), (gt 8), (gt 9), (gt 10), (gt 11), (gt 12)]))] sz)) 0 0 (va_A [(h0, .inr (10, [(g 0), .int 0, (g 2), .ref h3, (g 4), (g 5), .ref h6, (g 7), .ref h8, .ref h9, (g 10), (g 11), (g 12), (g 13), (g 14), (g 15)])), (h3, .inr (5, [.int 0, (ga 1), (ga 2), (ga 3), (ga 4), (ga 5), (ga 6), (ga 7), (ga 8), (ga 9), (ga 10), (ga 11), (ga 12), (ga 13), (ga 14), (ga 15), (ga 16)])), (h6, .inr (1, [(gm 0), (gm 1), .ref h7])), (h7, .inl (cA, 4, .inl (fun _ => (-1)))), (h8, .inr (9, [(gw 0), .int 0, .int 0, .int 0])), (h9, .inr (7, [(gt 0), .int 0, (gt 2), (gt 3), (gt 4), (gt 5), (gt 6), (gt 7), (gt 8), (gt 9), (gt 10), (gt 11), (gt 12)]))] sz) := by
  refine Met.ofW (cc := cX10_count) (maxL := 2) (ret := (some .int)) (by decide) rfl ?_
  intro p e s m args below meth c s₁ B hml hv
  obtain ⟨rfl, hsz, hP, hK, hD0⟩ := hv
  have hx := B.exec
  have hb := B.bytes
  have hr := B.returns
  have hts := atoms_spec (ws := .code yX10_count cX10_count 2 (some .int) :: pw) B.pre
  have hts : ∀ w ∈ pw, w.before _ s = true := fun w h => hts w (List.mem_cons_of_mem _ h)
  have hown : s.vm.findClass RX10 = some m.cls := findClass_of_methodNamed B.named
  have hlocks := B.notSynchronized
  subst hsz
  have hD := hD0.self (sz := s.heap.size)
  generalize hAe : va_A [(h0, .inr (10, [(g 0), .int 0, (g 2), .ref h3, (g 4), (g 5), .ref h6, (g 7), .ref h8, .ref h9, (g 10), (g 11), (g 12), (g 13), (g 14), (g 15)])), (h3, .inr (5, [.int 0, (ga 1), (ga 2), (ga 3), (ga 4), (ga 5), (ga 6), (ga 7), (ga 8), (ga 9), (ga 10), (ga 11), (ga 12), (ga 13), (ga 14), (ga 15), (ga 16)])), (h6, .inr (1, [(gm 0), (gm 1), .ref h7])), (h7, .inl (cA, 4, .inl (fun _ => (-1)))), (h8, .inr (9, [(gw 0), .int 0, .int 0, .int 0])), (h9, .inr (7, [(gt 0), .int 0, (gt 2), (gt 3), (gt 4), (gt 5), (gt 6), (gt 7), (gt 8), (gt 9), (gt 10), (gt 11), (gt 12)]))] s.heap.size = A at hD ⊢
  have hA : ∀ q : Nat, s.heap.size ≤ q → A q := fun q h => by rw [← hAe]; exact Or.inr h
  have hS : va_S A s.heap s.heap [] := va_S.rf
  have hP : va_P (dC, dI) vwCl [(h0, .inr (10, [(g 0), .int 0, (g 2), .ref h3, (g 4), (g 5), .ref h6, (g 7), .ref h8, .ref h9, (g 10), (g 11), (g 12), (g 13), (g 14), (g 15)])), (h3, .inr (5, [.int 0, (ga 1), (ga 2), (ga 3), (ga 4), (ga 5), (ga 6), (ga 7), (ga 8), (ga 9), (ga 10), (ga 11), (ga 12), (ga 13), (ga 14), (ga 15), (ga 16)])), (h6, .inr (1, [(gm 0), (gm 1), .ref h7])), (h7, .inl (cA, 4, .inl (fun _ => (-1)))), (h8, .inr (9, [(gw 0), .int 0, .int 0, .int 0])), (h9, .inr (7, [(gt 0), .int 0, (gt 2), (gt 3), (gt 4), (gt 5), (gt 6), (gt 7), (gt 8), (gt 9), (gt 10), (gt 11), (gt 12)]))] s.heap := hP
  have hl := lv_entry ([.ref h0, .int p0]) (n := 2) (Nat.le_of_ble_eq_true rfl)
  rw [lg_entry_eq]
  generalize (lg_sl ([.ref h0, .int p0]) ++ List.replicate (2 - (lg_sl ([.ref h0, .int p0])).length) Slot.unset).toArray = ls at hl ⊢
  have hl : lv_has ls 2 [(0, .ref h0), (1, .int p0)] := hl
  refine lv_iload_n hx hb dX10_count_0 rfl (lv_at hl 1 rfl) ?_
  refine lv_tableOut (tgt := 85) hx hb dX10_count_1 hp (by decide) ?_
  refine lv_iconst (v := (-1)) hx hb dX10_count_85 (by decide) ?_
  have hP9 := hP.sub (ws' := [(h0, .inr (10, [(g 0), .int 0, (g 2), .ref h3, (g 4), (g 5), .ref h6, (g 7), .ref h8, .ref h9, (g 10), (g 11), (g 12), (g 13), (g 14), (g 15)])), (h3, .inr (5, [.int 0, (ga 1), (ga 2), (ga 3), (ga 4), (ga 5), (ga 6), (ga 7), (ga 8), (ga 9), (ga 10), (ga 11), (ga 12), (ga 13), (ga 14), (ga 15), (ga 16)])), (h6, .inr (1, [(gm 0), (gm 1), .ref h7])), (h7, .inl (cA, 4, .inl (fun _ => (-1)))), (h8, .inr (9, [(gw 0), .int 0, .int 0, .int 0])), (h9, .inr (7, [(gt 0), .int 0, (gt 2), (gt 3), (gt 4), (gt 5), (gt 6), (gt 7), (gt 8), (gt 9), (gt 10), (gt 11), (gt 12)]))]) [0, 1, 2, 3, 4, 5] rfl
  have hD9 := hD.sub (ws' := [(h0, .inr (10, [(g 0), .int 0, (g 2), .ref h3, (g 4), (g 5), .ref h6, (g 7), .ref h8, .ref h9, (g 10), (g 11), (g 12), (g 13), (g 14), (g 15)])), (h3, .inr (5, [.int 0, (ga 1), (ga 2), (ga 3), (ga 4), (ga 5), (ga 6), (ga 7), (ga 8), (ga 9), (ga 10), (ga 11), (ga 12), (ga 13), (ga 14), (ga 15), (ga 16)])), (h6, .inr (1, [(gm 0), (gm 1), .ref h7])), (h7, .inl (cA, 4, .inl (fun _ => (-1)))), (h8, .inr (9, [(gw 0), .int 0, .int 0, .int 0])), (h9, .inr (7, [(gt 0), .int 0, (gt 2), (gt 3), (gt 4), (gt 5), (gt 6), (gt 7), (gt 8), (gt 9), (gt 10), (gt 11), (gt 12)]))]) [0, 1, 2, 3, 4, 5] (by decide) rfl
  have hK9 := hK.sub (tys' := [(cA, .int)]) [0] rfl
  refine W.widen (k := 0) (n := 0) (Nat.le_of_ble_eq_true rfl) (Nat.le_of_ble_eq_true rfl) ?_
  exact W.iret (v := (-1)) hx hb hr (fun t ht hW => ⟨⟨(-1), (), rfl, rfl, by rw [ht]; exact hP9, va_K.moved hW.alike hK9, hD9⟩, hS.F ht⟩) hS.2.2 dX10_count_86
end
