section
-- 01.tabs: the tables words (kit skeleton PART A), the printed names (kit NAMES.whole); by program gen01.py
-- ===== PART A: goes FIRST, ahead of the names: the tables' words, and 'selects' of the private methods out of them =====
/-- a private method of a class that the tables say can be made, by its rows of tables_1 -/
def lw_okq (q : MethodName × Nat) : Prop := (q.1.cls ≠ "java/lang/invoke/MethodHandle" ∧ q.1.cls ≠ "java/lang/invoke/VarHandle") ∧ Cond.instantiable q.1.cls q.2 ∈ tables_1 ∧ Cond.privateMethod q.1 ∈ tables_1 ∧ Cond.instanceMethod q.1 ∈ tables_1
theorem lw_p0 : lw_okq (⟨"BedsArePlaces", "isBed", "(I)Z"⟩, 11) := ⟨⟨by decide +kernel, by decide +kernel⟩, List.mem_of_getElem? (i := 21) (by decide +kernel), List.mem_of_getElem? (i := 341) (by decide +kernel), List.mem_of_getElem? (i := 342) (by decide +kernel)⟩
theorem lw_p1 : lw_okq (⟨"BedsArePlaces", "isOne", "(I)Z"⟩, 11) := ⟨⟨by decide +kernel, by decide +kernel⟩, List.mem_of_getElem? (i := 21) (by decide +kernel), List.mem_of_getElem? (i := 410) (by decide +kernel), List.mem_of_getElem? (i := 411) (by decide +kernel)⟩
theorem lw_p2 : lw_okq (⟨"BedsArePlaces$Reader", "goOn", "()V"⟩, 7) := ⟨⟨by decide +kernel, by decide +kernel⟩, List.mem_of_getElem? (i := 70) (by decide +kernel), List.mem_of_getElem? (i := 661) (by decide +kernel), List.mem_of_getElem? (i := 662) (by decide +kernel)⟩
theorem lw_p3 : lw_okq (⟨"BedsArePlaces$Reader", "isDigit", "(I)Z"⟩, 7) := ⟨⟨by decide +kernel, by decide +kernel⟩, List.mem_of_getElem? (i := 70) (by decide +kernel), List.mem_of_getElem? (i := 665) (by decide +kernel), List.mem_of_getElem? (i := 666) (by decide +kernel)⟩
theorem lw_p4 : lw_okq (⟨"BedsArePlaces$Reader", "readNumber", "()V"⟩, 7) := ⟨⟨by decide +kernel, by decide +kernel⟩, List.mem_of_getElem? (i := 70) (by decide +kernel), List.mem_of_getElem? (i := 669) (by decide +kernel), List.mem_of_getElem? (i := 670) (by decide +kernel)⟩
theorem lw_p5 : lw_okq (⟨"BedsArePlaces$Reader", "isLetter", "(I)Z"⟩, 7) := ⟨⟨by decide +kernel, by decide +kernel⟩, List.mem_of_getElem? (i := 70) (by decide +kernel), List.mem_of_getElem? (i := 673) (by decide +kernel), List.mem_of_getElem? (i := 674) (by decide +kernel)⟩
theorem lw_p6 : lw_okq (⟨"BedsArePlaces$Reader", "readLetters", "()V"⟩, 7) := ⟨⟨by decide +kernel, by decide +kernel⟩, List.mem_of_getElem? (i := 70) (by decide +kernel), List.mem_of_getElem? (i := 677) (by decide +kernel), List.mem_of_getElem? (i := 678) (by decide +kernel)⟩
theorem lw_p7 : lw_okq (⟨"BedsArePlaces$Reader", "keyHere", "()I"⟩, 7) := ⟨⟨by decide +kernel, by decide +kernel⟩, List.mem_of_getElem? (i := 70) (by decide +kernel), List.mem_of_getElem? (i := 681) (by decide +kernel), List.mem_of_getElem? (i := 682) (by decide +kernel)⟩
theorem lw_p8 : lw_okq (⟨"BedsArePlaces$Reader", "isWord", "(Ljava/lang/String;)Z"⟩, 7) := ⟨⟨by decide +kernel, by decide +kernel⟩, List.mem_of_getElem? (i := 70) (by decide +kernel), List.mem_of_getElem? (i := 686) (by decide +kernel), List.mem_of_getElem? (i := 687) (by decide +kernel)⟩
theorem lw_p9 : lw_okq (⟨"BedsArePlaces$Reader", "readsLevel", "(III)Z"⟩, 7) := ⟨⟨by decide +kernel, by decide +kernel⟩, List.mem_of_getElem? (i := 70) (by decide +kernel), List.mem_of_getElem? (i := 744) (by decide +kernel), List.mem_of_getElem? (i := 745) (by decide +kernel)⟩
theorem lw_p10 : lw_okq (⟨"BedsArePlaces$Reader", "readsPiece", "(II)Z"⟩, 7) := ⟨⟨by decide +kernel, by decide +kernel⟩, List.mem_of_getElem? (i := 70) (by decide +kernel), List.mem_of_getElem? (i := 748) (by decide +kernel), List.mem_of_getElem? (i := 749) (by decide +kernel)⟩
theorem lw_p11 : lw_okq (⟨"BedsArePlaces$Text", "add", "(I)V"⟩, 4) := ⟨⟨by decide +kernel, by decide +kernel⟩, List.mem_of_getElem? (i := 36) (by decide +kernel), List.mem_of_getElem? (i := 756) (by decide +kernel), List.mem_of_getElem? (i := 757) (by decide +kernel)⟩
theorem lw_p12 : lw_okq (⟨"BedsArePlaces$Reader", "readsName", "()Z"⟩, 7) := ⟨⟨by decide +kernel, by decide +kernel⟩, List.mem_of_getElem? (i := 70) (by decide +kernel), List.mem_of_getElem? (i := 760) (by decide +kernel), List.mem_of_getElem? (i := 761) (by decide +kernel)⟩
theorem lw_p13 : lw_okq (⟨"BedsArePlaces$Reader", "nameHere", "()I"⟩, 7) := ⟨⟨by decide +kernel, by decide +kernel⟩, List.mem_of_getElem? (i := 70) (by decide +kernel), List.mem_of_getElem? (i := 764) (by decide +kernel), List.mem_of_getElem? (i := 765) (by decide +kernel)⟩
theorem lw_p14 : lw_okq (⟨"BedsArePlaces$Reader", "isSign", "(C)Z"⟩, 7) := ⟨⟨by decide +kernel, by decide +kernel⟩, List.mem_of_getElem? (i := 70) (by decide +kernel), List.mem_of_getElem? (i := 829) (by decide +kernel), List.mem_of_getElem? (i := 830) (by decide +kernel)⟩
theorem lw_p15 : lw_okq (⟨"BedsArePlaces$Reader", "readsNegated", "(II)Z"⟩, 7) := ⟨⟨by decide +kernel, by decide +kernel⟩, List.mem_of_getElem? (i := 70) (by decide +kernel), List.mem_of_getElem? (i := 833) (by decide +kernel), List.mem_of_getElem? (i := 834) (by decide +kernel)⟩
def lw_privs_1 : List (MethodName × Nat) := [(⟨"BedsArePlaces", "isBed", "(I)Z"⟩, 11), (⟨"BedsArePlaces", "isOne", "(I)Z"⟩, 11), (⟨"BedsArePlaces$Reader", "goOn", "()V"⟩, 7), (⟨"BedsArePlaces$Reader", "isDigit", "(I)Z"⟩, 7), (⟨"BedsArePlaces$Reader", "readNumber", "()V"⟩, 7), (⟨"BedsArePlaces$Reader", "isLetter", "(I)Z"⟩, 7), (⟨"BedsArePlaces$Reader", "readLetters", "()V"⟩, 7), (⟨"BedsArePlaces$Reader", "keyHere", "()I"⟩, 7), (⟨"BedsArePlaces$Reader", "isWord", "(Ljava/lang/String;)Z"⟩, 7), (⟨"BedsArePlaces$Reader", "readsLevel", "(III)Z"⟩, 7), (⟨"BedsArePlaces$Reader", "readsPiece", "(II)Z"⟩, 7), (⟨"BedsArePlaces$Text", "add", "(I)V"⟩, 4), (⟨"BedsArePlaces$Reader", "readsName", "()Z"⟩, 7), (⟨"BedsArePlaces$Reader", "nameHere", "()I"⟩, 7), (⟨"BedsArePlaces$Reader", "isSign", "(C)Z"⟩, 7), (⟨"BedsArePlaces$Reader", "readsNegated", "(II)Z"⟩, 7)]
theorem lw_r1 : ∀ q ∈ lw_privs_1, lw_okq q := List.forall_mem_cons.mpr ⟨lw_p0, List.forall_mem_cons.mpr ⟨lw_p1, List.forall_mem_cons.mpr ⟨lw_p2, List.forall_mem_cons.mpr ⟨lw_p3, List.forall_mem_cons.mpr ⟨lw_p4, List.forall_mem_cons.mpr ⟨lw_p5, List.forall_mem_cons.mpr ⟨lw_p6, List.forall_mem_cons.mpr ⟨lw_p7, List.forall_mem_cons.mpr ⟨lw_p8, List.forall_mem_cons.mpr ⟨lw_p9, List.forall_mem_cons.mpr ⟨lw_p10, List.forall_mem_cons.mpr ⟨lw_p11, List.forall_mem_cons.mpr ⟨lw_p12, List.forall_mem_cons.mpr ⟨lw_p13, List.forall_mem_cons.mpr ⟨lw_p14, List.forall_mem_cons.mpr ⟨lw_p15, fun _ h => absurd h List.not_mem_nil⟩⟩⟩⟩⟩⟩⟩⟩⟩⟩⟩⟩⟩⟩⟩⟩
theorem lw_p16 : lw_okq (⟨"BedsArePlaces$Reader", "readsBracket", "(II)Z"⟩, 7) := ⟨⟨by decide +kernel, by decide +kernel⟩, List.mem_of_getElem? (i := 70) (by decide +kernel), List.mem_of_getElem? (i := 841) (by decide +kernel), List.mem_of_getElem? (i := 842) (by decide +kernel)⟩
theorem lw_p17 : lw_okq (⟨"BedsArePlaces$Reader", "isJoined", "(I)Z"⟩, 7) := ⟨⟨by decide +kernel, by decide +kernel⟩, List.mem_of_getElem? (i := 70) (by decide +kernel), List.mem_of_getElem? (i := 845) (by decide +kernel), List.mem_of_getElem? (i := 846) (by decide +kernel)⟩
theorem lw_p18 : lw_okq (⟨"BedsArePlaces", "rightAhead", "(II)I"⟩, 11) := ⟨⟨by decide +kernel, by decide +kernel⟩, List.mem_of_getElem? (i := 21) (by decide +kernel), List.mem_of_getElem? (i := 938) (by decide +kernel), List.mem_of_getElem? (i := 939) (by decide +kernel)⟩
theorem lw_p19 : lw_okq (⟨"BedsArePlacesModel", "comes", "(IIII)I"⟩, 37) := ⟨⟨by decide +kernel, by decide +kernel⟩, List.mem_of_getElem? (i := 954) (by decide +kernel), List.mem_of_getElem? (i := 1086) (by decide +kernel), List.mem_of_getElem? (i := 1087) (by decide +kernel)⟩
theorem lw_p20 : lw_okq (⟨"BedsArePlacesModel", "put", "(III)V"⟩, 37) := ⟨⟨by decide +kernel, by decide +kernel⟩, List.mem_of_getElem? (i := 954) (by decide +kernel), List.mem_of_getElem? (i := 1090) (by decide +kernel), List.mem_of_getElem? (i := 1091) (by decide +kernel)⟩
theorem lw_p21 : lw_okq (⟨"BedsArePlacesModel", "isBed", "(I)Z"⟩, 37) := ⟨⟨by decide +kernel, by decide +kernel⟩, List.mem_of_getElem? (i := 954) (by decide +kernel), List.mem_of_getElem? (i := 1098) (by decide +kernel), List.mem_of_getElem? (i := 1099) (by decide +kernel)⟩
theorem lw_p22 : lw_okq (⟨"BedsArePlacesModel", "of", "(II)I"⟩, 37) := ⟨⟨by decide +kernel, by decide +kernel⟩, List.mem_of_getElem? (i := 954) (by decide +kernel), List.mem_of_getElem? (i := 1102) (by decide +kernel), List.mem_of_getElem? (i := 1103) (by decide +kernel)⟩
theorem lw_p23 : lw_okq (⟨"BedsArePlacesModel", "wideOf", "(I)I"⟩, 37) := ⟨⟨by decide +kernel, by decide +kernel⟩, List.mem_of_getElem? (i := 954) (by decide +kernel), List.mem_of_getElem? (i := 1106) (by decide +kernel), List.mem_of_getElem? (i := 1107) (by decide +kernel)⟩
theorem lw_p24 : lw_okq (⟨"BedsArePlacesModel", "takesTo", "(II)I"⟩, 37) := ⟨⟨by decide +kernel, by decide +kernel⟩, List.mem_of_getElem? (i := 954) (by decide +kernel), List.mem_of_getElem? (i := 1110) (by decide +kernel), List.mem_of_getElem? (i := 1111) (by decide +kernel)⟩
theorem lw_p25 : lw_okq (⟨"BedsArePlacesModel", "leadsTo", "(I)I"⟩, 37) := ⟨⟨by decide +kernel, by decide +kernel⟩, List.mem_of_getElem? (i := 954) (by decide +kernel), List.mem_of_getElem? (i := 1114) (by decide +kernel), List.mem_of_getElem? (i := 1115) (by decide +kernel)⟩
theorem lw_p26 : lw_okq (⟨"BedsArePlacesModel", "worthOf", "(I)I"⟩, 37) := ⟨⟨by decide +kernel, by decide +kernel⟩, List.mem_of_getElem? (i := 954) (by decide +kernel), List.mem_of_getElem? (i := 1118) (by decide +kernel), List.mem_of_getElem? (i := 1119) (by decide +kernel)⟩
theorem lw_p27 : lw_okq (⟨"BedsArePlacesModel", "swaps", "(II)I"⟩, 37) := ⟨⟨by decide +kernel, by decide +kernel⟩, List.mem_of_getElem? (i := 954) (by decide +kernel), List.mem_of_getElem? (i := 1134) (by decide +kernel), List.mem_of_getElem? (i := 1135) (by decide +kernel)⟩
theorem lw_p28 : lw_okq (⟨"BedsArePlacesModel", "draw", "()I"⟩, 37) := ⟨⟨by decide +kernel, by decide +kernel⟩, List.mem_of_getElem? (i := 954) (by decide +kernel), List.mem_of_getElem? (i := 1150) (by decide +kernel), List.mem_of_getElem? (i := 1151) (by decide +kernel)⟩
theorem lw_p29 : lw_okq (⟨"BedsArePlacesModel", "lays", "(III)V"⟩, 37) := ⟨⟨by decide +kernel, by decide +kernel⟩, List.mem_of_getElem? (i := 954) (by decide +kernel), List.mem_of_getElem? (i := 1163) (by decide +kernel), List.mem_of_getElem? (i := 1164) (by decide +kernel)⟩
theorem lw_p30 : lw_okq (⟨"BedsArePlacesModel", "isOne", "(I)Z"⟩, 37) := ⟨⟨by decide +kernel, by decide +kernel⟩, List.mem_of_getElem? (i := 954) (by decide +kernel), List.mem_of_getElem? (i := 1171) (by decide +kernel), List.mem_of_getElem? (i := 1172) (by decide +kernel)⟩
theorem lw_p31 : lw_okq (⟨"BedsArePlacesModel", "hoursGive", "(I)I"⟩, 37) := ⟨⟨by decide +kernel, by decide +kernel⟩, List.mem_of_getElem? (i := 954) (by decide +kernel), List.mem_of_getElem? (i := 1175) (by decide +kernel), List.mem_of_getElem? (i := 1176) (by decide +kernel)⟩
def lw_privs_2 : List (MethodName × Nat) := [(⟨"BedsArePlaces$Reader", "readsBracket", "(II)Z"⟩, 7), (⟨"BedsArePlaces$Reader", "isJoined", "(I)Z"⟩, 7), (⟨"BedsArePlaces", "rightAhead", "(II)I"⟩, 11), (⟨"BedsArePlacesModel", "comes", "(IIII)I"⟩, 37), (⟨"BedsArePlacesModel", "put", "(III)V"⟩, 37), (⟨"BedsArePlacesModel", "isBed", "(I)Z"⟩, 37), (⟨"BedsArePlacesModel", "of", "(II)I"⟩, 37), (⟨"BedsArePlacesModel", "wideOf", "(I)I"⟩, 37), (⟨"BedsArePlacesModel", "takesTo", "(II)I"⟩, 37), (⟨"BedsArePlacesModel", "leadsTo", "(I)I"⟩, 37), (⟨"BedsArePlacesModel", "worthOf", "(I)I"⟩, 37), (⟨"BedsArePlacesModel", "swaps", "(II)I"⟩, 37), (⟨"BedsArePlacesModel", "draw", "()I"⟩, 37), (⟨"BedsArePlacesModel", "lays", "(III)V"⟩, 37), (⟨"BedsArePlacesModel", "isOne", "(I)Z"⟩, 37), (⟨"BedsArePlacesModel", "hoursGive", "(I)I"⟩, 37)]
theorem lw_r2 : ∀ q ∈ lw_privs_2, lw_okq q := List.forall_mem_cons.mpr ⟨lw_p16, List.forall_mem_cons.mpr ⟨lw_p17, List.forall_mem_cons.mpr ⟨lw_p18, List.forall_mem_cons.mpr ⟨lw_p19, List.forall_mem_cons.mpr ⟨lw_p20, List.forall_mem_cons.mpr ⟨lw_p21, List.forall_mem_cons.mpr ⟨lw_p22, List.forall_mem_cons.mpr ⟨lw_p23, List.forall_mem_cons.mpr ⟨lw_p24, List.forall_mem_cons.mpr ⟨lw_p25, List.forall_mem_cons.mpr ⟨lw_p26, List.forall_mem_cons.mpr ⟨lw_p27, List.forall_mem_cons.mpr ⟨lw_p28, List.forall_mem_cons.mpr ⟨lw_p29, List.forall_mem_cons.mpr ⟨lw_p30, List.forall_mem_cons.mpr ⟨lw_p31, fun _ h => absurd h List.not_mem_nil⟩⟩⟩⟩⟩⟩⟩⟩⟩⟩⟩⟩⟩⟩⟩⟩
theorem lw_p32 : lw_okq (⟨"BedsArePlacesModel", "counts", "(I)I"⟩, 37) := ⟨⟨by decide +kernel, by decide +kernel⟩, List.mem_of_getElem? (i := 954) (by decide +kernel), List.mem_of_getElem? (i := 1179) (by decide +kernel), List.mem_of_getElem? (i := 1180) (by decide +kernel)⟩
theorem lw_p33 : lw_okq (⟨"BedsArePlacesModel", "by", "(II)I"⟩, 37) := ⟨⟨by decide +kernel, by decide +kernel⟩, List.mem_of_getElem? (i := 954) (by decide +kernel), List.mem_of_getElem? (i := 1183) (by decide +kernel), List.mem_of_getElem? (i := 1184) (by decide +kernel)⟩
theorem lw_p34 : lw_okq (⟨"BedsArePlacesModel", "thereIn", "(I)I"⟩, 37) := ⟨⟨by decide +kernel, by decide +kernel⟩, List.mem_of_getElem? (i := 954) (by decide +kernel), List.mem_of_getElem? (i := 1187) (by decide +kernel), List.mem_of_getElem? (i := 1188) (by decide +kernel)⟩
theorem lw_p35 : lw_okq (⟨"BedsArePlacesModel", "worksOut", "(I)I"⟩, 37) := ⟨⟨by decide +kernel, by decide +kernel⟩, List.mem_of_getElem? (i := 954) (by decide +kernel), List.mem_of_getElem? (i := 1191) (by decide +kernel), List.mem_of_getElem? (i := 1192) (by decide +kernel)⟩
theorem lw_p36 : lw_okq (⟨"BedsArePlacesModel", "goesOn", "(I)V"⟩, 37) := ⟨⟨by decide +kernel, by decide +kernel⟩, List.mem_of_getElem? (i := 954) (by decide +kernel), List.mem_of_getElem? (i := 1213) (by decide +kernel), List.mem_of_getElem? (i := 1214) (by decide +kernel)⟩
theorem lw_p37 : lw_okq (⟨"BedsArePlacesModel", "night", "()V"⟩, 37) := ⟨⟨by decide +kernel, by decide +kernel⟩, List.mem_of_getElem? (i := 954) (by decide +kernel), List.mem_of_getElem? (i := 1217) (by decide +kernel), List.mem_of_getElem? (i := 1218) (by decide +kernel)⟩
theorem lw_p38 : lw_okq (⟨"BedsArePlacesModel", "liesDown", "(I)V"⟩, 37) := ⟨⟨by decide +kernel, by decide +kernel⟩, List.mem_of_getElem? (i := 954) (by decide +kernel), List.mem_of_getElem? (i := 1221) (by decide +kernel), List.mem_of_getElem? (i := 1222) (by decide +kernel)⟩
theorem lw_p39 : lw_okq (⟨"BedsArePlacesModel", "bedFor", "(I)I"⟩, 37) := ⟨⟨by decide +kernel, by decide +kernel⟩, List.mem_of_getElem? (i := 954) (by decide +kernel), List.mem_of_getElem? (i := 1225) (by decide +kernel), List.mem_of_getElem? (i := 1226) (by decide +kernel)⟩
theorem lw_p40 : lw_okq (⟨"BedsArePlacesModel", "wakes", "(I)V"⟩, 37) := ⟨⟨by decide +kernel, by decide +kernel⟩, List.mem_of_getElem? (i := 954) (by decide +kernel), List.mem_of_getElem? (i := 1232) (by decide +kernel), List.mem_of_getElem? (i := 1233) (by decide +kernel)⟩
theorem lw_p41 : lw_okq (⟨"BedsArePlacesModel", "atHome", "()I"⟩, 37) := ⟨⟨by decide +kernel, by decide +kernel⟩, List.mem_of_getElem? (i := 954) (by decide +kernel), List.mem_of_getElem? (i := 1240) (by decide +kernel), List.mem_of_getElem? (i := 1241) (by decide +kernel)⟩
theorem lw_p42 : lw_okq (⟨"BedsArePlacesModel", "isHome", "(I)Z"⟩, 37) := ⟨⟨by decide +kernel, by decide +kernel⟩, List.mem_of_getElem? (i := 954) (by decide +kernel), List.mem_of_getElem? (i := 1244) (by decide +kernel), List.mem_of_getElem? (i := 1245) (by decide +kernel)⟩
theorem lw_p43 : lw_okq (⟨"BedsArePlacesModel", "gone", "()I"⟩, 37) := ⟨⟨by decide +kernel, by decide +kernel⟩, List.mem_of_getElem? (i := 954) (by decide +kernel), List.mem_of_getElem? (i := 1248) (by decide +kernel), List.mem_of_getElem? (i := 1249) (by decide +kernel)⟩
theorem lw_p44 : lw_okq (⟨"BedsArePlacesModel", "looksAround", "(I)V"⟩, 37) := ⟨⟨by decide +kernel, by decide +kernel⟩, List.mem_of_getElem? (i := 954) (by decide +kernel), List.mem_of_getElem? (i := 1256) (by decide +kernel), List.mem_of_getElem? (i := 1257) (by decide +kernel)⟩
theorem lw_p45 : lw_okq (⟨"BedsArePlacesModel", "onward", "(I)I"⟩, 37) := ⟨⟨by decide +kernel, by decide +kernel⟩, List.mem_of_getElem? (i := 954) (by decide +kernel), List.mem_of_getElem? (i := 1260) (by decide +kernel), List.mem_of_getElem? (i := 1261) (by decide +kernel)⟩
theorem lw_p46 : lw_okq (⟨"BedsArePlacesModel", "reachedInAll", "(I)I"⟩, 37) := ⟨⟨by decide +kernel, by decide +kernel⟩, List.mem_of_getElem? (i := 954) (by decide +kernel), List.mem_of_getElem? (i := 1277) (by decide +kernel), List.mem_of_getElem? (i := 1278) (by decide +kernel)⟩
theorem lw_p47 : lw_okq (⟨"BedsArePlacesModel", "thinks", "()V"⟩, 37) := ⟨⟨by decide +kernel, by decide +kernel⟩, List.mem_of_getElem? (i := 954) (by decide +kernel), List.mem_of_getElem? (i := 1285) (by decide +kernel), List.mem_of_getElem? (i := 1286) (by decide +kernel)⟩
def lw_privs_3 : List (MethodName × Nat) := [(⟨"BedsArePlacesModel", "counts", "(I)I"⟩, 37), (⟨"BedsArePlacesModel", "by", "(II)I"⟩, 37), (⟨"BedsArePlacesModel", "thereIn", "(I)I"⟩, 37), (⟨"BedsArePlacesModel", "worksOut", "(I)I"⟩, 37), (⟨"BedsArePlacesModel", "goesOn", "(I)V"⟩, 37), (⟨"BedsArePlacesModel", "night", "()V"⟩, 37), (⟨"BedsArePlacesModel", "liesDown", "(I)V"⟩, 37), (⟨"BedsArePlacesModel", "bedFor", "(I)I"⟩, 37), (⟨"BedsArePlacesModel", "wakes", "(I)V"⟩, 37), (⟨"BedsArePlacesModel", "atHome", "()I"⟩, 37), (⟨"BedsArePlacesModel", "isHome", "(I)Z"⟩, 37), (⟨"BedsArePlacesModel", "gone", "()I"⟩, 37), (⟨"BedsArePlacesModel", "looksAround", "(I)V"⟩, 37), (⟨"BedsArePlacesModel", "onward", "(I)I"⟩, 37), (⟨"BedsArePlacesModel", "reachedInAll", "(I)I"⟩, 37), (⟨"BedsArePlacesModel", "thinks", "()V"⟩, 37)]
theorem lw_r3 : ∀ q ∈ lw_privs_3, lw_okq q := List.forall_mem_cons.mpr ⟨lw_p32, List.forall_mem_cons.mpr ⟨lw_p33, List.forall_mem_cons.mpr ⟨lw_p34, List.forall_mem_cons.mpr ⟨lw_p35, List.forall_mem_cons.mpr ⟨lw_p36, List.forall_mem_cons.mpr ⟨lw_p37, List.forall_mem_cons.mpr ⟨lw_p38, List.forall_mem_cons.mpr ⟨lw_p39, List.forall_mem_cons.mpr ⟨lw_p40, List.forall_mem_cons.mpr ⟨lw_p41, List.forall_mem_cons.mpr ⟨lw_p42, List.forall_mem_cons.mpr ⟨lw_p43, List.forall_mem_cons.mpr ⟨lw_p44, List.forall_mem_cons.mpr ⟨lw_p45, List.forall_mem_cons.mpr ⟨lw_p46, List.forall_mem_cons.mpr ⟨lw_p47, fun _ h => absurd h List.not_mem_nil⟩⟩⟩⟩⟩⟩⟩⟩⟩⟩⟩⟩⟩⟩⟩⟩
theorem lw_p48 : lw_okq (⟨"BedsArePlacesModel", "putsBack", "()V"⟩, 37) := ⟨⟨by decide +kernel, by decide +kernel⟩, List.mem_of_getElem? (i := 954) (by decide +kernel), List.mem_of_getElem? (i := 1289) (by decide +kernel), List.mem_of_getElem? (i := 1290) (by decide +kernel)⟩
theorem lw_p49 : lw_okq (⟨"BedsArePlacesModel", "homeBy", "(II)I"⟩, 37) := ⟨⟨by decide +kernel, by decide +kernel⟩, List.mem_of_getElem? (i := 954) (by decide +kernel), List.mem_of_getElem? (i := 1297) (by decide +kernel), List.mem_of_getElem? (i := 1298) (by decide +kernel)⟩
theorem lw_p50 : lw_okq (⟨"BedsArePlacesModel", "mostBy", "(IIII)I"⟩, 37) := ⟨⟨by decide +kernel, by decide +kernel⟩, List.mem_of_getElem? (i := 954) (by decide +kernel), List.mem_of_getElem? (i := 1309) (by decide +kernel), List.mem_of_getElem? (i := 1310) (by decide +kernel)⟩
theorem lw_p51 : lw_okq (⟨"BedsArePlacesModel", "go", "()V"⟩, 37) := ⟨⟨by decide +kernel, by decide +kernel⟩, List.mem_of_getElem? (i := 954) (by decide +kernel), List.mem_of_getElem? (i := 1345) (by decide +kernel), List.mem_of_getElem? (i := 1346) (by decide +kernel)⟩
theorem lw_p52 : lw_okq (⟨"BedsArePlacesModel", "isLetter", "(I)Z"⟩, 37) := ⟨⟨by decide +kernel, by decide +kernel⟩, List.mem_of_getElem? (i := 954) (by decide +kernel), List.mem_of_getElem? (i := 1349) (by decide +kernel), List.mem_of_getElem? (i := 1350) (by decide +kernel)⟩
theorem lw_p53 : lw_okq (⟨"BedsArePlacesModel", "isFigure", "(I)Z"⟩, 37) := ⟨⟨by decide +kernel, by decide +kernel⟩, List.mem_of_getElem? (i := 954) (by decide +kernel), List.mem_of_getElem? (i := 1353) (by decide +kernel), List.mem_of_getElem? (i := 1354) (by decide +kernel)⟩
theorem lw_p54 : lw_okq (⟨"BedsArePlacesModel", "takesKey", "()Z"⟩, 37) := ⟨⟨by decide +kernel, by decide +kernel⟩, List.mem_of_getElem? (i := 954) (by decide +kernel), List.mem_of_getElem? (i := 1357) (by decide +kernel), List.mem_of_getElem? (i := 1358) (by decide +kernel)⟩
theorem lw_p55 : lw_okq (⟨"BedsArePlacesModel", "takesE", "()Z"⟩, 37) := ⟨⟨by decide +kernel, by decide +kernel⟩, List.mem_of_getElem? (i := 954) (by decide +kernel), List.mem_of_getElem? (i := 1361) (by decide +kernel), List.mem_of_getElem? (i := 1362) (by decide +kernel)⟩
theorem lw_p56 : lw_okq (⟨"BedsArePlacesModel", "takesPart", "()Z"⟩, 37) := ⟨⟨by decide +kernel, by decide +kernel⟩, List.mem_of_getElem? (i := 954) (by decide +kernel), List.mem_of_getElem? (i := 1365) (by decide +kernel), List.mem_of_getElem? (i := 1366) (by decide +kernel)⟩
theorem lw_p57 : lw_okq (⟨"BedsArePlacesModel", "nameOf", "(I)I"⟩, 37) := ⟨⟨by decide +kernel, by decide +kernel⟩, List.mem_of_getElem? (i := 954) (by decide +kernel), List.mem_of_getElem? (i := 1369) (by decide +kernel), List.mem_of_getElem? (i := 1370) (by decide +kernel)⟩
theorem lw_p58 : lw_okq (⟨"BedsArePlacesModel", "settle", "(I)V"⟩, 37) := ⟨⟨by decide +kernel, by decide +kernel⟩, List.mem_of_getElem? (i := 954) (by decide +kernel), List.mem_of_getElem? (i := 1373) (by decide +kernel), List.mem_of_getElem? (i := 1374) (by decide +kernel)⟩
theorem lw_p59 : lw_okq (⟨"BedsArePlacesModel", "notsOpen", "()I"⟩, 37) := ⟨⟨by decide +kernel, by decide +kernel⟩, List.mem_of_getElem? (i := 954) (by decide +kernel), List.mem_of_getElem? (i := 1380) (by decide +kernel), List.mem_of_getElem? (i := 1381) (by decide +kernel)⟩
theorem lw_p60 : lw_okq (⟨"BedsArePlacesModel", "signHere", "()I"⟩, 37) := ⟨⟨by decide +kernel, by decide +kernel⟩, List.mem_of_getElem? (i := 954) (by decide +kernel), List.mem_of_getElem? (i := 1384) (by decide +kernel), List.mem_of_getElem? (i := 1385) (by decide +kernel)⟩
def lw_privs_4 : List (MethodName × Nat) := [(⟨"BedsArePlacesModel", "putsBack", "()V"⟩, 37), (⟨"BedsArePlacesModel", "homeBy", "(II)I"⟩, 37), (⟨"BedsArePlacesModel", "mostBy", "(IIII)I"⟩, 37), (⟨"BedsArePlacesModel", "go", "()V"⟩, 37), (⟨"BedsArePlacesModel", "isLetter", "(I)Z"⟩, 37), (⟨"BedsArePlacesModel", "isFigure", "(I)Z"⟩, 37), (⟨"BedsArePlacesModel", "takesKey", "()Z"⟩, 37), (⟨"BedsArePlacesModel", "takesE", "()Z"⟩, 37), (⟨"BedsArePlacesModel", "takesPart", "()Z"⟩, 37), (⟨"BedsArePlacesModel", "nameOf", "(I)I"⟩, 37), (⟨"BedsArePlacesModel", "settle", "(I)V"⟩, 37), (⟨"BedsArePlacesModel", "notsOpen", "()I"⟩, 37), (⟨"BedsArePlacesModel", "signHere", "()I"⟩, 37)]
theorem lw_r4 : ∀ q ∈ lw_privs_4, lw_okq q := List.forall_mem_cons.mpr ⟨lw_p48, List.forall_mem_cons.mpr ⟨lw_p49, List.forall_mem_cons.mpr ⟨lw_p50, List.forall_mem_cons.mpr ⟨lw_p51, List.forall_mem_cons.mpr ⟨lw_p52, List.forall_mem_cons.mpr ⟨lw_p53, List.forall_mem_cons.mpr ⟨lw_p54, List.forall_mem_cons.mpr ⟨lw_p55, List.forall_mem_cons.mpr ⟨lw_p56, List.forall_mem_cons.mpr ⟨lw_p57, List.forall_mem_cons.mpr ⟨lw_p58, List.forall_mem_cons.mpr ⟨lw_p59, List.forall_mem_cons.mpr ⟨lw_p60, fun _ h => absurd h List.not_mem_nil⟩⟩⟩⟩⟩⟩⟩⟩⟩⟩⟩⟩⟩
def lw_privs : List (MethodName × Nat) := lw_privs_1 ++ (lw_privs_2 ++ (lw_privs_3 ++ (lw_privs_4)))
def lw_tbl : List Cond := k2_sels lw_privs ++ tables_1
theorem lw_privs_ok : ∀ q ∈ lw_privs, lw_okq q := by
  show ∀ q ∈ lw_privs_1 ++ (lw_privs_2 ++ (lw_privs_3 ++ (lw_privs_4))), lw_okq q
  exact List.forall_mem_append.mpr ⟨lw_r1, List.forall_mem_append.mpr ⟨lw_r2, List.forall_mem_append.mpr ⟨lw_r3, lw_r4⟩⟩⟩
/-! ===== BEGIN printed: names, fields, word lists, decode rows ===== -/
def RX0 : String := "BedsArePlaces$Bed"
def TX0 : u_T := fun k => match k with
  | 0 => ("BedsArePlaces$Bed", "kind", "I", false)
  | 1 => ("BedsArePlaces$Bed", "at", "I", false)
  | 2 => ("BedsArePlaces$Bed", "to", "I", false)
  | 3 => ("BedsArePlaces$Bed", "other", "I", false)
  | _ => ("BedsArePlaces$Bed", "lying", "I", false)
def tyX0 : Nat → FieldType := fun k => match k with
  | 0 => .int
  | 1 => .int
  | 2 => .int
  | 3 => .int
  | _ => .int
abbrev wsX00 : List Cond := u_ws RX0 TX0 5
theorem nmX0 : ∀ a, a < 5 → ∀ b, b < 5 → a ≠ b → (TX0 a).2.1 ≠ (TX0 b).2.1 := by decide +kernel
theorem tyX0_ok : ∀ k, k < 5 → parseFieldDescriptor (TX0 k).2.2.1 = some (tyX0 k) := by decide +kernel
abbrev cX0_init : ByteArray := prog_2_method_1_code
def yX0_init : MethodName := ⟨RX0, "<init>", "()V"⟩
abbrev cX0_becomeAs : ByteArray := prog_2_method_2_code
def yX0_becomeAs : MethodName := ⟨RX0, "becomeAs", "(LBedsArePlaces$Bed;)V"⟩
abbrev cX0_isOf : ByteArray := prog_2_method_3_code
def yX0_isOf : MethodName := ⟨RX0, "isOf", "(I)Z"⟩
abbrev cX0_wide : ByteArray := prog_2_method_4_code
def yX0_wide : MethodName := ⟨RX0, "wide", "()I"⟩
abbrev cX0_takes : ByteArray := prog_2_method_5_code
def yX0_takes : MethodName := ⟨RX0, "takes", "(II)I"⟩
abbrev cX0_leads : ByteArray := prog_2_method_6_code
def yX0_leads : MethodName := ⟨RX0, "leads", "()I"⟩
abbrev cX0_worth : ByteArray := prog_2_method_7_code
def yX0_worth : MethodName := ⟨RX0, "worth", "()I"⟩
abbrev cX0_swings : ByteArray := prog_2_method_8_code
def yX0_swings : MethodName := ⟨RX0, "swings", "()V"⟩
def RX1 : String := "BedsArePlaces$Land"
def TX1 : u_T := fun k => match k with
  | 0 => ("BedsArePlaces$Land", "laws", "LBedsArePlaces$Laws;", true)
  | 1 => ("BedsArePlaces$Land", "beds", "[LBedsArePlaces$Bed;", true)
  | 2 => ("BedsArePlaces$Land", "bedCount", "I", false)
  | 3 => ("BedsArePlaces$Land", "folk", "[LBedsArePlaces$One;", true)
  | 4 => ("BedsArePlaces$Land", "folkCount", "I", false)
  | 5 => ("BedsArePlaces$Land", "carry", "I", false)
  | 6 => ("BedsArePlaces$Land", "slept", "I", false)
  | 7 => ("BedsArePlaces$Land", "awake", "I", false)
  | 8 => ("BedsArePlaces$Land", "lost", "I", false)
  | 9 => ("BedsArePlaces$Land", "carried", "I", false)
  | 10 => ("BedsArePlaces$Land", "night", "I", false)
  | 11 => ("BedsArePlaces$Land", "z", "I", false)
  | _ => ("BedsArePlaces$Land", "textCount", "I", false)
def tyX1 : Nat → FieldType := fun k => match k with
  | 0 => .object "BedsArePlaces$Laws"
  | 1 => .array (.object "BedsArePlaces$Bed")
  | 2 => .int
  | 3 => .array (.object "BedsArePlaces$One")
  | 4 => .int
  | 5 => .int
  | 6 => .int
  | 7 => .int
  | 8 => .int
  | 9 => .int
  | 10 => .int
  | 11 => .int
  | _ => .int
abbrev wsX10 : List Cond := u_ws RX1 TX1 13
theorem nmX1 : ∀ a, a < 13 → ∀ b, b < 13 → a ≠ b → (TX1 a).2.1 ≠ (TX1 b).2.1 := by decide +kernel
theorem tyX1_ok : ∀ k, k < 13 → parseFieldDescriptor (TX1 k).2.2.1 = some (tyX1 k) := by decide +kernel
abbrev cX1_init : ByteArray := prog_3_method_1_code
def yX1_init : MethodName := ⟨RX1, "<init>", "(LBedsArePlaces$Laws;)V"⟩
abbrev cX1_becomeAs : ByteArray := prog_3_method_2_code
def yX1_becomeAs : MethodName := ⟨RX1, "becomeAs", "(LBedsArePlaces$Land;)V"⟩
abbrev cX1_addBed : ByteArray := prog_3_method_3_code
def yX1_addBed : MethodName := ⟨RX1, "addBed", "(IIII)I"⟩
abbrev cX1_addOne : ByteArray := prog_3_method_4_code
def yX1_addOne : MethodName := ⟨RX1, "addOne", "(II)I"⟩
abbrev cX1_draw : ByteArray := prog_3_method_5_code
def yX1_draw : MethodName := ⟨RX1, "draw", "()I"⟩
abbrev cX1_lawOf : ByteArray := prog_3_method_6_code
def yX1_lawOf : MethodName := ⟨RX1, "lawOf", "(I)I"⟩
abbrev cX1_hours : ByteArray := prog_3_method_7_code
def yX1_hours : MethodName := ⟨RX1, "hours", "(LBedsArePlaces$One;I)I"⟩
abbrev cX1_presentIn : ByteArray := prog_3_method_8_code
def yX1_presentIn : MethodName := ⟨RX1, "presentIn", "(I)I"⟩
abbrev cX1_thoseIn : ByteArray := prog_3_method_9_code
def yX1_thoseIn : MethodName := ⟨RX1, "thoseIn", "(I)I"⟩
abbrev cX1_isAtHome : ByteArray := prog_3_method_10_code
def yX1_isAtHome : MethodName := ⟨RX1, "isAtHome", "(I)Z"⟩
abbrev cX1_thoseAtHome : ByteArray := prog_3_method_11_code
def yX1_thoseAtHome : MethodName := ⟨RX1, "thoseAtHome", "()I"⟩
abbrev cX1_thoseGone : ByteArray := prog_3_method_12_code
def yX1_thoseGone : MethodName := ⟨RX1, "thoseGone", "()I"⟩
abbrev cX1_passNights : ByteArray := prog_3_method_13_code
def yX1_passNights : MethodName := ⟨RX1, "passNights", "(I)V"⟩
abbrev cX1_passNight : ByteArray := prog_3_method_14_code
def yX1_passNight : MethodName := ⟨RX1, "passNight", "()V"⟩
abbrev cX1_lieDown : ByteArray := prog_3_method_15_code
def yX1_lieDown : MethodName := ⟨RX1, "lieDown", "()V"⟩
abbrev cX1_freeBedAt : ByteArray := prog_3_method_16_code
def yX1_freeBedAt : MethodName := ⟨RX1, "freeBedAt", "(I)I"⟩
abbrev cX1_wake : ByteArray := prog_3_method_17_code
def yX1_wake : MethodName := ⟨RX1, "wake", "()V"⟩
abbrev cX1_wakeThoseIn : ByteArray := prog_3_method_18_code
def yX1_wakeThoseIn : MethodName := ⟨RX1, "wakeThoseIn", "(IIZ)V"⟩
abbrev cX1_carryOne : ByteArray := prog_3_method_19_code
def yX1_carryOne : MethodName := ⟨RX1, "carryOne", "()V"⟩
abbrev cX1_nightsUntilHome : ByteArray := prog_3_method_20_code
def yX1_nightsUntilHome : MethodName := ⟨RX1, "nightsUntilHome", "(II)I"⟩
abbrev cX1_nightsTold : ByteArray := prog_3_method_21_code
def yX1_nightsTold : MethodName := ⟨RX1, "nightsTold", "(ILBedsArePlaces$Row;)I"⟩
def RX2 : String := "BedsArePlaces$Laws"
def TX2 : u_T := fun k => match k with
  | 0 => ("BedsArePlaces$Laws", "texts", "[LBedsArePlaces$Text;", true)
  | _ => ("BedsArePlaces$Laws", "stack", "[I", true)
def tyX2 : Nat → FieldType := fun k => match k with
  | 0 => .array (.object "BedsArePlaces$Text")
  | _ => .array .int
abbrev wsX20 : List Cond := u_ws RX2 TX2 2
theorem nmX2 : ∀ a, a < 2 → ∀ b, b < 2 → a ≠ b → (TX2 a).2.1 ≠ (TX2 b).2.1 := by decide +kernel
theorem tyX2_ok : ∀ k, k < 2 → parseFieldDescriptor (TX2 k).2.2.1 = some (tyX2 k) := by decide +kernel
abbrev cX2_init : ByteArray := prog_4_method_1_code
def yX2_init : MethodName := ⟨RX2, "<init>", "()V"⟩
abbrev cX2_counting : ByteArray := prog_4_method_2_code
def yX2_counting : MethodName := ⟨RX2, "counting", "(II)I"⟩
abbrev cX2_value : ByteArray := prog_4_method_3_code
def yX2_value : MethodName := ⟨RX2, "value", "(IIII)I"⟩
abbrev cX2_joined : ByteArray := prog_4_method_4_code
def yX2_joined : MethodName := ⟨RX2, "joined", "(III)I"⟩
def RX3 : String := "BedsArePlaces$One"
def TX3 : u_T := fun k => match k with
  | 0 => ("BedsArePlaces$One", "town", "I", false)
  | 1 => ("BedsArePlaces$One", "home", "I", false)
  | 2 => ("BedsArePlaces$One", "tired", "I", false)
  | 3 => ("BedsArePlaces$One", "gone", "I", false)
  | _ => ("BedsArePlaces$One", "liesIn", "I", false)
def tyX3 : Nat → FieldType := fun k => match k with
  | 0 => .int
  | 1 => .int
  | 2 => .int
  | 3 => .int
  | _ => .int
abbrev wsX30 : List Cond := u_ws RX3 TX3 5
theorem nmX3 : ∀ a, a < 5 → ∀ b, b < 5 → a ≠ b → (TX3 a).2.1 ≠ (TX3 b).2.1 := by decide +kernel
theorem tyX3_ok : ∀ k, k < 5 → parseFieldDescriptor (TX3 k).2.2.1 = some (tyX3 k) := by decide +kernel
abbrev cX3_init : ByteArray := prog_5_method_1_code
def yX3_init : MethodName := ⟨RX3, "<init>", "()V"⟩
abbrev cX3_becomeAs : ByteArray := prog_5_method_2_code
def yX3_becomeAs : MethodName := ⟨RX3, "becomeAs", "(LBedsArePlaces$One;)V"⟩
def RX4 : String := "BedsArePlaces$Reader"
def TX4 : u_T := fun k => match k with
  | 0 => ("BedsArePlaces$Reader", "bytes", "[I", true)
  | 1 => ("BedsArePlaces$Reader", "length", "I", false)
  | 2 => ("BedsArePlaces$Reader", "start", "I", false)
  | 3 => ("BedsArePlaces$Reader", "end", "I", false)
  | 4 => ("BedsArePlaces$Reader", "sort", "I", false)
  | 5 => ("BedsArePlaces$Reader", "number", "I", false)
  | _ => ("BedsArePlaces$Reader", "draft", "LBedsArePlaces$Text;", false)
def tyX4 : Nat → FieldType := fun k => match k with
  | 0 => .array .int
  | 1 => .int
  | 2 => .int
  | 3 => .int
  | 4 => .int
  | 5 => .int
  | _ => .object "BedsArePlaces$Text"
abbrev wsX40 : List Cond := u_ws RX4 TX4 7
theorem nmX4 : ∀ a, a < 7 → ∀ b, b < 7 → a ≠ b → (TX4 a).2.1 ≠ (TX4 b).2.1 := by decide +kernel
theorem tyX4_ok : ∀ k, k < 7 → parseFieldDescriptor (TX4 k).2.2.1 = some (tyX4 k) := by decide +kernel
abbrev cX4_init : ByteArray := prog_6_method_1_code
def yX4_init : MethodName := ⟨RX4, "<init>", "()V"⟩
abbrev cX4_take : ByteArray := prog_6_method_2_code
def yX4_take : MethodName := ⟨RX4, "take", "(I)V"⟩
abbrev cX4_readsText : ByteArray := prog_6_method_3_code
def yX4_readsText : MethodName := ⟨RX4, "readsText", "(LBedsArePlaces$Text;)Z"⟩
abbrev cX4_goOn : ByteArray := prog_6_method_4_code
def yX4_goOn : MethodName := ⟨RX4, "goOn", "()V"⟩
abbrev cX4_readNumber : ByteArray := prog_6_method_5_code
def yX4_readNumber : MethodName := ⟨RX4, "readNumber", "()V"⟩
abbrev cX4_readLetters : ByteArray := prog_6_method_6_code
def yX4_readLetters : MethodName := ⟨RX4, "readLetters", "()V"⟩
abbrev cX4_isDigit : ByteArray := prog_6_method_7_code
def yX4_isDigit : MethodName := ⟨RX4, "isDigit", "(I)Z"⟩
abbrev cX4_isLetter : ByteArray := prog_6_method_8_code
def yX4_isLetter : MethodName := ⟨RX4, "isLetter", "(I)Z"⟩
abbrev cX4_isSign : ByteArray := prog_6_method_9_code
def yX4_isSign : MethodName := ⟨RX4, "isSign", "(C)Z"⟩
abbrev cX4_isWord : ByteArray := prog_6_method_10_code
def yX4_isWord : MethodName := ⟨RX4, "isWord", "(Ljava/lang/String;)Z"⟩
abbrev cX4_keyHere : ByteArray := prog_6_method_11_code
def yX4_keyHere : MethodName := ⟨RX4, "keyHere", "()I"⟩
abbrev cX4_namesOf : ByteArray := prog_6_method_12_code
def yX4_namesOf : MethodName := ⟨RX4, "namesOf", "(I)Ljava/lang/String;"⟩
abbrev cX4_nameHere : ByteArray := prog_6_method_13_code
def yX4_nameHere : MethodName := ⟨RX4, "nameHere", "()I"⟩
abbrev cX4_signsOf : ByteArray := prog_6_method_14_code
def yX4_signsOf : MethodName := ⟨RX4, "signsOf", "(I)Ljava/lang/String;"⟩
abbrev cX4_isJoined : ByteArray := prog_6_method_15_code
def yX4_isJoined : MethodName := ⟨RX4, "isJoined", "(I)Z"⟩
abbrev cX4_readsLevel : ByteArray := prog_6_method_16_code
def yX4_readsLevel : MethodName := ⟨RX4, "readsLevel", "(III)Z"⟩
abbrev cX4_readsPiece : ByteArray := prog_6_method_17_code
def yX4_readsPiece : MethodName := ⟨RX4, "readsPiece", "(II)Z"⟩
abbrev cX4_readsName : ByteArray := prog_6_method_18_code
def yX4_readsName : MethodName := ⟨RX4, "readsName", "()Z"⟩
abbrev cX4_readsNegated : ByteArray := prog_6_method_19_code
def yX4_readsNegated : MethodName := ⟨RX4, "readsNegated", "(II)Z"⟩
abbrev cX4_readsBracket : ByteArray := prog_6_method_20_code
def yX4_readsBracket : MethodName := ⟨RX4, "readsBracket", "(II)Z"⟩
def RX5 : String := "BedsArePlaces$Row"
def TX5 : u_T := fun k => match k with
  | 0 => ("BedsArePlaces$Row", "sort", "I", false)
  | 1 => ("BedsArePlaces$Row", "length", "I", false)
  | _ => ("BedsArePlaces$Row", "places", "[I", true)
def tyX5 : Nat → FieldType := fun k => match k with
  | 0 => .int
  | 1 => .int
  | _ => .array .int
abbrev wsX50 : List Cond := u_ws RX5 TX5 3
theorem nmX5 : ∀ a, a < 3 → ∀ b, b < 3 → a ≠ b → (TX5 a).2.1 ≠ (TX5 b).2.1 := by decide +kernel
theorem tyX5_ok : ∀ k, k < 3 → parseFieldDescriptor (TX5 k).2.2.1 = some (tyX5 k) := by decide +kernel
abbrev cX5_init : ByteArray := prog_7_method_1_code
def yX5_init : MethodName := ⟨RX5, "<init>", "()V"⟩
abbrev cX5_isMissing : ByteArray := prog_7_method_2_code
def yX5_isMissing : MethodName := ⟨RX5, "isMissing", "()Z"⟩
abbrev cX5_has : ByteArray := prog_7_method_3_code
def yX5_has : MethodName := ⟨RX5, "has", "(I)Z"⟩
abbrev cX5_hasAll : ByteArray := prog_7_method_4_code
def yX5_hasAll : MethodName := ⟨RX5, "hasAll", "(II)Z"⟩
abbrev cX5_isNumber : ByteArray := prog_7_method_5_code
def yX5_isNumber : MethodName := ⟨RX5, "isNumber", "(I)Z"⟩
abbrev cX5_clear : ByteArray := prog_7_method_6_code
def yX5_clear : MethodName := ⟨RX5, "clear", "(II)V"⟩
abbrev cX5_becomeAs : ByteArray := prog_7_method_7_code
def yX5_becomeAs : MethodName := ⟨RX5, "becomeAs", "(LBedsArePlaces$Row;)V"⟩
def RX6 : String := "BedsArePlaces$Slot"
def TX6 : u_T := fun k => match k with
  | 0 => ("BedsArePlaces$Slot", "thing", "I", false)
  | 1 => ("BedsArePlaces$Slot", "bed", "LBedsArePlaces$Bed;", true)
  | 2 => ("BedsArePlaces$Slot", "row", "LBedsArePlaces$Row;", true)
  | _ => ("BedsArePlaces$Slot", "number", "I", false)
def tyX6 : Nat → FieldType := fun k => match k with
  | 0 => .int
  | 1 => .object "BedsArePlaces$Bed"
  | 2 => .object "BedsArePlaces$Row"
  | _ => .int
abbrev wsX60 : List Cond := u_ws RX6 TX6 4
theorem nmX6 : ∀ a, a < 4 → ∀ b, b < 4 → a ≠ b → (TX6 a).2.1 ≠ (TX6 b).2.1 := by decide +kernel
theorem tyX6_ok : ∀ k, k < 4 → parseFieldDescriptor (TX6 k).2.2.1 = some (tyX6 k) := by decide +kernel
abbrev cX6_init : ByteArray := prog_8_method_1_code
def yX6_init : MethodName := ⟨RX6, "<init>", "()V"⟩
def RX7 : String := "BedsArePlaces$Text"
def TX7 : u_T := fun k => match k with
  | 0 => ("BedsArePlaces$Text", "key", "I", false)
  | 1 => ("BedsArePlaces$Text", "parts", "[I", true)
  | 2 => ("BedsArePlaces$Text", "length", "I", false)
  | _ => ("BedsArePlaces$Text", "leaves", "I", false)
def tyX7 : Nat → FieldType := fun k => match k with
  | 0 => .int
  | 1 => .array .int
  | 2 => .int
  | _ => .int
abbrev wsX70 : List Cond := u_ws RX7 TX7 4
theorem nmX7 : ∀ a, a < 4 → ∀ b, b < 4 → a ≠ b → (TX7 a).2.1 ≠ (TX7 b).2.1 := by decide +kernel
theorem tyX7_ok : ∀ k, k < 4 → parseFieldDescriptor (TX7 k).2.2.1 = some (tyX7 k) := by decide +kernel
abbrev cX7_init : ByteArray := prog_9_method_1_code
def yX7_init : MethodName := ⟨RX7, "<init>", "()V"⟩
abbrev cX7_begin : ByteArray := prog_9_method_2_code
def yX7_begin : MethodName := ⟨RX7, "begin", "(I)V"⟩
abbrev cX7_addLeaf : ByteArray := prog_9_method_3_code
def yX7_addLeaf : MethodName := ⟨RX7, "addLeaf", "(I)V"⟩
abbrev cX7_addSign : ByteArray := prog_9_method_4_code
def yX7_addSign : MethodName := ⟨RX7, "addSign", "(C)V"⟩
abbrev cX7_add : ByteArray := prog_9_method_5_code
def yX7_add : MethodName := ⟨RX7, "add", "(I)V"⟩
def RX8 : String := "BedsArePlaces$Ways"
def TX8 : u_T := fun k => match k with
  | 0 => ("BedsArePlaces$Ways", "land", "LBedsArePlaces$Land;", true)
  | _ => ("BedsArePlaces$Ways", "reaches", "[I", true)
def tyX8 : Nat → FieldType := fun k => match k with
  | 0 => .object "BedsArePlaces$Land"
  | _ => .array .int
abbrev wsX80 : List Cond := u_ws RX8 TX8 2
theorem nmX8 : ∀ a, a < 2 → ∀ b, b < 2 → a ≠ b → (TX8 a).2.1 ≠ (TX8 b).2.1 := by decide +kernel
theorem tyX8_ok : ∀ k, k < 2 → parseFieldDescriptor (TX8 k).2.2.1 = some (tyX8 k) := by decide +kernel
abbrev cX8_init : ByteArray := prog_10_method_1_code
def yX8_init : MethodName := ⟨RX8, "<init>", "(LBedsArePlaces$Land;)V"⟩
abbrev cX8_oneFurther : ByteArray := prog_10_method_2_code
def yX8_oneFurther : MethodName := ⟨RX8, "oneFurther", "(II)I"⟩
abbrev cX8_reachOf : ByteArray := prog_10_method_3_code
def yX8_reachOf : MethodName := ⟨RX8, "reachOf", "(II)I"⟩
abbrev cX8_steps : ByteArray := prog_10_method_4_code
def yX8_steps : MethodName := ⟨RX8, "steps", "(II)I"⟩
abbrev cX8_reachedWithout : ByteArray := prog_10_method_5_code
def yX8_reachedWithout : MethodName := ⟨RX8, "reachedWithout", "(I)I"⟩
abbrev cX8_comingTo : ByteArray := prog_10_method_6_code
def yX8_comingTo : MethodName := ⟨RX8, "comingTo", "(I)I"⟩
abbrev cX8_lacking : ByteArray := prog_10_method_7_code
def yX8_lacking : MethodName := ⟨RX8, "lacking", "()I"⟩
def RX9 : String := "BedsArePlaces"
def TX9 : u_T := fun k => match k with
  | 0 => ("BedsArePlaces", "laws", "LBedsArePlaces$Laws;", true)
  | 1 => ("BedsArePlaces", "reader", "LBedsArePlaces$Reader;", true)
  | 2 => ("BedsArePlaces", "now", "LBedsArePlaces$Land;", true)
  | 3 => ("BedsArePlaces", "thought", "LBedsArePlaces$Land;", true)
  | 4 => ("BedsArePlaces", "image", "LBedsArePlaces$Land;", true)
  | 5 => ("BedsArePlaces", "imaged", "Z", false)
  | 6 => ("BedsArePlaces", "ways", "LBedsArePlaces$Ways;", true)
  | 7 => ("BedsArePlaces", "rows", "[LBedsArePlaces$Row;", true)
  | 8 => ("BedsArePlaces", "slots", "[LBedsArePlaces$Slot;", true)
  | 9 => ("BedsArePlaces", "waiting", "[I", true)
  | _ => ("BedsArePlaces", "waits", "I", false)
def tyX9 : Nat → FieldType := fun k => match k with
  | 0 => .object "BedsArePlaces$Laws"
  | 1 => .object "BedsArePlaces$Reader"
  | 2 => .object "BedsArePlaces$Land"
  | 3 => .object "BedsArePlaces$Land"
  | 4 => .object "BedsArePlaces$Land"
  | 5 => .boolean
  | 6 => .object "BedsArePlaces$Ways"
  | 7 => .array (.object "BedsArePlaces$Row")
  | 8 => .array (.object "BedsArePlaces$Slot")
  | 9 => .array .int
  | _ => .int
abbrev wsX90 : List Cond := u_ws RX9 TX9 11
theorem nmX9 : ∀ a, a < 11 → ∀ b, b < 11 → a ≠ b → (TX9 a).2.1 ≠ (TX9 b).2.1 := by decide +kernel
theorem tyX9_ok : ∀ k, k < 11 → parseFieldDescriptor (TX9 k).2.2.1 = some (tyX9 k) := by decide +kernel
abbrev cX9_init : ByteArray := prog_1_method_1_code
def yX9_init : MethodName := ⟨RX9, "<init>", "()V"⟩
abbrev cX9_bed : ByteArray := prog_1_method_2_code
def yX9_bed : MethodName := ⟨RX9, "bed", "(IIII)I"⟩
abbrev cX9_told : ByteArray := prog_1_method_3_code
def yX9_told : MethodName := ⟨RX9, "told", "(II)I"⟩
abbrev cX9_as : ByteArray := prog_1_method_4_code
def yX9_as : MethodName := ⟨RX9, "as", "(II)I"⟩
abbrev cX9_turns : ByteArray := prog_1_method_5_code
def yX9_turns : MethodName := ⟨RX9, "turns", "(II)I"⟩
abbrev cX9_set : ByteArray := prog_1_method_6_code
def yX9_set : MethodName := ⟨RX9, "set", "(III)I"⟩
abbrev cX9_carry : ByteArray := prog_1_method_7_code
def yX9_carry : MethodName := ⟨RX9, "carry", "(I)I"⟩
abbrev cX9_deal : ByteArray := prog_1_method_8_code
def yX9_deal : MethodName := ⟨RX9, "deal", "(I)I"⟩
abbrev cX9_seed : ByteArray := prog_1_method_9_code
def yX9_seed : MethodName := ⟨RX9, "seed", "(I)I"⟩
abbrev cX9_one : ByteArray := prog_1_method_10_code
def yX9_one : MethodName := ⟨RX9, "one", "(II)I"⟩
abbrev cX9_folk : ByteArray := prog_1_method_11_code
def yX9_folk : MethodName := ⟨RX9, "folk", "(II)I"⟩
abbrev cX9_sends : ByteArray := prog_1_method_12_code
def yX9_sends : MethodName := ⟨RX9, "sends", "(III)I"⟩
abbrev cX9_who : ByteArray := prog_1_method_13_code
def yX9_who : MethodName := ⟨RX9, "who", "(I)I"⟩
abbrev cX9_nights : ByteArray := prog_1_method_14_code
def yX9_nights : MethodName := ⟨RX9, "nights", "(I)I"⟩
abbrev cX9_land : ByteArray := prog_1_method_15_code
def yX9_land : MethodName := ⟨RX9, "land", "(I)I"⟩
abbrev cX9_reach : ByteArray := prog_1_method_16_code
def yX9_reach : MethodName := ⟨RX9, "reach", "(I)I"⟩
abbrev cX9_way : ByteArray := prog_1_method_17_code
def yX9_way : MethodName := ⟨RX9, "way", "(II)I"⟩
abbrev cX9_lacks : ByteArray := prog_1_method_18_code
def yX9_lacks : MethodName := ⟨RX9, "lacks", "()I"⟩
abbrev cX9_missed : ByteArray := prog_1_method_19_code
def yX9_missed : MethodName := ⟨RX9, "missed", "(I)I"⟩
abbrev cX9_behind : ByteArray := prog_1_method_20_code
def yX9_behind : MethodName := ⟨RX9, "behind", "(II)I"⟩
abbrev cX9_home : ByteArray := prog_1_method_21_code
def yX9_home : MethodName := ⟨RX9, "home", "(I)I"⟩
abbrev cX9_brought : ByteArray := prog_1_method_22_code
def yX9_brought : MethodName := ⟨RX9, "brought", "(II)I"⟩
abbrev cX9_belongs : ByteArray := prog_1_method_23_code
def yX9_belongs : MethodName := ⟨RX9, "belongs", "(III)I"⟩
abbrev cX9_becomes : ByteArray := prog_1_method_24_code
def yX9_becomes : MethodName := ⟨RX9, "becomes", "(III)I"⟩
abbrev cX9_whose : ByteArray := prog_1_method_25_code
def yX9_whose : MethodName := ⟨RX9, "whose", "(II)I"⟩
abbrev cX9_fee : ByteArray := prog_1_method_26_code
def yX9_fee : MethodName := ⟨RX9, "fee", "()I"⟩
abbrev cX9_fine : ByteArray := prog_1_method_27_code
def yX9_fine : MethodName := ⟨RX9, "fine", "(I)I"⟩
abbrev cX9_feed : ByteArray := prog_1_method_28_code
def yX9_feed : MethodName := ⟨RX9, "feed", "(III)I"⟩
abbrev cX9_trim : ByteArray := prog_1_method_29_code
def yX9_trim : MethodName := ⟨RX9, "trim", "(I)I"⟩
abbrev cX9_text : ByteArray := prog_1_method_30_code
def yX9_text : MethodName := ⟨RX9, "text", "()I"⟩
abbrev cX9_textTold : ByteArray := prog_1_method_31_code
def yX9_textTold : MethodName := ⟨RX9, "textTold", "(II)I"⟩
abbrev cX9_why : ByteArray := prog_1_method_32_code
def yX9_why : MethodName := ⟨RX9, "why", "(I)I"⟩
abbrev cX9_sheet : ByteArray := prog_1_method_33_code
def yX9_sheet : MethodName := ⟨RX9, "sheet", "(III)I"⟩
abbrev cX9_mark : ByteArray := prog_1_method_34_code
def yX9_mark : MethodName := ⟨RX9, "mark", "(III)I"⟩
abbrev cX9_pour : ByteArray := prog_1_method_35_code
def yX9_pour : MethodName := ⟨RX9, "pour", "(I)I"⟩
abbrev cX9_reads : ByteArray := prog_1_method_36_code
def yX9_reads : MethodName := ⟨RX9, "reads", "(I)I"⟩
abbrev cX9_copy : ByteArray := prog_1_method_37_code
def yX9_copy : MethodName := ⟨RX9, "copy", "(IIIII)I"⟩
abbrev cX9_lay : ByteArray := prog_1_method_38_code
def yX9_lay : MethodName := ⟨RX9, "lay", "(III)I"⟩
abbrev cX9_ask : ByteArray := prog_1_method_39_code
def yX9_ask : MethodName := ⟨RX9, "ask", "(II)I"⟩
abbrev cX9_item : ByteArray := prog_1_method_40_code
def yX9_item : MethodName := ⟨RX9, "item", "(II)I"⟩
abbrev cX9_rest : ByteArray := prog_1_method_41_code
def yX9_rest : MethodName := ⟨RX9, "rest", "(II)I"⟩
abbrev cX9_tell : ByteArray := prog_1_method_42_code
def yX9_tell : MethodName := ⟨RX9, "tell", "(I)I"⟩
abbrev cX9_check : ByteArray := prog_1_method_43_code
def yX9_check : MethodName := ⟨RX9, "check", "(I)I"⟩
abbrev cX9_keep : ByteArray := prog_1_method_44_code
def yX9_keep : MethodName := ⟨RX9, "keep", "()I"⟩
abbrev cX9_back : ByteArray := prog_1_method_45_code
def yX9_back : MethodName := ⟨RX9, "back", "()I"⟩
abbrev cX9_count : ByteArray := prog_1_method_46_code
def yX9_count : MethodName := ⟨RX9, "count", "(I)I"⟩
abbrev cX9_isBed : ByteArray := prog_1_method_47_code
def yX9_isBed : MethodName := ⟨RX9, "isBed", "(I)Z"⟩
abbrev cX9_isOne : ByteArray := prog_1_method_48_code
def yX9_isOne : MethodName := ⟨RX9, "isOne", "(I)Z"⟩
abbrev cX9_isTown : ByteArray := prog_1_method_49_code
def yX9_isTown : MethodName := ⟨RX9, "isTown", "(I)Z"⟩
abbrev cX9_isKind : ByteArray := prog_1_method_50_code
def yX9_isKind : MethodName := ⟨RX9, "isKind", "(I)Z"⟩
abbrev cX9_isSheet : ByteArray := prog_1_method_51_code
def yX9_isSheet : MethodName := ⟨RX9, "isSheet", "(I)Z"⟩
abbrev cX9_isSlot : ByteArray := prog_1_method_52_code
def yX9_isSlot : MethodName := ⟨RX9, "isSlot", "(I)Z"⟩
abbrev cX9_mostOfOne : ByteArray := prog_1_method_53_code
def yX9_mostOfOne : MethodName := ⟨RX9, "mostOfOne", "(I)I"⟩
abbrev cX9_within : ByteArray := prog_1_method_54_code
def yX9_within : MethodName := ⟨RX9, "within", "(II)I"⟩
abbrev cX9_rightAhead : ByteArray := prog_1_method_55_code
def yX9_rightAhead : MethodName := ⟨RX9, "rightAhead", "(II)I"⟩
def RX10 : String := "BedsArePlacesModel"
def TX10 : u_T := fun k => match k with
  | 0 => ("BedsArePlacesModel", "now", "[I", true)
  | 1 => ("BedsArePlacesModel", "image", "[I", true)
  | 2 => ("BedsArePlacesModel", "aside", "[I", true)
  | 3 => ("BedsArePlacesModel", "hasImage", "Z", false)
  | 4 => ("BedsArePlacesModel", "lying", "[I", true)
  | 5 => ("BedsArePlacesModel", "leads", "[I", true)
  | 6 => ("BedsArePlacesModel", "reached", "[I", true)
  | 7 => ("BedsArePlacesModel", "before", "[I", true)
  | 8 => ("BedsArePlacesModel", "alike", "[I", true)
  | 9 => ("BedsArePlacesModel", "tape", "[I", true)
  | 10 => ("BedsArePlacesModel", "taped", "I", false)
  | 11 => ("BedsArePlacesModel", "next", "I", false)
  | 12 => ("BedsArePlacesModel", "from", "I", false)
  | 13 => ("BedsArePlacesModel", "token", "I", false)
  | 14 => ("BedsArePlacesModel", "value", "I", false)
  | 15 => ("BedsArePlacesModel", "ended", "I", false)
  | 16 => ("BedsArePlacesModel", "key", "I", false)
  | 17 => ("BedsArePlacesModel", "keys", "[C", true)
  | 18 => ("BedsArePlacesModel", "keyAt", "[I", true)
  | 19 => ("BedsArePlacesModel", "code", "[I", true)
  | 20 => ("BedsArePlacesModel", "codes", "I", false)
  | 21 => ("BedsArePlacesModel", "atoms", "I", false)
  | 22 => ("BedsArePlacesModel", "waits", "[I", true)
  | 23 => ("BedsArePlacesModel", "held", "I", false)
  | 24 => ("BedsArePlacesModel", "tested", "[Z", true)
  | 25 => ("BedsArePlacesModel", "stack", "[I", true)
  | 26 => ("BedsArePlacesModel", "facts", "[I", true)
  | 27 => ("BedsArePlacesModel", "sorts", "[I", true)
  | 28 => ("BedsArePlacesModel", "sizes", "[I", true)
  | 29 => ("BedsArePlacesModel", "cells", "[I", true)
  | 30 => ("BedsArePlacesModel", "holds", "[I", true)
  | 31 => ("BedsArePlacesModel", "holdsA", "[I", true)
  | 32 => ("BedsArePlacesModel", "holdsB", "[I", true)
  | 33 => ("BedsArePlacesModel", "heldCells", "[I", true)
  | 34 => ("BedsArePlacesModel", "moved", "[I", true)
  | 35 => ("BedsArePlacesModel", "tells", "[I", true)
  | _ => ("BedsArePlacesModel", "waiting", "I", false)
def tyX10 : Nat → FieldType := fun k => match k with
  | 0 => .array .int
  | 1 => .array .int
  | 2 => .array .int
  | 3 => .boolean
  | 4 => .array .int
  | 5 => .array .int
  | 6 => .array .int
  | 7 => .array .int
  | 8 => .array .int
  | 9 => .array .int
  | 10 => .int
  | 11 => .int
  | 12 => .int
  | 13 => .int
  | 14 => .int
  | 15 => .int
  | 16 => .int
  | 17 => .array .char
  | 18 => .array .int
  | 19 => .array .int
  | 20 => .int
  | 21 => .int
  | 22 => .array .int
  | 23 => .int
  | 24 => .array .boolean
  | 25 => .array .int
  | 26 => .array .int
  | 27 => .array .int
  | 28 => .array .int
  | 29 => .array .int
  | 30 => .array .int
  | 31 => .array .int
  | 32 => .array .int
  | 33 => .array .int
  | 34 => .array .int
  | 35 => .array .int
  | _ => .int
abbrev wsX100 : List Cond := u_ws RX10 TX10 37
theorem nmX10 : ∀ a, a < 37 → ∀ b, b < 37 → a ≠ b → (TX10 a).2.1 ≠ (TX10 b).2.1 := by decide +kernel
theorem tyX10_ok : ∀ k, k < 37 → parseFieldDescriptor (TX10 k).2.2.1 = some (tyX10 k) := by decide +kernel
abbrev cX10_init : ByteArray := prog_12_method_1_code
def yX10_init : MethodName := ⟨RX10, "<init>", "()V"⟩
abbrev cX10_in : ByteArray := prog_12_method_2_code
def yX10_in : MethodName := ⟨RX10, "in", "(III)Z"⟩
abbrev cX10_within : ByteArray := prog_12_method_3_code
def yX10_within : MethodName := ⟨RX10, "within", "(III)I"⟩
abbrev cX10_copyAll : ByteArray := prog_12_method_4_code
def yX10_copyAll : MethodName := ⟨RX10, "copyAll", "([I[I)V"⟩
abbrev cX10_isBed : ByteArray := prog_12_method_5_code
def yX10_isBed : MethodName := ⟨RX10, "isBed", "(I)Z"⟩
abbrev cX10_isOne : ByteArray := prog_12_method_6_code
def yX10_isOne : MethodName := ⟨RX10, "isOne", "(I)Z"⟩
abbrev cX10_isTown : ByteArray := prog_12_method_7_code
def yX10_isTown : MethodName := ⟨RX10, "isTown", "(I)Z"⟩
abbrev cX10_of : ByteArray := prog_12_method_8_code
def yX10_of : MethodName := ⟨RX10, "of", "(II)I"⟩
abbrev cX10_put : ByteArray := prog_12_method_9_code
def yX10_put : MethodName := ⟨RX10, "put", "(III)V"⟩
abbrev cX10_by : ByteArray := prog_12_method_10_code
def yX10_by : MethodName := ⟨RX10, "by", "(II)I"⟩
abbrev cX10_lays : ByteArray := prog_12_method_11_code
def yX10_lays : MethodName := ⟨RX10, "lays", "(III)V"⟩
abbrev cX10_swaps : ByteArray := prog_12_method_12_code
def yX10_swaps : MethodName := ⟨RX10, "swaps", "(II)I"⟩
abbrev cX10_comes : ByteArray := prog_12_method_13_code
def yX10_comes : MethodName := ⟨RX10, "comes", "(IIII)I"⟩
abbrev cX10_bed : ByteArray := prog_12_method_14_code
def yX10_bed : MethodName := ⟨RX10, "bed", "(IIII)I"⟩
abbrev cX10_wideOf : ByteArray := prog_12_method_15_code
def yX10_wideOf : MethodName := ⟨RX10, "wideOf", "(I)I"⟩
abbrev cX10_takesTo : ByteArray := prog_12_method_16_code
def yX10_takesTo : MethodName := ⟨RX10, "takesTo", "(II)I"⟩
abbrev cX10_leadsTo : ByteArray := prog_12_method_17_code
def yX10_leadsTo : MethodName := ⟨RX10, "leadsTo", "(I)I"⟩
abbrev cX10_worthOf : ByteArray := prog_12_method_18_code
def yX10_worthOf : MethodName := ⟨RX10, "worthOf", "(I)I"⟩
abbrev cX10_told : ByteArray := prog_12_method_19_code
def yX10_told : MethodName := ⟨RX10, "told", "(II)I"⟩
abbrev cX10_isUnder : ByteArray := prog_12_method_20_code
def yX10_isUnder : MethodName := ⟨RX10, "isUnder", "(II)Z"⟩
abbrev cX10_as : ByteArray := prog_12_method_21_code
def yX10_as : MethodName := ⟨RX10, "as", "(II)I"⟩
abbrev cX10_turns : ByteArray := prog_12_method_22_code
def yX10_turns : MethodName := ⟨RX10, "turns", "(II)I"⟩
abbrev cX10_set : ByteArray := prog_12_method_23_code
def yX10_set : MethodName := ⟨RX10, "set", "(III)I"⟩
abbrev cX10_carry : ByteArray := prog_12_method_24_code
def yX10_carry : MethodName := ⟨RX10, "carry", "(I)I"⟩
abbrev cX10_draw : ByteArray := prog_12_method_25_code
def yX10_draw : MethodName := ⟨RX10, "draw", "()I"⟩
abbrev cX10_deal : ByteArray := prog_12_method_26_code
def yX10_deal : MethodName := ⟨RX10, "deal", "(I)I"⟩
abbrev cX10_seed : ByteArray := prog_12_method_27_code
def yX10_seed : MethodName := ⟨RX10, "seed", "(I)I"⟩
abbrev cX10_one : ByteArray := prog_12_method_28_code
def yX10_one : MethodName := ⟨RX10, "one", "(II)I"⟩
abbrev cX10_thereIn : ByteArray := prog_12_method_29_code
def yX10_thereIn : MethodName := ⟨RX10, "thereIn", "(I)I"⟩
abbrev cX10_hoursGive : ByteArray := prog_12_method_30_code
def yX10_hoursGive : MethodName := ⟨RX10, "hoursGive", "(I)I"⟩
abbrev cX10_folk : ByteArray := prog_12_method_31_code
def yX10_folk : MethodName := ⟨RX10, "folk", "(II)I"⟩
abbrev cX10_sends : ByteArray := prog_12_method_32_code
def yX10_sends : MethodName := ⟨RX10, "sends", "(III)I"⟩
abbrev cX10_who : ByteArray := prog_12_method_33_code
def yX10_who : MethodName := ⟨RX10, "who", "(I)I"⟩
abbrev cX10_manyOf : ByteArray := prog_12_method_34_code
def yX10_manyOf : MethodName := ⟨RX10, "manyOf", "(I)I"⟩
abbrev cX10_bedFor : ByteArray := prog_12_method_35_code
def yX10_bedFor : MethodName := ⟨RX10, "bedFor", "(I)I"⟩
abbrev cX10_liesDown : ByteArray := prog_12_method_36_code
def yX10_liesDown : MethodName := ⟨RX10, "liesDown", "(I)V"⟩
abbrev cX10_wakes : ByteArray := prog_12_method_37_code
def yX10_wakes : MethodName := ⟨RX10, "wakes", "(I)V"⟩
abbrev cX10_night : ByteArray := prog_12_method_38_code
def yX10_night : MethodName := ⟨RX10, "night", "()V"⟩
abbrev cX10_goesOn : ByteArray := prog_12_method_39_code
def yX10_goesOn : MethodName := ⟨RX10, "goesOn", "(I)V"⟩
abbrev cX10_nights : ByteArray := prog_12_method_40_code
def yX10_nights : MethodName := ⟨RX10, "nights", "(I)I"⟩
abbrev cX10_isHome : ByteArray := prog_12_method_41_code
def yX10_isHome : MethodName := ⟨RX10, "isHome", "(I)Z"⟩
abbrev cX10_atHome : ByteArray := prog_12_method_42_code
def yX10_atHome : MethodName := ⟨RX10, "atHome", "()I"⟩
abbrev cX10_gone : ByteArray := prog_12_method_43_code
def yX10_gone : MethodName := ⟨RX10, "gone", "()I"⟩
abbrev cX10_land : ByteArray := prog_12_method_44_code
def yX10_land : MethodName := ⟨RX10, "land", "(I)I"⟩
abbrev cX10_looksAround : ByteArray := prog_12_method_45_code
def yX10_looksAround : MethodName := ⟨RX10, "looksAround", "(I)V"⟩
abbrev cX10_onward : ByteArray := prog_12_method_46_code
def yX10_onward : MethodName := ⟨RX10, "onward", "(I)I"⟩
abbrev cX10_reach : ByteArray := prog_12_method_47_code
def yX10_reach : MethodName := ⟨RX10, "reach", "(I)I"⟩
abbrev cX10_way : ByteArray := prog_12_method_48_code
def yX10_way : MethodName := ⟨RX10, "way", "(II)I"⟩
abbrev cX10_lacks : ByteArray := prog_12_method_49_code
def yX10_lacks : MethodName := ⟨RX10, "lacks", "()I"⟩
abbrev cX10_reachedInAll : ByteArray := prog_12_method_50_code
def yX10_reachedInAll : MethodName := ⟨RX10, "reachedInAll", "(I)I"⟩
abbrev cX10_missed : ByteArray := prog_12_method_51_code
def yX10_missed : MethodName := ⟨RX10, "missed", "(I)I"⟩
abbrev cX10_thinks : ByteArray := prog_12_method_52_code
def yX10_thinks : MethodName := ⟨RX10, "thinks", "()V"⟩
abbrev cX10_putsBack : ByteArray := prog_12_method_53_code
def yX10_putsBack : MethodName := ⟨RX10, "putsBack", "()V"⟩
abbrev cX10_behind : ByteArray := prog_12_method_54_code
def yX10_behind : MethodName := ⟨RX10, "behind", "(II)I"⟩
abbrev cX10_homeBy : ByteArray := prog_12_method_55_code
def yX10_homeBy : MethodName := ⟨RX10, "homeBy", "(II)I"⟩
abbrev cX10_home : ByteArray := prog_12_method_56_code
def yX10_home : MethodName := ⟨RX10, "home", "(I)I"⟩
abbrev cX10_brought : ByteArray := prog_12_method_57_code
def yX10_brought : MethodName := ⟨RX10, "brought", "(II)I"⟩
abbrev cX10_mostBy : ByteArray := prog_12_method_58_code
def yX10_mostBy : MethodName := ⟨RX10, "mostBy", "(IIII)I"⟩
abbrev cX10_belongs : ByteArray := prog_12_method_59_code
def yX10_belongs : MethodName := ⟨RX10, "belongs", "(III)I"⟩
abbrev cX10_becomes : ByteArray := prog_12_method_60_code
def yX10_becomes : MethodName := ⟨RX10, "becomes", "(III)I"⟩
abbrev cX10_whose : ByteArray := prog_12_method_61_code
def yX10_whose : MethodName := ⟨RX10, "whose", "(II)I"⟩
abbrev cX10_fee : ByteArray := prog_12_method_62_code
def yX10_fee : MethodName := ⟨RX10, "fee", "()I"⟩
abbrev cX10_fine : ByteArray := prog_12_method_63_code
def yX10_fine : MethodName := ⟨RX10, "fine", "(I)I"⟩
abbrev cX10_feed : ByteArray := prog_12_method_64_code
def yX10_feed : MethodName := ⟨RX10, "feed", "(III)I"⟩
abbrev cX10_trim : ByteArray := prog_12_method_65_code
def yX10_trim : MethodName := ⟨RX10, "trim", "(I)I"⟩
abbrev cX10_isLetter : ByteArray := prog_12_method_66_code
def yX10_isLetter : MethodName := ⟨RX10, "isLetter", "(I)Z"⟩
abbrev cX10_isFigure : ByteArray := prog_12_method_67_code
def yX10_isFigure : MethodName := ⟨RX10, "isFigure", "(I)Z"⟩
abbrev cX10_go : ByteArray := prog_12_method_68_code
def yX10_go : MethodName := ⟨RX10, "go", "()V"⟩
abbrev cX10_takesKey : ByteArray := prog_12_method_69_code
def yX10_takesKey : MethodName := ⟨RX10, "takesKey", "()Z"⟩
abbrev cX10_nameOf : ByteArray := prog_12_method_70_code
def yX10_nameOf : MethodName := ⟨RX10, "nameOf", "(I)I"⟩
abbrev cX10_rank : ByteArray := prog_12_method_71_code
def yX10_rank : MethodName := ⟨RX10, "rank", "(I)I"⟩
abbrev cX10_settle : ByteArray := prog_12_method_72_code
def yX10_settle : MethodName := ⟨RX10, "settle", "(I)V"⟩
abbrev cX10_signHere : ByteArray := prog_12_method_73_code
def yX10_signHere : MethodName := ⟨RX10, "signHere", "()I"⟩
abbrev cX10_takesPart : ByteArray := prog_12_method_74_code
def yX10_takesPart : MethodName := ⟨RX10, "takesPart", "()Z"⟩
abbrev cX10_takesE : ByteArray := prog_12_method_75_code
def yX10_takesE : MethodName := ⟨RX10, "takesE", "()Z"⟩
abbrev cX10_notsOpen : ByteArray := prog_12_method_76_code
def yX10_notsOpen : MethodName := ⟨RX10, "notsOpen", "()I"⟩
abbrev cX10_text : ByteArray := prog_12_method_77_code
def yX10_text : MethodName := ⟨RX10, "text", "()I"⟩
abbrev cX10_textTold : ByteArray := prog_12_method_78_code
def yX10_textTold : MethodName := ⟨RX10, "textTold", "(II)I"⟩
abbrev cX10_counts : ByteArray := prog_12_method_79_code
def yX10_counts : MethodName := ⟨RX10, "counts", "(I)I"⟩
abbrev cX10_why : ByteArray := prog_12_method_80_code
def yX10_why : MethodName := ⟨RX10, "why", "(I)I"⟩
abbrev cX10_two : ByteArray := prog_12_method_81_code
def yX10_two : MethodName := ⟨RX10, "two", "(III)I"⟩
abbrev cX10_worksOut : ByteArray := prog_12_method_82_code
def yX10_worksOut : MethodName := ⟨RX10, "worksOut", "(I)I"⟩
abbrev cX10_isSheet : ByteArray := prog_12_method_83_code
def yX10_isSheet : MethodName := ⟨RX10, "isSheet", "(I)Z"⟩
abbrev cX10_isSlot : ByteArray := prog_12_method_84_code
def yX10_isSlot : MethodName := ⟨RX10, "isSlot", "(I)Z"⟩
abbrev cX10_sheet : ByteArray := prog_12_method_85_code
def yX10_sheet : MethodName := ⟨RX10, "sheet", "(III)I"⟩
abbrev cX10_mark : ByteArray := prog_12_method_86_code
def yX10_mark : MethodName := ⟨RX10, "mark", "(III)I"⟩
abbrev cX10_pour : ByteArray := prog_12_method_87_code
def yX10_pour : MethodName := ⟨RX10, "pour", "(I)I"⟩
abbrev cX10_reads : ByteArray := prog_12_method_88_code
def yX10_reads : MethodName := ⟨RX10, "reads", "(I)I"⟩
abbrev cX10_copy : ByteArray := prog_12_method_89_code
def yX10_copy : MethodName := ⟨RX10, "copy", "(IIIII)I"⟩
abbrev cX10_lay : ByteArray := prog_12_method_90_code
def yX10_lay : MethodName := ⟨RX10, "lay", "(III)I"⟩
abbrev cX10_ask : ByteArray := prog_12_method_91_code
def yX10_ask : MethodName := ⟨RX10, "ask", "(II)I"⟩
abbrev cX10_item : ByteArray := prog_12_method_92_code
def yX10_item : MethodName := ⟨RX10, "item", "(II)I"⟩
abbrev cX10_rest : ByteArray := prog_12_method_93_code
def yX10_rest : MethodName := ⟨RX10, "rest", "(II)I"⟩
abbrev cX10_tell : ByteArray := prog_12_method_94_code
def yX10_tell : MethodName := ⟨RX10, "tell", "(I)I"⟩
abbrev cX10_check : ByteArray := prog_12_method_95_code
def yX10_check : MethodName := ⟨RX10, "check", "(I)I"⟩
abbrev cX10_keep : ByteArray := prog_12_method_96_code
def yX10_keep : MethodName := ⟨RX10, "keep", "()I"⟩
abbrev cX10_back : ByteArray := prog_12_method_97_code
def yX10_back : MethodName := ⟨RX10, "back", "()I"⟩
abbrev cX10_count : ByteArray := prog_12_method_98_code
def yX10_count : MethodName := ⟨RX10, "count", "(I)I"⟩
def RJ11 : String := "java/lang/Character"
def TJ11 : u_T := fun k => match k with
  | _ => ("", "", "", false)
def tyJ11 : Nat → FieldType := fun k => match k with
  | _ => .int
abbrev wsJ110 : List Cond := u_ws RJ11 TJ11 0
theorem nmJ11 : ∀ a, a < 0 → ∀ b, b < 0 → a ≠ b → (TJ11 a).2.1 ≠ (TJ11 b).2.1 := by decide +kernel
theorem tyJ11_ok : ∀ k, k < 0 → parseFieldDescriptor (TJ11 k).2.2.1 = some (tyJ11 k) := by decide +kernel
abbrev cJ11_isValidCodePoint_9a6ad : ByteArray := prog_13_method_11_code
def yJ11_isValidCodePoint_9a6ad : MethodName := ⟨RJ11, "isValidCodePoint", "(I)Z"⟩
abbrev cJ11_highSurrogate_5068e : ByteArray := prog_13_method_28_code
def yJ11_highSurrogate_5068e : MethodName := ⟨RJ11, "highSurrogate", "(I)C"⟩
abbrev cJ11_lowSurrogate_5068e : ByteArray := prog_13_method_29_code
def yJ11_lowSurrogate_5068e : MethodName := ⟨RJ11, "lowSurrogate", "(I)C"⟩
def RJ6 : String := "java/lang/Integer"
def TJ6 : u_T := fun k => match k with
  | _ => ("", "", "", false)
def tyJ6 : Nat → FieldType := fun k => match k with
  | _ => .int
abbrev wsJ60 : List Cond := u_ws RJ6 TJ6 0
theorem nmJ6 : ∀ a, a < 0 → ∀ b, b < 0 → a ≠ b → (TJ6 a).2.1 ≠ (TJ6 b).2.1 := by decide +kernel
theorem tyJ6_ok : ∀ k, k < 0 → parseFieldDescriptor (TJ6 k).2.2.1 = some (tyJ6 k) := by decide +kernel
abbrev cJ6_bitCount_0f7a4 : ByteArray := prog_14_method_49_code
def yJ6_bitCount_0f7a4 : MethodName := ⟨RJ6, "bitCount", "(I)I"⟩
def RJ9 : String := "java/lang/Math"
def TJ9 : u_T := fun k => match k with
  | _ => ("", "", "", false)
def tyJ9 : Nat → FieldType := fun k => match k with
  | _ => .int
abbrev wsJ90 : List Cond := u_ws RJ9 TJ9 0
theorem nmJ9 : ∀ a, a < 0 → ∀ b, b < 0 → a ≠ b → (TJ9 a).2.1 ≠ (TJ9 b).2.1 := by decide +kernel
theorem tyJ9_ok : ∀ k, k < 0 → parseFieldDescriptor (TJ9 k).2.2.1 = some (tyJ9 k) := by decide +kernel
abbrev cJ9_abs_0f7a4 : ByteArray := prog_15_method_59_code
def yJ9_abs_0f7a4 : MethodName := ⟨RJ9, "abs", "(I)I"⟩
abbrev cJ9_max_7cf53 : ByteArray := prog_15_method_65_code
def yJ9_max_7cf53 : MethodName := ⟨RJ9, "max", "(II)I"⟩
abbrev cJ9_min_7cf53 : ByteArray := prog_15_method_69_code
def yJ9_min_7cf53 : MethodName := ⟨RJ9, "min", "(II)I"⟩
def RJ0 : String := "java/lang/String"
def TJ0 : u_T := fun k => match k with
  | _ => ("", "", "", false)
def tyJ0 : Nat → FieldType := fun k => match k with
  | _ => .int
abbrev wsJ00 : List Cond := u_ws RJ0 TJ0 0
theorem nmJ0 : ∀ a, a < 0 → ∀ b, b < 0 → a ≠ b → (TJ0 a).2.1 ≠ (TJ0 b).2.1 := by decide +kernel
theorem tyJ0_ok : ∀ k, k < 0 → parseFieldDescriptor (TJ0 k).2.2.1 = some (tyJ0 k) := by decide +kernel
abbrev cJ0_length_8abf5 : ByteArray := prog_16_method_54_code
def yJ0_length_8abf5 : MethodName := ⟨RJ0, "length", "()I"⟩
abbrev cJ0_charAt_5068e : ByteArray := prog_16_method_56_code
def yJ0_charAt_5068e : MethodName := ⟨RJ0, "charAt", "(I)C"⟩
abbrev cJ0_indexOf_0f7a4 : ByteArray := prog_16_method_79_code
def yJ0_indexOf_0f7a4 : MethodName := ⟨RJ0, "indexOf", "(I)I"⟩
abbrev cJ0_indexOf_7cf53 : ByteArray := prog_16_method_80_code
def yJ0_indexOf_7cf53 : MethodName := ⟨RJ0, "indexOf", "(II)I"⟩
abbrev cJ0_coder_7d493 : ByteArray := prog_16_method_152_code
def yJ0_coder_7d493 : MethodName := ⟨RJ0, "coder", "()B"⟩
abbrev cJ0_isLatin1_aae02 : ByteArray := prog_16_method_154_code
def yJ0_isLatin1_aae02 : MethodName := ⟨RJ0, "isLatin1", "()Z"⟩
abbrev cJ0_checkIndex_df160 : ByteArray := prog_16_method_155_code
def yJ0_checkIndex_df160 : MethodName := ⟨RJ0, "checkIndex", "(II)V"⟩
abbrev cJ0_checkBoundsBeginEnd_23922 : ByteArray := prog_16_method_158_code
def yJ0_checkBoundsBeginEnd_23922 : MethodName := ⟨RJ0, "checkBoundsBeginEnd", "(III)V"⟩
def RJ1 : String := "java/lang/StringLatin1"
def TJ1 : u_T := fun k => match k with
  | _ => ("", "", "", false)
def tyJ1 : Nat → FieldType := fun k => match k with
  | _ => .int
abbrev wsJ10 : List Cond := u_ws RJ1 TJ1 0
theorem nmJ1 : ∀ a, a < 0 → ∀ b, b < 0 → a ≠ b → (TJ1 a).2.1 ≠ (TJ1 b).2.1 := by decide +kernel
theorem tyJ1_ok : ∀ k, k < 0 → parseFieldDescriptor (TJ1 k).2.2.1 = some (tyJ1 k) := by decide +kernel
abbrev cJ1_charAt_3b067 : ByteArray := prog_17_method_2_code
def yJ1_charAt_3b067 : MethodName := ⟨RJ1, "charAt", "([BI)C"⟩
abbrev cJ1_canEncode_9a6ad : ByteArray := prog_17_method_4_code
def yJ1_canEncode_9a6ad : MethodName := ⟨RJ1, "canEncode", "(I)Z"⟩
abbrev cJ1_indexOf_4cfef : ByteArray := prog_17_method_22_code
def yJ1_indexOf_4cfef : MethodName := ⟨RJ1, "indexOf", "([BIII)I"⟩
abbrev cJ1_indexOfChar_4cfef : ByteArray := prog_17_method_23_code
def yJ1_indexOfChar_4cfef : MethodName := ⟨RJ1, "indexOfChar", "([BIII)I"⟩
def RJ2 : String := "java/lang/StringUTF16"
def TJ2 : u_T := fun k => match k with
  | _ => ("", "", "", false)
def tyJ2 : Nat → FieldType := fun k => match k with
  | _ => .int
abbrev wsJ20 : List Cond := u_ws RJ2 TJ2 0
theorem nmJ2 : ∀ a, a < 0 → ∀ b, b < 0 → a ≠ b → (TJ2 a).2.1 ≠ (TJ2 b).2.1 := by decide +kernel
theorem tyJ2_ok : ∀ k, k < 0 → parseFieldDescriptor (TJ2 k).2.2.1 = some (tyJ2 k) := by decide +kernel
abbrev cJ2_getChar_3b067 : ByteArray := prog_18_method_5_code
def yJ2_getChar_3b067 : MethodName := ⟨RJ2, "getChar", "([BI)C"⟩
abbrev cJ2_length_9d52b : ByteArray := prog_18_method_6_code
def yJ2_length_9d52b : MethodName := ⟨RJ2, "length", "([B)I"⟩
abbrev cJ2_indexOf_4cfef : ByteArray := prog_18_method_40_code
def yJ2_indexOf_4cfef : MethodName := ⟨RJ2, "indexOf", "([BIII)I"⟩
abbrev cJ2_indexOfChar_4cfef : ByteArray := prog_18_method_47_code
def yJ2_indexOfChar_4cfef : MethodName := ⟨RJ2, "indexOfChar", "([BIII)I"⟩
abbrev cJ2_indexOfCharUnsafe_4cfef : ByteArray := prog_18_method_48_code
def yJ2_indexOfCharUnsafe_4cfef : MethodName := ⟨RJ2, "indexOfCharUnsafe", "([BIII)I"⟩
abbrev cJ2_indexOfSupplementary_4cfef : ByteArray := prog_18_method_49_code
def yJ2_indexOfSupplementary_4cfef : MethodName := ⟨RJ2, "indexOfSupplementary", "([BIII)I"⟩
abbrev cJ2_charAt_3b067 : ByteArray := prog_18_method_83_code
def yJ2_charAt_3b067 : MethodName := ⟨RJ2, "charAt", "([BI)C"⟩
abbrev cJ2_checkIndex_2214a : ByteArray := prog_18_method_91_code
def yJ2_checkIndex_2214a : MethodName := ⟨RJ2, "checkIndex", "(I[B)V"⟩
abbrev cJ2_checkBoundsBeginEnd_d044e : ByteArray := prog_18_method_93_code
def yJ2_checkBoundsBeginEnd_d044e : MethodName := ⟨RJ2, "checkBoundsBeginEnd", "(II[B)V"⟩
def RJ10 : String := "java/lang/System"
def TJ10 : u_T := fun k => match k with
  | _ => ("", "", "", false)
def tyJ10 : Nat → FieldType := fun k => match k with
  | _ => .int
abbrev wsJ100 : List Cond := u_ws RJ10 TJ10 0
theorem nmJ10 : ∀ a, a < 0 → ∀ b, b < 0 → a ≠ b → (TJ10 a).2.1 ≠ (TJ10 b).2.1 := by decide +kernel
theorem tyJ10_ok : ∀ k, k < 0 → parseFieldDescriptor (TJ10 k).2.2.1 = some (tyJ10 k) := by decide +kernel
def RJ3 : String := "jdk/internal/util/Preconditions"
def TJ3 : u_T := fun k => match k with
  | _ => ("", "", "", false)
def tyJ3 : Nat → FieldType := fun k => match k with
  | _ => .int
abbrev wsJ30 : List Cond := u_ws RJ3 TJ3 0
theorem nmJ3 : ∀ a, a < 0 → ∀ b, b < 0 → a ≠ b → (TJ3 a).2.1 ≠ (TJ3 b).2.1 := by decide +kernel
theorem tyJ3_ok : ∀ k, k < 0 → parseFieldDescriptor (TJ3 k).2.2.1 = some (tyJ3 k) := by decide +kernel
abbrev cJ3_checkIndex_8e157 : ByteArray := prog_20_method_11_code
def yJ3_checkIndex_8e157 : MethodName := ⟨RJ3, "checkIndex", "(IILjava/util/function/BiFunction;)I"⟩
abbrev cJ3_checkFromToIndex_8c36e : ByteArray := prog_20_method_12_code
def yJ3_checkFromToIndex_8c36e : MethodName := ⟨RJ3, "checkFromToIndex", "(IIILjava/util/function/BiFunction;)I"⟩
def RL : String := "BedsArePlacesLaw"
abbrev cL_law : ByteArray := code
def yL_law : MethodName := ⟨RL, "law", "([I)Z"⟩
end
section
-- 02.mini: a small machine over fixed cells: values, memory, one step, total correctness (layout rows by program gen02.py)
abbrev Id3 : Type := Nat × Nat × Nat
abbrev AV : Type := Int32 ⊕ Id3
abbrev Mem : Type := Nat → Nat → Nat → Nat → Int32
abbrev LV : Type := List (Option AV)
abbrev Ent : Type := (Instr × Nat) × Nat × Nat × Int32 × List (Int32 × Nat)
abbrev CF : Type := Nat → LV → List AV → Mem → Prop
abbrev PQ : Type := Option AV → Mem → Prop
abbrev GA : Type := Nat → List AV → Mem → PQ → Prop
abbrev Tab : Type := List (List (Option Ent))
/-- own class, kind (0 instance, 1 static), name, bytes, locals, return type, table -/
abbrev MRec : Type := Nat × Nat × MethodName × ByteArray × Nat × Option FieldType × Tab
def mr (M : Mem) (k i j : Nat) (f : Nat → Int32) : Mem := fun k' i' j' => if k' = k ∧ i' = i ∧ j' = j then f else M k' i' j'
def mu (M : Mem) (k i j s : Nat) (v : Int32) : Mem := mr M k i j (upd (M k i j) s v)
def irem (x y : Int32) : Int32 := x - x / y * y
def kcls (k : Nat) : Nat := match k with
  | 0 => 9
  | 1 => 1
  | 3 => 0
  | 5 => 3
  | 6 => 2
  | 9 => 7
  | 11 => 4
  | 13 => 8
  | 16 => 5
  | 19 => 6
  | 30 => 10
  | _ => 99
def aty (k : Nat) : Nat := match k with
  | 2 => 3
  | 4 => 4
  | 7 => 5
  | 8 => 0
  | 10 => 0
  | 12 => 0
  | 14 => 0
  | 15 => 6
  | 17 => 0
  | 18 => 7
  | 20 => 0
  | 31 => 0
  | 32 => 0
  | 33 => 0
  | 35 => 0
  | 36 => 0
  | 37 => 0
  | 38 => 0
  | 39 => 0
  | 40 => 0
  | 48 => 2
  | 49 => 0
  | 50 => 0
  | 53 => 0
  | 55 => 1
  | 56 => 0
  | 57 => 0
  | 58 => 0
  | 59 => 0
  | 60 => 0
  | 61 => 0
  | 62 => 0
  | 63 => 0
  | 64 => 0
  | 65 => 0
  | 66 => 0
  | _ => 99
def alen (k : Nat) : Nat := match k with
  | 2 => 10
  | 4 => 9
  | 7 => 15
  | 8 => 96
  | 10 => 96
  | 12 => 96
  | 14 => 8
  | 15 => 4
  | 17 => 24
  | 18 => 5
  | 20 => 60
  | 31 => 1458
  | 32 => 1458
  | 33 => 1458
  | 35 => 10
  | 36 => 8
  | 37 => 8
  | 38 => 86
  | 39 => 9
  | 40 => 96
  | 48 => 12
  | 49 => 4
  | 50 => 96
  | 53 => 96
  | 55 => 10
  | 56 => 96
  | 57 => 4
  | 58 => 4
  | 59 => 4
  | 60 => 96
  | 61 => 5
  | 62 => 5
  | 63 => 5
  | 64 => 120
  | 65 => 24
  | 66 => 60
  | _ => 0
def aref (k i n : Nat) : Id3 := match k with
  | 2 => (3, i, n)
  | 4 => (5, i, n)
  | 7 => (9, n, 0)
  | 15 => (16, n, 0)
  | 18 => (19, n, 0)
  | _ => (0, 0, 0)
def gfv (M : Mem) (k i j s : Nat) : AV := match k with
  | 0 => (match s with
    | 0 => .inr (6, 0, 0)
    | 1 => .inr (11, 0, 0)
    | 2 => .inr (1, 0, 0)
    | 3 => .inr (1, 1, 0)
    | 4 => .inr (1, 2, 0)
    | 6 => .inr (13, 0, 0)
    | 7 => .inr (15, 0, 0)
    | 8 => .inr (18, 0, 0)
    | 9 => .inr (20, 0, 0)
    | s => .inl (M 0 i j s))
  | 1 => (match s with
    | 0 => .inr (6, 0, 0)
    | 1 => .inr (2, i, 0)
    | 3 => .inr (4, i, 0)
    | s => .inl (M 1 i j s))
  | 6 => (match s with
    | 0 => .inr (7, 0, 0)
    | 1 => .inr (8, 0, 0)
    | s => .inl (M 6 i j s))
  | 9 => (match s with
    | 1 => .inr (10, i, 0)
    | s => .inl (M 9 i j s))
  | 11 => (match s with
    | 0 => .inr (12, 0, 0)
    | 6 => .inr (9, (M 11 0 0 6).toNatClampNeg, 0)
    | s => .inl (M 11 i j s))
  | 13 => (match s with
    | 0 => .inr (1, 0, 0)
    | 1 => .inr (14, 0, 0)
    | s => .inl (M 13 i j s))
  | 16 => (match s with
    | 2 => .inr (17, i, 0)
    | s => .inl (M 16 i j s))
  | 19 => (match s with
    | 1 => .inr (3, 3, i)
    | 2 => .inr (16, i + 4, 0)
    | s => .inl (M 19 i j s))
  | 30 => (match s with
    | 0 => .inr (31, 0, 0)
    | 1 => .inr (32, 0, 0)
    | 2 => .inr (33, 0, 0)
    | 4 => .inr (35, 0, 0)
    | 5 => .inr (36, 0, 0)
    | 6 => .inr (37, 0, 0)
    | 7 => .inr (38, 0, 0)
    | 8 => .inr (39, 0, 0)
    | 9 => .inr (40, 0, 0)
    | 17 => .inr (48, 0, 0)
    | 18 => .inr (49, 0, 0)
    | 19 => .inr (50, 0, 0)
    | 22 => .inr (53, 0, 0)
    | 24 => .inr (55, 0, 0)
    | 25 => .inr (56, 0, 0)
    | 26 => .inr (57, 0, 0)
    | 27 => .inr (58, 0, 0)
    | 28 => .inr (59, 0, 0)
    | 29 => .inr (60, 0, 0)
    | 30 => .inr (61, 0, 0)
    | 31 => .inr (62, 0, 0)
    | 32 => .inr (63, 0, 0)
    | 33 => .inr (64, 0, 0)
    | 34 => .inr (65, 0, 0)
    | 35 => .inr (66, 0, 0)
    | s => .inl (M 30 i j s))
  | k => .inl (M k i j s)
/-- a class, a slot: 0 int, 1 boolean, 2 reference for good, 3 the draft -/
def fty (k s : Nat) : Nat := match k with
  | 1 => (match s with
    | 0 => 2
    | 1 => 2
    | 3 => 2
    | _ => 0)
  | 2 => (match s with
    | 0 => 2
    | 1 => 2
    | _ => 0)
  | 4 => (match s with
    | 0 => 2
    | 6 => 3
    | _ => 0)
  | 5 => (match s with
    | 2 => 2
    | _ => 0)
  | 6 => (match s with
    | 1 => 2
    | 2 => 2
    | _ => 0)
  | 7 => (match s with
    | 1 => 2
    | _ => 0)
  | 8 => (match s with
    | 0 => 2
    | 1 => 2
    | _ => 0)
  | 9 => (match s with
    | 0 => 2
    | 1 => 2
    | 2 => 2
    | 3 => 2
    | 4 => 2
    | 5 => 1
    | 6 => 2
    | 7 => 2
    | 8 => 2
    | 9 => 2
    | _ => 0)
  | 10 => (match s with
    | 0 => 2
    | 1 => 2
    | 2 => 2
    | 3 => 1
    | 4 => 2
    | 5 => 2
    | 6 => 2
    | 7 => 2
    | 8 => 2
    | 9 => 2
    | 17 => 2
    | 18 => 2
    | 19 => 2
    | 22 => 2
    | 24 => 2
    | 25 => 2
    | 26 => 2
    | 27 => 2
    | 28 => 2
    | 29 => 2
    | 30 => 2
    | 31 => 2
    | 32 => 2
    | 33 => 2
    | 34 => 2
    | 35 => 2
    | _ => 0)
  | _ => 0
/-- how many slots an object of a class has -/
def NF (k : Nat) : Nat := match k with
  | 0 => 5
  | 1 => 13
  | 2 => 2
  | 3 => 5
  | 4 => 7
  | 5 => 3
  | 6 => 4
  | 7 => 4
  | 8 => 2
  | 9 => 11
  | 10 => 37
  | _ => 0
def cids : List Id3 := [(0, 0, 0), (1, 0, 0), (2, 0, 0), (3, 0, 0), (3, 0, 1), (3, 0, 2), (3, 0, 3), (3, 0, 4), (3, 0, 5), (3, 0, 6), (3, 0, 7), (3, 0, 8), (3, 0, 9), (4, 0, 0), (5, 0, 0), (5, 0, 1), (5, 0, 2), (5, 0, 3), (5, 0, 4), (5, 0, 5), (5, 0, 6), (5, 0, 7), (5, 0, 8), (1, 1, 0), (2, 1, 0), (3, 1, 0), (3, 1, 1), (3, 1, 2), (3, 1, 3), (3, 1, 4), (3, 1, 5), (3, 1, 6), (3, 1, 7), (3, 1, 8), (3, 1, 9), (4, 1, 0), (5, 1, 0), (5, 1, 1), (5, 1, 2), (5, 1, 3), (5, 1, 4), (5, 1, 5), (5, 1, 6), (5, 1, 7), (5, 1, 8), (1, 2, 0), (2, 2, 0), (3, 2, 0), (3, 2, 1), (3, 2, 2), (3, 2, 3), (3, 2, 4), (3, 2, 5), (3, 2, 6), (3, 2, 7), (3, 2, 8), (3, 2, 9), (4, 2, 0), (5, 2, 0), (5, 2, 1), (5, 2, 2), (5, 2, 3), (5, 2, 4), (5, 2, 5), (5, 2, 6), (5, 2, 7), (5, 2, 8), (3, 3, 0), (3, 3, 1), (3, 3, 2), (3, 3, 3), (3, 3, 4), (6, 0, 0), (7, 0, 0), (8, 0, 0), (9, 0, 0), (10, 0, 0), (9, 1, 0), (10, 1, 0), (9, 2, 0), (10, 2, 0), (9, 3, 0), (10, 3, 0), (9, 4, 0), (10, 4, 0), (9, 5, 0), (10, 5, 0), (9, 6, 0), (10, 6, 0), (9, 7, 0), (10, 7, 0), (9, 8, 0), (10, 8, 0), (9, 9, 0), (10, 9, 0), (9, 10, 0), (10, 10, 0), (9, 11, 0), (10, 11, 0), (9, 12, 0), (10, 12, 0), (9, 13, 0), (10, 13, 0), (9, 14, 0), (10, 14, 0), (9, 15, 0), (10, 15, 0), (11, 0, 0), (12, 0, 0), (13, 0, 0), (14, 0, 0), (15, 0, 0), (16, 0, 0), (17, 0, 0), (16, 1, 0), (17, 1, 0), (16, 2, 0), (17, 2, 0), (16, 3, 0), (17, 3, 0), (16, 4, 0), (17, 4, 0), (16, 5, 0), (17, 5, 0), (16, 6, 0), (17, 6, 0), (16, 7, 0), (17, 7, 0), (16, 8, 0), (17, 8, 0), (18, 0, 0), (19, 0, 0), (19, 1, 0), (19, 2, 0), (19, 3, 0), (19, 4, 0), (20, 0, 0), (30, 0, 0), (31, 0, 0), (32, 0, 0), (33, 0, 0), (35, 0, 0), (36, 0, 0), (37, 0, 0), (38, 0, 0), (39, 0, 0), (40, 0, 0), (48, 0, 0), (49, 0, 0), (50, 0, 0), (53, 0, 0), (55, 0, 0), (56, 0, 0), (57, 0, 0), (58, 0, 0), (59, 0, 0), (60, 0, 0), (61, 0, 0), (62, 0, 0), (63, 0, 0), (64, 0, 0), (65, 0, 0), (66, 0, 0)]
def sIdx : List Nat := [74, 80, 82, 84, 86, 88, 101, 103, 105, 107, 109]
def sTxt : List String := ["hours", "fee", "fine", "tnw", "sa", "fo", "|", "&", "<=>", "+-", "*/"]
def sByt : List (List Int32) := [[104, 111, 117, 114, 115], [102, 101, 101], [102, 105, 110, 101], [116, 110, 119], [115, 97], [102, 111], [124], [38], [60, 61, 62], [43, 45], [42, 47]]
def sLen (i : Nat) : Nat := (sByt.getD i []).length
def chk (c : Prop) [Decidable c] (K : Prop) : Prop := if c then K else False
theorem chk_iff {c : Prop} [Decidable c] {K : Prop} : chk c K ↔ c ∧ K := by
  unfold chk
  by_cases h : c
  · rw [if_pos h]; exact ⟨fun q => ⟨h, q⟩, fun q => q.2⟩
  · rw [if_neg h]; exact ⟨fun q => q.elim, fun q => h q.1⟩
theorem chk_mono {c : Prop} [Decidable c] {K K' : Prop} (hk : K → K') (q : chk c K) : chk c K' := chk_iff.mpr ⟨(chk_iff.mp q).1, hk (chk_iff.mp q).2⟩
def topI (st : List AV) (K : Int32 → List AV → Prop) : Prop := match st with
  | .inl x :: r => K x r
  | _ => False
def topII (st : List AV) (K : Int32 → Int32 → List AV → Prop) : Prop := match st with
  | .inl y :: .inl x :: r => K x y r
  | _ => False
def topR (st : List AV) (K : Nat → Nat → Nat → List AV → Prop) : Prop := match st with
  | .inr (k, i, j) :: r => K k i j r
  | _ => False
def topIR (st : List AV) (K : Int32 → Nat → Nat → Nat → List AV → Prop) : Prop := match st with
  | .inl x :: .inr (k, i, j) :: r => K x k i j r
  | _ => False
def topIIR (st : List AV) (K : Int32 → Int32 → Nat → Nat → Nat → List AV → Prop) : Prop := match st with
  | .inl z :: .inl x :: .inr (k, i, j) :: r => K z x k i j r
  | _ => False
def topV (st : List AV) (K : AV → List AV → Prop) : Prop := match st with
  | v :: r => K v r
  | _ => False
def topVV (st : List AV) (K : AV → AV → List AV → Prop) : Prop := match st with
  | v :: u :: r => K v u r
  | _ => False
def topVR (st : List AV) (K : AV → Nat → Nat → Nat → List AV → Prop) : Prop := match st with
  | v :: .inr (k, i, j) :: r => K v k i j r
  | _ => False
def topCp (st : List AV) (K : Int32 → Int32 → Id3 → Int32 → Id3 → List AV → Prop) : Prop := match st with
  | .inl n :: .inl dp :: .inr c1 :: .inl sp :: .inr c0 :: r => K n dp c1 sp c0 r
  | _ => False
def locI (lv : LV) (a : Nat) (K : Int32 → Prop) : Prop := match lv.getD a none with
  | some (.inl x) => K x
  | _ => False
def locR (lv : LV) (a : Nat) (K : Id3 → Prop) : Prop := match lv.getD a none with
  | some (.inr c) => K c
  | _ => False
def cmpP (c : Jvm.ClassFile.Cond) (x y : Int32) (t f : Prop) : Prop := match c with
  | .eq => (x = y → t) ∧ (¬ x = y → f)
  | .ne => (¬ x = y → t) ∧ (x = y → f)
  | .lt => (x < y → t) ∧ (¬ x < y → f)
  | .ge => (y ≤ x → t) ∧ (¬ y ≤ x → f)
  | .gt => (y < x → t) ∧ (¬ y < x → f)
  | .le => (x ≤ y → t) ∧ (¬ x ≤ y → f)
def swP (tb : List (Int32 × Nat)) (x : Int32) (d : Nat) (K : Nat → Prop) : Prop := match tb with
  | [] => K d
  | (v, t) :: r => (x = v → K t) ∧ (¬ x = v → swP r x d K)
def getP (M : Mem) (k i j a b : Nat) (K : AV → Prop) : Prop :=
  match a with
  | 100 => (match b with
    | 0 => chk (k = 80) (K (.inr (81, i, 0)))
    | _ => chk (k = 80) (K (.inl 0)))
  | 4 => (match b with
    | 6 => chk (k = 11) ((M 11 0 0 6).toNatClampNeg < 16 ∧ K (gfv M 11 0 0 6))
    | b => chk (kcls k = 4) (K (gfv M k i j b)))
  | a => chk (kcls k = a) (K (gfv M k i j b))
def putP (M : Mem) (v : AV) (k i j a b : Nat) (K : Mem → Prop) : Prop :=
  match fty a b, v with
  | 0, .inl z => chk (kcls k = a) (K (mu M k i j b z))
  | 1, .inl z => chk (kcls k = a) ((z = 0 ∨ z = 1) ∧ K (mu M k i j b z))
  | 3, .inr c => chk (kcls k = a ∧ c.1 = 9 ∧ c.2.2 = 0) (K (mu M k i j b (nI c.2.1)))
  | _, _ => False
def retP (ret : Option FieldType) (v : Int32) (K : Prop) : Prop := match ret with
  | some .int => K
  | some ty => narrow ty (.int v) = .int v ∧ K
  | none => False
def retI (st : List AV) (K : Int32 → Prop) : Prop := match st with
  | [.inl v] => K v
  | _ => False
def retA (st : List AV) (K : Nat → Nat → Nat → Prop) : Prop := match st with
  | [.inr (k, i, j)] => K k i j
  | _ => False
def retV (st : List AV) (K : Prop) : Prop := match st with
  | [] => K
  | _ => False
def no90 : AV → Bool
  | .inl _ => true
  | .inr c => c.1 != 90
def isObj (t : Option FieldType) : Bool := match t with
  | some (.object _) => true
  | _ => false
def callP (Γ : GA) (mid n : Nat) (st : List AV) (M : Mem) (K : List AV → Mem → Prop) : Prop :=
  if n ≤ st.length ∧ st.length ≤ 8 ∧ st.all no90 = true then Γ mid ((st.take n).reverse) M (fun r M' => K (r.toList ++ st.drop n) M') else False
def copyP (st : List AV) (M : Mem) (K : List AV → Mem → Prop) : Prop :=
  topCp st fun n dp c1 sp c0 r => chk (aty c0.1 = 0 ∧ aty c1.1 = 0 ∧ r.length ≤ 8) <| (¬ sp < 0 ∧ ¬ dp < 0 ∧ ¬ n < 0 ∧ sp.toNatClampNeg + n.toNatClampNeg ≤ alen c0.1 ∧ dp.toNatClampNeg + n.toNatClampNeg ≤ alen c1.1) ∧
    K r (mr M c1.1 c1.2.1 c1.2.2 (va_cpy (M c0.1 c0.2.1 c0.2.2) (M c1.1 c1.2.1 c1.2.2) sp.toNatClampNeg dp.toNatClampNeg n.toNatClampNeg))
def ialdP (M : Mem) (x : Int32) (k i j : Nat) (K : Int32 → Prop) : Prop :=
  match k with
  | 90 => vp_in x (M 91 0 0 0).toNatClampNeg ∧ K (M 90 0 0 x.toNatClampNeg)
  | k => chk (aty k = 0) (vp_in x (alen k) ∧ K (M k i j x.toNatClampNeg))
def baldP (M : Mem) (x : Int32) (k i j : Nat) (K : Int32 → Prop) : Prop :=
  match k with
  | 81 => vp_in x (sLen i) ∧ K ((sByt.getD i []).getD x.toNatClampNeg 0)
  | k => chk (aty k = 1) (vp_in x (alen k) ∧ K (M k i j x.toNatClampNeg))
def alenP (M : Mem) (k i : Nat) (K : Int32 → Prop) : Prop :=
  match k with
  | 81 => K (nI (sLen i))
  | 90 => K (M 91 0 0 0)
  | k => chk (aty k = 0) (K (nI (alen k)))
def statP (Γ : GA) (mid n : Nat) (st : List AV) (M : Mem) (K : List AV → Mem → Prop) : Prop := match n with
  | 105 => copyP st M K
  | 106 => topI st fun x r => chk (r.length ≤ 8) (K (.inl (if 0 ≤ x then x else 0 - x) :: r) M)
  | 107 => topII st fun x y r => chk (r.length ≤ 8) (K (.inl (if x < y then y else x) :: r) M)
  | 108 => topII st fun x y r => chk (r.length ≤ 8) (K (.inl (if y < x then y else x) :: r) M)
  | n => callP Γ mid n st M K
def kcl2 (k : Nat) : Nat := match k with
  | 80 => 12
  | k => kcls k
def virtP (Γ : GA) (mid n : Nat) (tb : List (Int32 × Nat)) (st : List AV) (M : Mem) (K : List AV → Mem → Prop) : Prop := match st.drop (n - 1), tb with
  | .inr (k, _, _) :: _, [(_, o)] => chk (0 < n ∧ kcl2 k = o) (callP Γ mid n st M K)
  | _, _ => False
def step (Γ : GA) (ret : Option FieldType) (e : Ent) (pc : Nat) (lv : LV) (st : List AV) (M : Mem) (S : CF) (Q : PQ) : Prop :=
  match e with | ((ins, _), a, b, c0, tb) => match ins with
  | .iconst _ => S (pc + 1) lv (.inl c0 :: st) M
  | .bipush _ => S (pc + 2) lv (.inl c0 :: st) M
  | .sipush _ => S (pc + 3) lv (.inl c0 :: st) M
  | .ldc _ => (match a with
    | 0 => S (pc + 2) lv (.inl c0 :: st) M
    | _ => S (pc + 2) lv (.inr (80, b, 0) :: st) M)
  | .ldc_w _ => S (pc + 3) lv (.inl c0 :: st) M
  | .iload_n _ => locI lv a fun x => S (pc + 1) lv (.inl x :: st) M
  | .iload _ => locI lv a fun x => S (pc + 2) lv (.inl x :: st) M
  | .aload_n _ => locR lv a fun c => chk (c.1 ≠ 82) (S (pc + 1) lv (.inr c :: st) M)
  | .aload _ => locR lv a fun c => chk (c.1 ≠ 82) (S (pc + 2) lv (.inr c :: st) M)
  | .istore_n _ => topI st fun x r => chk (a < lv.length) (S (pc + 1) (lv.set a (some (.inl x))) r M)
  | .istore _ => topI st fun x r => chk (a < lv.length) (S (pc + 2) (lv.set a (some (.inl x))) r M)
  | .astore_n _ => topR st fun k i j r => chk (k ≠ 82 ∧ a < lv.length) (S (pc + 1) (lv.set a (some (.inr (k, i, j)))) r M)
  | .astore _ => topR st fun k i j r => chk (k ≠ 82 ∧ a < lv.length) (S (pc + 2) (lv.set a (some (.inr (k, i, j)))) r M)
  | .iinc _ _ => locI lv a fun x => S (pc + 3) (lv.set a (some (.inl (x + c0)))) st M
  | .iadd => topII st fun x y r => S (pc + 1) lv (.inl (x + y) :: r) M
  | .isub => topII st fun x y r => S (pc + 1) lv (.inl (x - y) :: r) M
  | .imul => topII st fun x y r => S (pc + 1) lv (.inl (x * y) :: r) M
  | .idiv => topII st fun x y r => ¬ y = 0 ∧ S (pc + 1) lv (.inl (x / y) :: r) M
  | .irem => topII st fun x y r => ¬ y = 0 ∧ S (pc + 1) lv (.inl (irem x y) :: r) M
  | .ineg => topI st fun x r => S (pc + 1) lv (.inl (-x) :: r) M
  | .iand => topII st fun x y r => S (pc + 1) lv (.inl (x &&& y) :: r) M
  | .ior => topII st fun x y r => S (pc + 1) lv (.inl (x ||| y) :: r) M
  | .ishl => topII st fun x y r => S (pc + 1) lv (.inl (x <<< (y &&& 31)) :: r) M
  | .ishr => topII st fun x y r => S (pc + 1) lv (.inl (x >>> (y &&& 31)) :: r) M
  | .iushr => topII st fun x y r => S (pc + 1) lv (.inl (x.toUInt32 >>> (y.toUInt32 &&& Int32.toUInt32 31)).toInt32 :: r) M
  | .i2b => topI st fun x r => S (pc + 1) lv (.inl x.toInt8.toInt32 :: r) M
  | .i2s => topI st fun x r => S (pc + 1) lv (.inl x.toInt16.toInt32 :: r) M
  | .i2c => topI st fun x r => S (pc + 1) lv (.inl (x.toUInt32 % 65536).toInt32 :: r) M
  | .dup => topV st fun v r => S (pc + 1) lv (v :: v :: r) M
  | .dup2 => topVV st fun v u r => S (pc + 1) lv (v :: u :: v :: u :: r) M
  | .pop => topV st fun _ r => S (pc + 1) lv r M
  | .goto _ => S a lv st M
  | .ifCond c _ => topI st fun x r => cmpP c x 0 (S a lv r M) (S (pc + 3) lv r M)
  | .if_icmp c _ => topII st fun x y r => cmpP c x y (S a lv r M) (S (pc + 3) lv r M)
  | .tableswitch _ _ _ _ => topI st fun x r => swP tb x a fun t => S t lv r M
  | .lookupswitch _ _ => topI st fun x r => swP tb x a fun t => S t lv r M
  | .getfield _ => topR st fun k i j r => getP M k i j a b fun v => S (pc + 3) lv (v :: r) M
  | .getstatic _ => (match a with
    | 0 => S (pc + 3) lv (.inl 1 :: st) M
    | _ => S (pc + 3) lv (.inr (82, 0, 0) :: st) M)
  | .putfield _ => topVR st fun v k i j r => putP M v k i j a b fun M' => S (pc + 3) lv r M'
  | .iaload => topIR st fun x k i j r => ialdP M x k i j fun v => S (pc + 1) lv (.inl v :: r) M
  | .iastore => topIIR st fun z x k i j r => chk (aty k = 0) (vp_in x (alen k) ∧ S (pc + 1) lv r (mu M k i j x.toNatClampNeg z))
  | .baload => topIR st fun x k i j r => baldP M x k i j fun v => S (pc + 1) lv (.inl v :: r) M
  | .bastore => topIIR st fun z x k i j r => chk (aty k = 1) (vp_in x (alen k) ∧ (z = 0 ∨ z = 1) ∧ S (pc + 1) lv r (mu M k i j x.toNatClampNeg z))
  | .caload => topIR st fun x k i j r => chk (aty k = 2) (vp_in x (alen k) ∧ S (pc + 1) lv (.inl (M k i j x.toNatClampNeg) :: r) M)
  | .aaload => topIR st fun x k i _ r => chk (3 ≤ aty k ∧ aty k ≤ 7) (vp_in x (alen k) ∧ S (pc + 1) lv (.inr (aref k i x.toNatClampNeg) :: r) M)
  | .arraylength => topR st fun k i _ r => alenP M k i fun v => S (pc + 1) lv (.inl v :: r) M
  | .invokevirtual _ => virtP Γ a b tb st M fun st' M' => S (pc + 3) lv st' M'
  | .invokestatic _ => statP Γ a b st M fun st' M' => S (pc + 3) lv st' M'
  | .ireturn => retI st fun v => retP ret v (Q (some (.inl v)) M)
  | .areturn => retA st fun k i j => chk (k = 80 ∧ isObj ret = true) <| Q (some (.inr (k, i, j))) M
  | .return_ => retV st (chk (ret.isNone = true) (Q none M))
  | _ => False
def cof (T : Tab) (pc : Nat) : Option Ent := (T.getD (pc / 16) []).getD (pc % 16) none
def stp (Γ : GA) (ret : Option FieldType) (C : Tab) (pc : Nat) (lv : LV) (st : List AV) (M : Mem) (S : CF) (Q : PQ) : Prop := match cof C pc with
  | some e => step Γ ret e pc lv st M S Q
  | none => False
def Clo (Γ : GA) (ret : Option FieldType) (C : Tab) (Q : PQ) (S : CF) : Prop := ∀ pc lv st M, stp Γ ret C pc lv st M S Q → S pc lv st M
def Tot (Γ : GA) (ret : Option FieldType) (C : Tab) (pc : Nat) (lv : LV) (st : List AV) (M : Mem) (Q : PQ) : Prop := ∀ S : CF, Clo Γ ret C Q S → S pc lv st M
def lv0 (n : Nat) (av : List AV) : LV := av.map some ++ List.replicate (n - av.length) none
def Td (P : Nat → MRec) : Nat → GA
  | 0 => fun _ _ _ _ => False
  | d + 1 => fun mid av M Q => Tot (Td P d) (P mid).2.2.2.2.2.1 (P mid).2.2.2.2.2.2 0 (lv0 (P mid).2.2.2.2.1 av) [] M Q
theorem swP_mono {tb : List (Int32 × Nat)} {x : Int32} {d : Nat} {K K' : Nat → Prop} (h : ∀ t, K t → K' t) (q : swP tb x d K) : swP tb x d K' := by
  induction tb with
  | nil => exact h _ q
  | cons a r ih => exact ⟨fun e => h _ (q.1 e), fun e => ih (q.2 e)⟩
theorem step_mono {Γ Γ' : GA} {ret : Option FieldType} {e : Ent} {pc : Nat} {lv : LV} {st : List AV} {M : Mem} {S S' : CF} {Q Q' : PQ}
    (hG : ∀ (mid : Nat) (av : List AV) (M : Mem) (Z Z' : PQ), (∀ r M, Z r M → Z' r M) → Γ mid av M Z → Γ' mid av M Z')
    (hS : ∀ pc lv st M, S pc lv st M → S' pc lv st M) (hQ : ∀ r M, Q r M → Q' r M) (h : step Γ ret e pc lv st M S Q) : step Γ' ret e pc lv st M S' Q' := by
  have hI : ∀ {st : List AV} {K K' : Int32 → List AV → Prop}, (∀ x r, K x r → K' x r) → topI st K → topI st K' := by
    intro st K K' hk q; unfold topI at *; split at q; exact hk _ _ q; exact q
  have hII : ∀ {st : List AV} {K K' : Int32 → Int32 → List AV → Prop}, (∀ x y r, K x y r → K' x y r) → topII st K → topII st K' := by
    intro st K K' hk q; unfold topII at *; split at q; exact hk _ _ _ q; exact q
  have hR : ∀ {st : List AV} {K K' : Nat → Nat → Nat → List AV → Prop}, (∀ k i j r, K k i j r → K' k i j r) → topR st K → topR st K' := by
    intro st K K' hk q; unfold topR at *; split at q; exact hk _ _ _ _ q; exact q
  have hIR : ∀ {st : List AV} {K K' : Int32 → Nat → Nat → Nat → List AV → Prop}, (∀ x k i j r, K x k i j r → K' x k i j r) → topIR st K → topIR st K' := by
    intro st K K' hk q; unfold topIR at *; split at q; exact hk _ _ _ _ _ q; exact q
  have hIIR : ∀ {st : List AV} {K K' : Int32 → Int32 → Nat → Nat → Nat → List AV → Prop}, (∀ z x k i j r, K z x k i j r → K' z x k i j r) → topIIR st K → topIIR st K' := by
    intro st K K' hk q; unfold topIIR at *; split at q; exact hk _ _ _ _ _ _ q; exact q
  have hV : ∀ {st : List AV} {K K' : AV → List AV → Prop}, (∀ x r, K x r → K' x r) → topV st K → topV st K' := by
    intro st K K' hk q; unfold topV at *; split at q; exact hk _ _ q; exact q
  have hVV : ∀ {st : List AV} {K K' : AV → AV → List AV → Prop}, (∀ x y r, K x y r → K' x y r) → topVV st K → topVV st K' := by
    intro st K K' hk q; unfold topVV at *; split at q; exact hk _ _ _ q; exact q
  have hVR : ∀ {st : List AV} {K K' : AV → Nat → Nat → Nat → List AV → Prop}, (∀ v k i j r, K v k i j r → K' v k i j r) → topVR st K → topVR st K' := by
    intro st K K' hk q; unfold topVR at *; split at q; exact hk _ _ _ _ _ q; exact q
  have hLI : ∀ {a : Nat} {K K' : Int32 → Prop}, (∀ x, K x → K' x) → locI lv a K → locI lv a K' := by
    intro a K K' hk q; unfold locI at *; split at q; exact hk _ q; exact q
  have hLR : ∀ {a : Nat} {K K' : Id3 → Prop}, (∀ x, K x → K' x) → locR lv a K → locR lv a K' := by
    intro a K K' hk q; unfold locR at *; split at q; exact hk _ q; exact q
  have hC : ∀ {c : Jvm.ClassFile.Cond} {x y : Int32} {a b a' b' : Prop}, (a → a') → (b → b') → cmpP c x y a b → cmpP c x y a' b' := by
    intro c x y a b a' b' h1 h2 q; cases c <;> exact ⟨fun z => h1 (q.1 z), fun z => h2 (q.2 z)⟩
  have hget : ∀ {k i j a b : Nat} {K K' : AV → Prop}, (∀ x, K x → K' x) → getP M k i j a b K → getP M k i j a b K' := by
    intro k i j a b K K' hk q; unfold getP at *; split at q
    · split at q <;> exact chk_mono (hk _) q
    · split at q
      · exact chk_mono (fun z => ⟨z.1, hk _ z.2⟩) q
      · exact chk_mono (hk _) q
    · exact chk_mono (hk _) q
  have hput : ∀ {v : AV} {k i j a b : Nat} {K K' : Mem → Prop}, (∀ x, K x → K' x) → putP M v k i j a b K → putP M v k i j a b K' := by
    intro v k i j a b K K' hk q; unfold putP at *; split at q
    · exact chk_mono (hk _) q
    · exact chk_mono (fun z => ⟨z.1, hk _ z.2⟩) q
    · exact chk_mono (hk _) q
    · exact q
  have hcall : ∀ {mid n : Nat} {K K' : List AV → Mem → Prop}, (∀ x M, K x M → K' x M) → callP Γ mid n st M K → callP Γ' mid n st M K' := by
    intro mid n K K' hk q; unfold callP at *; split at q
    · rename_i hc; rw [if_pos hc]; exact hG _ _ _ _ _ (fun r M' z => hk _ _ z) q
    · exact q.elim
  have hcopy : ∀ {K K' : List AV → Mem → Prop}, (∀ x M, K x M → K' x M) → copyP st M K → copyP st M K' := by
    intro K K' hk q; unfold copyP topCp at *; split at q
    · exact chk_mono (fun z => ⟨z.1, hk _ _ z.2⟩) q
    · exact q
  have hstat : ∀ {mid n : Nat} {K K' : List AV → Mem → Prop}, (∀ x M, K x M → K' x M) → statP Γ mid n st M K → statP Γ' mid n st M K' := by
    intro mid n K K' hk q; unfold statP at *; split at q
    · exact hcopy hk q
    · exact hI (fun _ _ => chk_mono (hk _ _)) q
    · exact hII (fun _ _ _ => chk_mono (hk _ _)) q
    · exact hII (fun _ _ _ => chk_mono (hk _ _)) q
    · exact hcall hk q
  have hvirt : ∀ {mid n : Nat} {tb : List (Int32 × Nat)} {K K' : List AV → Mem → Prop}, (∀ x M, K x M → K' x M) → virtP Γ mid n tb st M K → virtP Γ' mid n tb st M K' := by
    intro mid n tb K K' hk q; unfold virtP at *; split at q
    · exact chk_mono (hcall hk) q
    · exact q
  have hial : ∀ {x : Int32} {k i j : Nat} {K K' : Int32 → Prop}, (∀ x, K x → K' x) → ialdP M x k i j K → ialdP M x k i j K' := by
    intro x k i j K K' hk q; unfold ialdP at *; split at q
    · exact ⟨q.1, hk _ q.2⟩
    · exact chk_mono (fun z => ⟨z.1, hk _ z.2⟩) q
  have hbal : ∀ {x : Int32} {k i j : Nat} {K K' : Int32 → Prop}, (∀ x, K x → K' x) → baldP M x k i j K → baldP M x k i j K' := by
    intro x k i j K K' hk q; unfold baldP at *; split at q
    · exact ⟨q.1, hk _ q.2⟩
    · exact chk_mono (fun z => ⟨z.1, hk _ z.2⟩) q
  have hale : ∀ {k i : Nat} {K K' : Int32 → Prop}, (∀ x, K x → K' x) → alenP M k i K → alenP M k i K' := by
    intro k i K K' hk q; unfold alenP at *; split at q
    · exact hk _ q
    · exact hk _ q
    · exact chk_mono (hk _) q
  have hret : ∀ {v : Int32} {K K' : Prop}, (K → K') → retP ret v K → retP ret v K' := by
    intro v K K' hk q; unfold retP at *; split at q
    · exact hk q
    · exact ⟨q.1, hk q.2⟩
    · exact q
  have hrI : ∀ {K K' : Int32 → Prop}, (∀ x, K x → K' x) → retI st K → retI st K' := by
    intro K K' hk q; unfold retI at *; split at q; exact hk _ q; exact q
  have hrA : ∀ {K K' : Nat → Nat → Nat → Prop}, (∀ x y z, K x y z → K' x y z) → retA st K → retA st K' := by
    intro K K' hk q; unfold retA at *; split at q; exact hk _ _ _ q; exact q
  have hrV : ∀ {K K' : Prop}, (K → K') → retV st K → retV st K' := by
    intro K K' hk q; unfold retV at *; split at q; exact hk q; exact q
  obtain ⟨⟨ins, n⟩, a, b, x, tb⟩ := e
  cases ins
  all_goals first
    | exact h.elim
    | exact hS _ _ _ _ h
    | exact hLI (fun _ => hS _ _ _ _) h
    | exact hLR (fun _ => hS _ _ _ _) h
    | exact hI (fun _ _ => hS _ _ _ _) h
    | exact hII (fun _ _ _ => hS _ _ _ _) h
    | exact hII (fun _ _ _ q => ⟨q.1, hS _ _ _ _ q.2⟩) h
    | exact hR (fun _ _ _ _ => hS _ _ _ _) h
    | exact hV (fun _ _ => hS _ _ _ _) h
    | exact hVV (fun _ _ _ => hS _ _ _ _) h
    | exact hI (fun _ _ q => hC (hS _ _ _ _) (hS _ _ _ _) q) h
    | exact hII (fun _ _ _ q => hC (hS _ _ _ _) (hS _ _ _ _) q) h
    | exact hI (fun _ _ q => swP_mono (fun _ => hS _ _ _ _) q) h
    | exact hR (fun _ _ _ _ q => hget (fun _ => hS _ _ _ _) q) h
    | exact hVR (fun _ _ _ _ _ q => hput (fun _ => hS _ _ _ _) q) h
    | exact hIR (fun _ _ _ _ _ q => hial (fun _ => hS _ _ _ _) q) h
    | exact hIR (fun _ _ _ _ _ q => hbal (fun _ => hS _ _ _ _) q) h
    | exact hIR (fun _ _ _ _ _ q => chk_mono (fun z => ⟨z.1, hS _ _ _ _ z.2⟩) q) h
    | exact hIIR (fun _ _ _ _ _ _ q => chk_mono (fun z => ⟨z.1, hS _ _ _ _ z.2⟩) q) h
    | exact hIIR (fun _ _ _ _ _ _ q => chk_mono (fun z => ⟨z.1, z.2.1, hS _ _ _ _ z.2.2⟩) q) h
    | exact hR (fun _ _ _ _ q => hale (fun _ => hS _ _ _ _) q) h
    | exact hvirt (fun _ _ => hS _ _ _ _) h
    | exact hLR (fun _ => chk_mono (hS _ _ _ _)) h
    | exact hR (fun _ _ _ _ => chk_mono (hS _ _ _ _)) h
    | exact hI (fun _ _ => chk_mono (hS _ _ _ _)) h
    | exact hrI (fun _ q => hret (hQ _ _) q) h
    | exact hrA (fun _ _ _ q => chk_mono (hQ _ _) q) h
    | exact hrV (fun q => chk_mono (hQ _ _) q) h
    | (rcases a with _ | a <;> exact hS _ _ _ _ h)
    | exact hstat (fun _ _ => hS _ _ _ _) h
theorem stp_mono {Γ Γ' : GA} {ret : Option FieldType} {C : Tab} {pc : Nat} {lv : LV} {st : List AV} {M : Mem} {S S' : CF} {Q Q' : PQ}
    (hG : ∀ (mid : Nat) (av : List AV) (M : Mem) (Z Z' : PQ), (∀ r M, Z r M → Z' r M) → Γ mid av M Z → Γ' mid av M Z')
    (hS : ∀ pc lv st M, S pc lv st M → S' pc lv st M) (hQ : ∀ r M, Q r M → Q' r M) (h : stp Γ ret C pc lv st M S Q) : stp Γ' ret C pc lv st M S' Q' := by
  unfold stp at *
  split at h
  · exact step_mono hG hS hQ h
  · exact h
theorem Tot_mono {Γ Γ' : GA} {ret : Option FieldType} {C : Tab} {pc : Nat} {lv : LV} {st : List AV} {M : Mem} {Q Q' : PQ}
    (hG : ∀ (mid : Nat) (av : List AV) (M : Mem) (Z Z' : PQ), (∀ r M, Z r M → Z' r M) → Γ mid av M Z → Γ' mid av M Z')
    (hQ : ∀ r M, Q r M → Q' r M) (h : Tot Γ ret C pc lv st M Q) : Tot Γ' ret C pc lv st M Q' :=
  fun S hS => h S fun pc lv st M q => hS pc lv st M (stp_mono hG (fun _ _ _ _ z => z) hQ q)
theorem Td_mono (P : Nat → MRec) : ∀ (d d' : Nat), d ≤ d' → ∀ (mid : Nat) (av : List AV) (M : Mem) (Q Q' : PQ), (∀ r M, Q r M → Q' r M) → Td P d mid av M Q → Td P d' mid av M Q' := by
  intro d
  induction d with
  | zero => intro d' _ mid av M Q Q' _ h; exact h.elim
  | succ d ih =>
    intro d' hd mid av M Q Q' hQ h
    obtain ⟨e, rfl⟩ : ∃ e, d' = e + 1 := ⟨d' - 1, by omega⟩
    exact Tot_mono (ih e (by omega)) hQ h
end
section
-- 03.code: the methods as tables (by program gen03.py)
def T_X0_becomeAs : Tab := [
  [some ((.aload_n 0, 1), 0, 0, 0, []), some ((.aload_n 1, 1), 1, 0, 0, []), some ((.getfield 9, 3), 0, 0, 0, []), none, none, some ((.putfield 9, 3), 0, 0, 0, []), none, none, some ((.aload_n 0, 1), 0, 0, 0, []), some ((.aload_n 1, 1), 1, 0, 0, []), some ((.getfield 15, 3), 0, 1, 0, []), none, none, some ((.putfield 15, 3), 0, 1, 0, []), none, none],
  [some ((.aload_n 0, 1), 0, 0, 0, []), some ((.aload_n 1, 1), 1, 0, 0, []), some ((.getfield 18, 3), 0, 2, 0, []), none, none, some ((.putfield 18, 3), 0, 2, 0, []), none, none, some ((.aload_n 0, 1), 0, 0, 0, []), some ((.aload_n 1, 1), 1, 0, 0, []), some ((.getfield 21, 3), 0, 3, 0, []), none, none, some ((.putfield 21, 3), 0, 3, 0, []), none, none],
  [some ((.return_, 1), 0, 0, 0, [])]]
def T_X0_isOf : Tab := [
  [some ((.aload_n 0, 1), 0, 0, 0, []), some ((.getfield 9, 3), 0, 0, 0, []), none, none, some ((.lookupswitch 68 #[(3, 28), (4, 48)], 28), 72, 0, 0, [(3, 32), (4, 52)]), none, none, none, none, none, none, none, none, none, none, none],
  [none, none, none, none, none, none, none, none, none, none, none, none, none, none, none, none],
  [some ((.iload_n 1, 1), 1, 0, 0, []), some ((.iconst 3, 1), 0, 0, 3, []), some ((.if_icmp .eq 12, 3), 46, 0, 0, []), none, none, some ((.iload_n 1, 1), 1, 0, 0, []), some ((.iconst 1, 1), 0, 0, 1, []), some ((.if_icmp .eq 7, 3), 46, 0, 0, []), none, none, some ((.iload_n 1, 1), 1, 0, 0, []), some ((.ifCond .ne 7, 3), 50, 0, 0, []), none, none, some ((.iconst 1, 1), 0, 0, 1, []), some ((.goto 4, 3), 51, 0, 0, [])],
  [none, none, some ((.iconst 0, 1), 0, 0, 0, []), some ((.ireturn, 1), 0, 0, 0, []), some ((.iload_n 1, 1), 1, 0, 0, []), some ((.iconst 4, 1), 0, 0, 4, []), some ((.if_icmp .eq 12, 3), 66, 0, 0, []), none, none, some ((.iload_n 1, 1), 1, 0, 0, []), some ((.iconst 2, 1), 0, 0, 2, []), some ((.if_icmp .eq 7, 3), 66, 0, 0, []), none, none, some ((.iload_n 1, 1), 1, 0, 0, []), some ((.ifCond .ne 7, 3), 70, 0, 0, [])],
  [none, none, some ((.iconst 1, 1), 0, 0, 1, []), some ((.goto 4, 3), 71, 0, 0, []), none, none, some ((.iconst 0, 1), 0, 0, 0, []), some ((.ireturn, 1), 0, 0, 0, []), some ((.iload_n 1, 1), 1, 0, 0, []), some ((.aload_n 0, 1), 0, 0, 0, []), some ((.getfield 9, 3), 0, 0, 0, []), none, none, some ((.if_icmp .eq 7, 3), 84, 0, 0, []), none, none],
  [some ((.iload_n 1, 1), 1, 0, 0, []), some ((.ifCond .ne 7, 3), 88, 0, 0, []), none, none, some ((.iconst 1, 1), 0, 0, 1, []), some ((.goto 4, 3), 89, 0, 0, []), none, none, some ((.iconst 0, 1), 0, 0, 0, []), some ((.ireturn, 1), 0, 0, 0, [])]]
def T_X0_wide : Tab := [
  [some ((.aload_n 0, 1), 0, 0, 0, []), some ((.getfield 9, 3), 0, 0, 0, []), none, none, some ((.tableswitch 38 2 5 #[32, 38, 34, 36], 32), 42, 0, 0, [(2, 36), (3, 42), (4, 38), (5, 40)]), none, none, none, none, none, none, none, none, none, none, none],
  [none, none, none, none, none, none, none, none, none, none, none, none, none, none, none, none],
  [none, none, none, none, some ((.iconst 1, 1), 0, 0, 1, []), some ((.ireturn, 1), 0, 0, 0, []), some ((.iconst 3, 1), 0, 0, 3, []), some ((.ireturn, 1), 0, 0, 0, []), some ((.iconst 4, 1), 0, 0, 4, []), some ((.ireturn, 1), 0, 0, 0, []), some ((.iconst 2, 1), 0, 0, 2, []), some ((.ireturn, 1), 0, 0, 0, [])]]
def T_X0_takes : Tab := [
  [some ((.aload_n 0, 1), 0, 0, 0, []), some ((.getfield 9, 3), 0, 0, 0, []), none, none, some ((.iconst 1, 1), 0, 0, 1, []), some ((.if_icmp .ne 13, 3), 18, 0, 0, []), none, none, some ((.iload_n 1, 1), 1, 0, 0, []), some ((.iconst 2, 1), 0, 0, 2, []), some ((.if_icmp .eq 8, 3), 18, 0, 0, []), none, none, some ((.aload_n 0, 1), 0, 0, 0, []), some ((.getfield 15, 3), 0, 1, 0, []), none],
  [none, some ((.ireturn, 1), 0, 0, 0, []), some ((.aload_n 0, 1), 0, 0, 0, []), some ((.getfield 9, 3), 0, 0, 0, []), none, none, some ((.iconst 4, 1), 0, 0, 4, []), some ((.if_icmp .ne 14, 3), 37, 0, 0, []), none, none, some ((.iload_n 2, 1), 2, 0, 0, []), some ((.iconst 2, 1), 0, 0, 2, []), some ((.irem, 1), 0, 0, 0, []), some ((.ifCond .eq 8, 3), 37, 0, 0, []), none, none],
  [some ((.aload_n 0, 1), 0, 0, 0, []), some ((.getfield 21, 3), 0, 3, 0, []), none, none, some ((.ireturn, 1), 0, 0, 0, []), some ((.aload_n 0, 1), 0, 0, 0, []), some ((.getfield 18, 3), 0, 2, 0, []), none, none, some ((.ireturn, 1), 0, 0, 0, [])]]
def T_X0_leads : Tab := [
  [some ((.aload_n 0, 1), 0, 0, 0, []), some ((.getfield 9, 3), 0, 0, 0, []), none, none, some ((.iconst 4, 1), 0, 0, 4, []), some ((.if_icmp .ne 19, 3), 24, 0, 0, []), none, none, some ((.iconst 1, 1), 0, 0, 1, []), some ((.aload_n 0, 1), 0, 0, 0, []), some ((.getfield 18, 3), 0, 2, 0, []), none, none, some ((.ishl, 1), 0, 0, 0, []), some ((.iconst 1, 1), 0, 0, 1, []), some ((.aload_n 0, 1), 0, 0, 0, [])],
  [some ((.getfield 21, 3), 0, 3, 0, []), none, none, some ((.ishl, 1), 0, 0, 0, []), some ((.ior, 1), 0, 0, 0, []), some ((.goto 9, 3), 30, 0, 0, []), none, none, some ((.iconst 1, 1), 0, 0, 1, []), some ((.aload_n 0, 1), 0, 0, 0, []), some ((.getfield 18, 3), 0, 2, 0, []), none, none, some ((.ishl, 1), 0, 0, 0, []), some ((.ireturn, 1), 0, 0, 0, [])]]
def T_X0_worth : Tab := [
  [some ((.aload_n 0, 1), 0, 0, 0, []), some ((.getfield 15, 3), 0, 1, 0, []), none, none, some ((.aload_n 0, 1), 0, 0, 0, []), some ((.getfield 18, 3), 0, 2, 0, []), none, none, some ((.isub, 1), 0, 0, 0, []), some ((.invokestatic 24, 3), 0, 106, 0, []), none, none, some ((.istore_n 1, 1), 1, 0, 0, []), some ((.aload_n 0, 1), 0, 0, 0, []), some ((.getfield 9, 3), 0, 0, 0, []), none],
  [none, some ((.tableswitch 62 1 5 #[35, 45, 39, 50, 60], 35), 79, 0, 0, [(1, 52), (2, 62), (3, 56), (4, 67), (5, 77)]), none, none, none, none, none, none, none, none, none, none, none, none, none, none],
  [none, none, none, none, none, none, none, none, none, none, none, none, none, none, none, none],
  [none, none, none, none, some ((.iload_n 1, 1), 1, 0, 0, []), some ((.iconst 5, 1), 0, 0, 5, []), some ((.iadd, 1), 0, 0, 0, []), some ((.ireturn, 1), 0, 0, 0, []), some ((.iconst 2, 1), 0, 0, 2, []), some ((.iload_n 1, 1), 1, 0, 0, []), some ((.iconst 5, 1), 0, 0, 5, []), some ((.iadd, 1), 0, 0, 0, []), some ((.imul, 1), 0, 0, 0, []), some ((.ireturn, 1), 0, 0, 0, []), some ((.bipush 9, 2), 0, 0, 9, []), none],
  [some ((.iload_n 1, 1), 1, 0, 0, []), some ((.isub, 1), 0, 0, 0, []), some ((.ireturn, 1), 0, 0, 0, []), some ((.bipush 9, 2), 0, 0, 9, []), none, some ((.iload_n 1, 1), 1, 0, 0, []), some ((.isub, 1), 0, 0, 0, []), some ((.aload_n 0, 1), 0, 0, 0, []), some ((.getfield 21, 3), 0, 3, 0, []), none, none, some ((.iadd, 1), 0, 0, 0, []), some ((.ireturn, 1), 0, 0, 0, []), some ((.iconst 1, 1), 0, 0, 1, []), some ((.ireturn, 1), 0, 0, 0, []), some ((.iload_n 1, 1), 1, 0, 0, [])],
  [some ((.ireturn, 1), 0, 0, 0, [])]]
def T_X0_swings : Tab := [
  [some ((.aload_n 0, 1), 0, 0, 0, []), some ((.getfield 15, 3), 0, 1, 0, []), none, none, some ((.istore_n 1, 1), 1, 0, 0, []), some ((.aload_n 0, 1), 0, 0, 0, []), some ((.aload_n 0, 1), 0, 0, 0, []), some ((.getfield 18, 3), 0, 2, 0, []), none, none, some ((.putfield 15, 3), 0, 1, 0, []), none, none, some ((.aload_n 0, 1), 0, 0, 0, []), some ((.iload_n 1, 1), 1, 0, 0, []), some ((.putfield 18, 3), 0, 2, 0, [])],
  [none, none, some ((.return_, 1), 0, 0, 0, [])]]
def T_X1_becomeAs : Tab := [
  [some ((.aload_n 0, 1), 0, 0, 0, []), some ((.aload_n 1, 1), 1, 0, 0, []), some ((.getfield 36, 3), 1, 2, 0, []), none, none, some ((.putfield 36, 3), 1, 2, 0, []), none, none, some ((.iconst 0, 1), 0, 0, 0, []), some ((.istore_n 2, 1), 2, 0, 0, []), some ((.iload_n 2, 1), 2, 0, 0, []), some ((.aload_n 0, 1), 0, 0, 0, []), some ((.getfield 36, 3), 1, 2, 0, []), none, none, some ((.if_icmp .ge 24, 3), 39, 0, 0, [])],
  [none, none, some ((.aload_n 0, 1), 0, 0, 0, []), some ((.getfield 17, 3), 1, 1, 0, []), none, none, some ((.iload_n 2, 1), 2, 0, 0, []), some ((.aaload, 1), 0, 0, 0, []), some ((.aload_n 1, 1), 1, 0, 0, []), some ((.getfield 17, 3), 1, 1, 0, []), none, none, some ((.iload_n 2, 1), 2, 0, 0, []), some ((.aaload, 1), 0, 0, 0, []), some ((.invokevirtual 39, 3), 0, 2, 0, [(0, 0)]), none],
  [none, some ((.iinc 2 1, 3), 2, 0, 1, []), none, none, some ((.goto (-26), 3), 10, 0, 0, []), none, none, some ((.aload_n 0, 1), 0, 0, 0, []), some ((.aload_n 1, 1), 1, 0, 0, []), some ((.getfield 43, 3), 1, 4, 0, []), none, none, some ((.putfield 43, 3), 1, 4, 0, []), none, none, some ((.iconst 0, 1), 0, 0, 0, [])],
  [some ((.istore_n 2, 1), 2, 0, 0, []), some ((.iload_n 2, 1), 2, 0, 0, []), some ((.aload_n 0, 1), 0, 0, 0, []), some ((.getfield 43, 3), 1, 4, 0, []), none, none, some ((.if_icmp .ge 24, 3), 78, 0, 0, []), none, none, some ((.aload_n 0, 1), 0, 0, 0, []), some ((.getfield 24, 3), 1, 3, 0, []), none, none, some ((.iload_n 2, 1), 2, 0, 0, []), some ((.aaload, 1), 0, 0, 0, []), some ((.aload_n 1, 1), 1, 0, 0, [])],
  [some ((.getfield 24, 3), 1, 3, 0, []), none, none, some ((.iload_n 2, 1), 2, 0, 0, []), some ((.aaload, 1), 0, 0, 0, []), some ((.invokevirtual 46, 3), 30, 2, 0, [(0, 3)]), none, none, some ((.iinc 2 1, 3), 2, 0, 1, []), none, none, some ((.goto (-26), 3), 49, 0, 0, []), none, none, some ((.aload_n 0, 1), 0, 0, 0, []), some ((.aload_n 1, 1), 1, 0, 0, [])],
  [some ((.getfield 29, 3), 1, 5, 0, []), none, none, some ((.putfield 29, 3), 1, 5, 0, []), none, none, some ((.aload_n 0, 1), 0, 0, 0, []), some ((.aload_n 1, 1), 1, 0, 0, []), some ((.getfield 49, 3), 1, 6, 0, []), none, none, some ((.putfield 49, 3), 1, 6, 0, []), none, none, some ((.aload_n 0, 1), 0, 0, 0, []), some ((.aload_n 1, 1), 1, 0, 0, [])],
  [some ((.getfield 52, 3), 1, 7, 0, []), none, none, some ((.putfield 52, 3), 1, 7, 0, []), none, none, some ((.aload_n 0, 1), 0, 0, 0, []), some ((.aload_n 1, 1), 1, 0, 0, []), some ((.getfield 55, 3), 1, 8, 0, []), none, none, some ((.putfield 55, 3), 1, 8, 0, []), none, none, some ((.aload_n 0, 1), 0, 0, 0, []), some ((.aload_n 1, 1), 1, 0, 0, [])],
  [some ((.getfield 58, 3), 1, 9, 0, []), none, none, some ((.putfield 58, 3), 1, 9, 0, []), none, none, some ((.aload_n 0, 1), 0, 0, 0, []), some ((.aload_n 1, 1), 1, 0, 0, []), some ((.getfield 61, 3), 1, 10, 0, []), none, none, some ((.putfield 61, 3), 1, 10, 0, []), none, none, some ((.aload_n 0, 1), 0, 0, 0, []), some ((.aload_n 1, 1), 1, 0, 0, [])],
  [some ((.getfield 33, 3), 1, 11, 0, []), none, none, some ((.putfield 33, 3), 1, 11, 0, []), none, none, some ((.aload_n 0, 1), 0, 0, 0, []), some ((.aload_n 1, 1), 1, 0, 0, []), some ((.getfield 64, 3), 1, 12, 0, []), none, none, some ((.putfield 64, 3), 1, 12, 0, []), none, none, some ((.return_, 1), 0, 0, 0, [])]]
def T_X1_addBed : Tab := [
  [some ((.aload_n 0, 1), 0, 0, 0, []), some ((.getfield 17, 3), 1, 1, 0, []), none, none, some ((.aload_n 0, 1), 0, 0, 0, []), some ((.getfield 36, 3), 1, 2, 0, []), none, none, some ((.aaload, 1), 0, 0, 0, []), some ((.astore 5, 2), 5, 0, 0, []), none, some ((.aload 5, 2), 5, 0, 0, []), none, some ((.iload_n 1, 1), 1, 0, 0, []), some ((.putfield 67, 3), 0, 0, 0, []), none],
  [none, some ((.aload 5, 2), 5, 0, 0, []), none, some ((.iload_n 2, 1), 2, 0, 0, []), some ((.putfield 70, 3), 0, 1, 0, []), none, none, some ((.aload 5, 2), 5, 0, 0, []), none, some ((.iload_n 3, 1), 3, 0, 0, []), some ((.putfield 73, 3), 0, 2, 0, []), none, none, some ((.aload 5, 2), 5, 0, 0, []), none, some ((.iload 4, 2), 4, 0, 0, [])],
  [none, some ((.putfield 76, 3), 0, 3, 0, []), none, none, some ((.aload_n 0, 1), 0, 0, 0, []), some ((.dup, 1), 0, 0, 0, []), some ((.getfield 36, 3), 1, 2, 0, []), none, none, some ((.iconst 1, 1), 0, 0, 1, []), some ((.iadd, 1), 0, 0, 0, []), some ((.putfield 36, 3), 1, 2, 0, []), none, none, some ((.aload_n 0, 1), 0, 0, 0, []), some ((.getfield 36, 3), 1, 2, 0, [])],
  [none, none, some ((.iconst 1, 1), 0, 0, 1, []), some ((.isub, 1), 0, 0, 0, []), some ((.ireturn, 1), 0, 0, 0, [])]]
def T_X1_addOne : Tab := [
  [some ((.aload_n 0, 1), 0, 0, 0, []), some ((.getfield 24, 3), 1, 3, 0, []), none, none, some ((.aload_n 0, 1), 0, 0, 0, []), some ((.getfield 43, 3), 1, 4, 0, []), none, none, some ((.aaload, 1), 0, 0, 0, []), some ((.astore_n 3, 1), 3, 0, 0, []), some ((.aload_n 3, 1), 3, 0, 0, []), some ((.iload_n 1, 1), 1, 0, 0, []), some ((.putfield 79, 3), 3, 0, 0, []), none, none, some ((.aload_n 3, 1), 3, 0, 0, [])],
  [some ((.iload_n 2, 1), 2, 0, 0, []), some ((.putfield 82, 3), 3, 1, 0, []), none, none, some ((.aload_n 3, 1), 3, 0, 0, []), some ((.iconst 0, 1), 0, 0, 0, []), some ((.putfield 85, 3), 3, 2, 0, []), none, none, some ((.aload_n 3, 1), 3, 0, 0, []), some ((.iconst 0, 1), 0, 0, 0, []), some ((.putfield 88, 3), 3, 3, 0, []), none, none, some ((.aload_n 0, 1), 0, 0, 0, []), some ((.dup, 1), 0, 0, 0, [])],
  [some ((.getfield 43, 3), 1, 4, 0, []), none, none, some ((.iconst 1, 1), 0, 0, 1, []), some ((.iadd, 1), 0, 0, 0, []), some ((.putfield 43, 3), 1, 4, 0, []), none, none, some ((.aload_n 0, 1), 0, 0, 0, []), some ((.getfield 43, 3), 1, 4, 0, []), none, none, some ((.iconst 1, 1), 0, 0, 1, []), some ((.isub, 1), 0, 0, 0, []), some ((.ireturn, 1), 0, 0, 0, [])]]
def T_X1_draw : Tab := [
  [some ((.aload_n 0, 1), 0, 0, 0, []), some ((.aload_n 0, 1), 0, 0, 0, []), some ((.getfield 33, 3), 1, 11, 0, []), none, none, some ((.ldc 91, 2), 0, 0, 1103515245, []), none, some ((.imul, 1), 0, 0, 0, []), some ((.sipush 12345, 3), 0, 0, 12345, []), none, none, some ((.iadd, 1), 0, 0, 0, []), some ((.putfield 33, 3), 1, 11, 0, []), none, none, some ((.aload_n 0, 1), 0, 0, 0, [])],
  [some ((.getfield 33, 3), 1, 11, 0, []), none, none, some ((.bipush 8, 2), 0, 0, 8, []), none, some ((.iushr, 1), 0, 0, 0, []), some ((.ireturn, 1), 0, 0, 0, [])]]
def T_X1_lawOf : Tab := [
  [some ((.aload_n 0, 1), 0, 0, 0, []), some ((.getfield 9, 3), 1, 0, 0, []), none, none, some ((.iload_n 1, 1), 1, 0, 0, []), some ((.aload_n 0, 1), 0, 0, 0, []), some ((.getfield 64, 3), 1, 12, 0, []), none, none, some ((.invokevirtual 92, 3), 27, 3, 0, [(0, 2)]), none, none, some ((.ireturn, 1), 0, 0, 0, [])]]
def T_X1_hours : Tab := [
  [some ((.iload_n 2, 1), 2, 0, 0, []), some ((.ifCond .ge 5, 3), 6, 0, 0, []), none, none, some ((.iconst 1, 1), 0, 0, 1, []), some ((.ireturn, 1), 0, 0, 0, []), some ((.aload_n 0, 1), 0, 0, 0, []), some ((.getfield 9, 3), 1, 0, 0, []), none, none, some ((.iload_n 2, 1), 2, 0, 0, []), some ((.aload_n 1, 1), 1, 0, 0, []), some ((.getfield 85, 3), 3, 2, 0, []), none, none, some ((.aload_n 0, 1), 0, 0, 0, [])],
  [some ((.getfield 61, 3), 1, 10, 0, []), none, none, some ((.aload_n 0, 1), 0, 0, 0, []), some ((.aload_n 1, 1), 1, 0, 0, []), some ((.getfield 79, 3), 3, 0, 0, []), none, none, some ((.invokevirtual 98, 3), 13, 2, 0, [(0, 1)]), none, none, some ((.invokevirtual 102, 3), 28, 5, 0, [(0, 2)]), none, none, some ((.bipush 9, 2), 0, 0, 9, []), none],
  [some ((.invokestatic 106, 3), 118, 2, 0, []), none, none, some ((.ireturn, 1), 0, 0, 0, [])]]
def T_X1_presentIn : Tab := [
  [some ((.iconst 0, 1), 0, 0, 0, []), some ((.istore_n 2, 1), 2, 0, 0, []), some ((.iconst 0, 1), 0, 0, 0, []), some ((.istore_n 3, 1), 3, 0, 0, []), some ((.iload_n 3, 1), 3, 0, 0, []), some ((.aload_n 0, 1), 0, 0, 0, []), some ((.getfield 43, 3), 1, 4, 0, []), none, none, some ((.if_icmp .ge 37, 3), 46, 0, 0, []), none, none, some ((.aload_n 0, 1), 0, 0, 0, []), some ((.getfield 24, 3), 1, 3, 0, []), none, none],
  [some ((.iload_n 3, 1), 3, 0, 0, []), some ((.aaload, 1), 0, 0, 0, []), some ((.getfield 79, 3), 3, 0, 0, []), none, none, some ((.iload_n 1, 1), 1, 0, 0, []), some ((.if_icmp .ne 18, 3), 40, 0, 0, []), none, none, some ((.aload_n 0, 1), 0, 0, 0, []), some ((.getfield 24, 3), 1, 3, 0, []), none, none, some ((.iload_n 3, 1), 3, 0, 0, []), some ((.aaload, 1), 0, 0, 0, []), some ((.getfield 88, 3), 3, 3, 0, [])],
  [none, none, some ((.ifCond .ne 6, 3), 40, 0, 0, []), none, none, some ((.iinc 2 1, 3), 2, 0, 1, []), none, none, some ((.iinc 3 1, 3), 3, 0, 1, []), none, none, some ((.goto (-39), 3), 4, 0, 0, []), none, none, some ((.iload_n 2, 1), 2, 0, 0, []), some ((.ireturn, 1), 0, 0, 0, [])]]
def T_X1_thoseIn : Tab := [
  [some ((.iconst 0, 1), 0, 0, 0, []), some ((.istore_n 2, 1), 2, 0, 0, []), some ((.iconst 0, 1), 0, 0, 0, []), some ((.istore_n 3, 1), 3, 0, 0, []), some ((.iload_n 3, 1), 3, 0, 0, []), some ((.aload_n 0, 1), 0, 0, 0, []), some ((.getfield 43, 3), 1, 4, 0, []), none, none, some ((.if_icmp .ge 28, 3), 37, 0, 0, []), none, none, some ((.aload_n 0, 1), 0, 0, 0, []), some ((.getfield 24, 3), 1, 3, 0, []), none, none],
  [some ((.iload_n 3, 1), 3, 0, 0, []), some ((.aaload, 1), 0, 0, 0, []), some ((.getfield 79, 3), 3, 0, 0, []), none, none, some ((.iload_n 1, 1), 1, 0, 0, []), some ((.if_icmp .ne 9, 3), 31, 0, 0, []), none, none, some ((.iload_n 2, 1), 2, 0, 0, []), some ((.iconst 1, 1), 0, 0, 1, []), some ((.iload_n 3, 1), 3, 0, 0, []), some ((.ishl, 1), 0, 0, 0, []), some ((.ior, 1), 0, 0, 0, []), some ((.istore_n 2, 1), 2, 0, 0, []), some ((.iinc 3 1, 3), 3, 0, 1, [])],
  [none, none, some ((.goto (-30), 3), 4, 0, 0, []), none, none, some ((.iload_n 2, 1), 2, 0, 0, []), some ((.ireturn, 1), 0, 0, 0, [])]]
def T_X1_isAtHome : Tab := [
  [some ((.aload_n 0, 1), 0, 0, 0, []), some ((.getfield 24, 3), 1, 3, 0, []), none, none, some ((.iload_n 1, 1), 1, 0, 0, []), some ((.aaload, 1), 0, 0, 0, []), some ((.getfield 79, 3), 3, 0, 0, []), none, none, some ((.aload_n 0, 1), 0, 0, 0, []), some ((.getfield 24, 3), 1, 3, 0, []), none, none, some ((.iload_n 1, 1), 1, 0, 0, []), some ((.aaload, 1), 0, 0, 0, []), some ((.getfield 82, 3), 3, 1, 0, [])],
  [none, none, some ((.if_icmp .ne 7, 3), 25, 0, 0, []), none, none, some ((.iconst 1, 1), 0, 0, 1, []), some ((.goto 4, 3), 26, 0, 0, []), none, none, some ((.iconst 0, 1), 0, 0, 0, []), some ((.ireturn, 1), 0, 0, 0, [])]]
def T_X1_thoseAtHome : Tab := [
  [some ((.iconst 0, 1), 0, 0, 0, []), some ((.istore_n 1, 1), 1, 0, 0, []), some ((.iconst 0, 1), 0, 0, 0, []), some ((.istore_n 2, 1), 2, 0, 0, []), some ((.iload_n 2, 1), 2, 0, 0, []), some ((.aload_n 0, 1), 0, 0, 0, []), some ((.getfield 43, 3), 1, 4, 0, []), none, none, some ((.if_icmp .ge 23, 3), 32, 0, 0, []), none, none, some ((.aload_n 0, 1), 0, 0, 0, []), some ((.iload_n 2, 1), 2, 0, 0, []), some ((.invokevirtual 109, 3), 15, 2, 0, [(0, 1)]), none],
  [none, some ((.ifCond .eq 9, 3), 26, 0, 0, []), none, none, some ((.iload_n 1, 1), 1, 0, 0, []), some ((.iconst 1, 1), 0, 0, 1, []), some ((.iload_n 2, 1), 2, 0, 0, []), some ((.ishl, 1), 0, 0, 0, []), some ((.ior, 1), 0, 0, 0, []), some ((.istore_n 1, 1), 1, 0, 0, []), some ((.iinc 2 1, 3), 2, 0, 1, []), none, none, some ((.goto (-25), 3), 4, 0, 0, []), none, none],
  [some ((.iload_n 1, 1), 1, 0, 0, []), some ((.ireturn, 1), 0, 0, 0, [])]]
def T_X1_thoseGone : Tab := [
  [some ((.iconst 0, 1), 0, 0, 0, []), some ((.istore_n 1, 1), 1, 0, 0, []), some ((.iconst 0, 1), 0, 0, 0, []), some ((.istore_n 2, 1), 2, 0, 0, []), some ((.iload_n 2, 1), 2, 0, 0, []), some ((.aload_n 0, 1), 0, 0, 0, []), some ((.getfield 43, 3), 1, 4, 0, []), none, none, some ((.if_icmp .ge 27, 3), 36, 0, 0, []), none, none, some ((.aload_n 0, 1), 0, 0, 0, []), some ((.getfield 24, 3), 1, 3, 0, []), none, none],
  [some ((.iload_n 2, 1), 2, 0, 0, []), some ((.aaload, 1), 0, 0, 0, []), some ((.getfield 88, 3), 3, 3, 0, []), none, none, some ((.ifCond .eq 9, 3), 30, 0, 0, []), none, none, some ((.iload_n 1, 1), 1, 0, 0, []), some ((.iconst 1, 1), 0, 0, 1, []), some ((.iload_n 2, 1), 2, 0, 0, []), some ((.ishl, 1), 0, 0, 0, []), some ((.ior, 1), 0, 0, 0, []), some ((.istore_n 1, 1), 1, 0, 0, []), some ((.iinc 2 1, 3), 2, 0, 1, []), none],
  [none, some ((.goto (-29), 3), 4, 0, 0, []), none, none, some ((.iload_n 1, 1), 1, 0, 0, []), some ((.ireturn, 1), 0, 0, 0, [])]]
def T_X1_passNights : Tab := [
  [some ((.iconst 0, 1), 0, 0, 0, []), some ((.istore_n 2, 1), 2, 0, 0, []), some ((.iload_n 2, 1), 2, 0, 0, []), some ((.iload_n 1, 1), 1, 0, 0, []), some ((.if_icmp .ge 13, 3), 17, 0, 0, []), none, none, some ((.aload_n 0, 1), 0, 0, 0, []), some ((.invokevirtual 113, 3), 19, 1, 0, [(0, 1)]), none, none, some ((.iinc 2 1, 3), 2, 0, 1, []), none, none, some ((.goto (-12), 3), 2, 0, 0, []), none],
  [none, some ((.return_, 1), 0, 0, 0, [])]]
def T_X1_passNight : Tab := [
  [some ((.aload_n 0, 1), 0, 0, 0, []), some ((.invokevirtual 116, 3), 20, 1, 0, [(0, 1)]), none, none, some ((.aload_n 0, 1), 0, 0, 0, []), some ((.invokevirtual 119, 3), 22, 1, 0, [(0, 1)]), none, none, some ((.aload_n 0, 1), 0, 0, 0, []), some ((.invokevirtual 122, 3), 24, 1, 0, [(0, 1)]), none, none, some ((.aload_n 0, 1), 0, 0, 0, []), some ((.dup, 1), 0, 0, 0, []), some ((.getfield 61, 3), 1, 10, 0, []), none],
  [none, some ((.iconst 1, 1), 0, 0, 1, []), some ((.iadd, 1), 0, 0, 0, []), some ((.putfield 61, 3), 1, 10, 0, []), none, none, some ((.return_, 1), 0, 0, 0, [])]]
def T_X1_lieDown : Tab := [
  [some ((.iconst 0, 1), 0, 0, 0, []), some ((.istore_n 1, 1), 1, 0, 0, []), some ((.iload_n 1, 1), 1, 0, 0, []), some ((.aload_n 0, 1), 0, 0, 0, []), some ((.getfield 36, 3), 1, 2, 0, []), none, none, some ((.if_icmp .ge 19, 3), 26, 0, 0, []), none, none, some ((.aload_n 0, 1), 0, 0, 0, []), some ((.getfield 17, 3), 1, 1, 0, []), none, none, some ((.iload_n 1, 1), 1, 0, 0, []), some ((.aaload, 1), 0, 0, 0, [])],
  [some ((.iconst 0, 1), 0, 0, 0, []), some ((.putfield 125, 3), 0, 4, 0, []), none, none, some ((.iinc 1 1, 3), 1, 0, 1, []), none, none, some ((.goto (-21), 3), 2, 0, 0, []), none, none, some ((.aload_n 0, 1), 0, 0, 0, []), some ((.iconst 0, 1), 0, 0, 0, []), some ((.invokevirtual 128, 3), 11, 2, 0, [(0, 1)]), none, none, some ((.istore_n 1, 1), 1, 0, 0, [])],
  [some ((.iconst 0, 1), 0, 0, 0, []), some ((.istore_n 2, 1), 2, 0, 0, []), some ((.iload_n 2, 1), 2, 0, 0, []), some ((.aload_n 0, 1), 0, 0, 0, []), some ((.getfield 43, 3), 1, 4, 0, []), none, none, some ((.if_icmp .ge 106, 3), 145, 0, 0, []), none, none, some ((.aload_n 0, 1), 0, 0, 0, []), some ((.getfield 24, 3), 1, 3, 0, []), none, none, some ((.iload_n 2, 1), 2, 0, 0, []), some ((.aaload, 1), 0, 0, 0, [])],
  [some ((.astore_n 3, 1), 3, 0, 0, []), some ((.aload_n 3, 1), 3, 0, 0, []), some ((.iconst (-1), 1), 0, 0, (-1), []), some ((.putfield 131, 3), 3, 4, 0, []), none, none, some ((.aload_n 3, 1), 3, 0, 0, []), some ((.getfield 88, 3), 3, 3, 0, []), none, none, some ((.ifCond .ne 81, 3), 139, 0, 0, []), none, none, some ((.aload_n 3, 1), 3, 0, 0, []), some ((.aload_n 0, 1), 0, 0, 0, []), some ((.aload_n 3, 1), 3, 0, 0, [])],
  [some ((.iload_n 1, 1), 1, 0, 0, []), some ((.invokevirtual 134, 3), 12, 3, 0, [(0, 1)]), none, none, some ((.ifCond .le 14, 3), 82, 0, 0, []), none, none, some ((.aload_n 0, 1), 0, 0, 0, []), some ((.aload_n 3, 1), 3, 0, 0, []), some ((.getfield 79, 3), 3, 0, 0, []), none, none, some ((.invokevirtual 138, 3), 21, 2, 0, [(0, 1)]), none, none, some ((.goto 4, 3), 83, 0, 0, [])],
  [none, none, some ((.iconst (-1), 1), 0, 0, (-1), []), some ((.putfield 131, 3), 3, 4, 0, []), none, none, some ((.aload_n 3, 1), 3, 0, 0, []), some ((.getfield 131, 3), 3, 4, 0, []), none, none, some ((.ifCond .ge 31, 3), 121, 0, 0, []), none, none, some ((.aload_n 0, 1), 0, 0, 0, []), some ((.dup, 1), 0, 0, 0, []), some ((.getfield 52, 3), 1, 7, 0, [])],
  [none, none, some ((.iconst 1, 1), 0, 0, 1, []), some ((.iadd, 1), 0, 0, 0, []), some ((.putfield 52, 3), 1, 7, 0, []), none, none, some ((.aload_n 3, 1), 3, 0, 0, []), some ((.bipush 9, 2), 0, 0, 9, []), none, some ((.aload_n 3, 1), 3, 0, 0, []), some ((.getfield 85, 3), 3, 2, 0, []), none, none, some ((.iconst 1, 1), 0, 0, 1, []), some ((.iadd, 1), 0, 0, 0, [])],
  [some ((.invokestatic 141, 3), 0, 108, 0, []), none, none, some ((.putfield 85, 3), 3, 2, 0, []), none, none, some ((.goto 21, 3), 139, 0, 0, []), none, none, some ((.aload_n 0, 1), 0, 0, 0, []), some ((.getfield 17, 3), 1, 1, 0, []), none, none, some ((.aload_n 3, 1), 3, 0, 0, []), some ((.getfield 131, 3), 3, 4, 0, []), none],
  [none, some ((.aaload, 1), 0, 0, 0, []), some ((.dup, 1), 0, 0, 0, []), some ((.getfield 125, 3), 0, 4, 0, []), none, none, some ((.iconst 1, 1), 0, 0, 1, []), some ((.iadd, 1), 0, 0, 0, []), some ((.putfield 125, 3), 0, 4, 0, []), none, none, some ((.iinc 2 1, 3), 2, 0, 1, []), none, none, some ((.goto (-108), 3), 34, 0, 0, []), none],
  [none, some ((.return_, 1), 0, 0, 0, [])]]
def T_X1_freeBedAt : Tab := [
  [some ((.iconst 0, 1), 0, 0, 0, []), some ((.istore_n 2, 1), 2, 0, 0, []), some ((.iload_n 2, 1), 2, 0, 0, []), some ((.aload_n 0, 1), 0, 0, 0, []), some ((.getfield 36, 3), 1, 2, 0, []), none, none, some ((.if_icmp .ge 45, 3), 52, 0, 0, []), none, none, some ((.aload_n 0, 1), 0, 0, 0, []), some ((.getfield 17, 3), 1, 1, 0, []), none, none, some ((.iload_n 2, 1), 2, 0, 0, []), some ((.aaload, 1), 0, 0, 0, [])],
  [some ((.getfield 70, 3), 0, 1, 0, []), none, none, some ((.iload_n 1, 1), 1, 0, 0, []), some ((.if_icmp .ne 26, 3), 46, 0, 0, []), none, none, some ((.aload_n 0, 1), 0, 0, 0, []), some ((.getfield 17, 3), 1, 1, 0, []), none, none, some ((.iload_n 2, 1), 2, 0, 0, []), some ((.aaload, 1), 0, 0, 0, []), some ((.getfield 125, 3), 0, 4, 0, []), none, none],
  [some ((.aload_n 0, 1), 0, 0, 0, []), some ((.getfield 17, 3), 1, 1, 0, []), none, none, some ((.iload_n 2, 1), 2, 0, 0, []), some ((.aaload, 1), 0, 0, 0, []), some ((.invokevirtual 146, 3), 2, 1, 0, [(0, 0)]), none, none, some ((.if_icmp .ge 5, 3), 46, 0, 0, []), none, none, some ((.iload_n 2, 1), 2, 0, 0, []), some ((.ireturn, 1), 0, 0, 0, []), some ((.iinc 2 1, 3), 2, 0, 1, []), none],
  [none, some ((.goto (-47), 3), 2, 0, 0, []), none, none, some ((.iconst (-1), 1), 0, 0, (-1), []), some ((.ireturn, 1), 0, 0, 0, [])]]
def T_X1_wake : Tab := [
  [some ((.iconst 0, 1), 0, 0, 0, []), some ((.istore_n 1, 1), 1, 0, 0, []), some ((.iload_n 1, 1), 1, 0, 0, []), some ((.aload_n 0, 1), 0, 0, 0, []), some ((.getfield 36, 3), 1, 2, 0, []), none, none, some ((.if_icmp .ge 65, 3), 72, 0, 0, []), none, none, some ((.aload_n 0, 1), 0, 0, 0, []), some ((.getfield 17, 3), 1, 1, 0, []), none, none, some ((.iload_n 1, 1), 1, 0, 0, []), some ((.aaload, 1), 0, 0, 0, [])],
  [some ((.astore_n 2, 1), 2, 0, 0, []), some ((.aload_n 2, 1), 2, 0, 0, []), some ((.getfield 125, 3), 0, 4, 0, []), none, none, some ((.ifCond .le 45, 3), 66, 0, 0, []), none, none, some ((.aload_n 0, 1), 0, 0, 0, []), some ((.iload_n 1, 1), 1, 0, 0, []), some ((.aload_n 2, 1), 2, 0, 0, []), some ((.aload_n 2, 1), 2, 0, 0, []), some ((.getfield 125, 3), 0, 4, 0, []), none, none, some ((.aload_n 0, 1), 0, 0, 0, [])],
  [some ((.getfield 61, 3), 1, 10, 0, []), none, none, some ((.invokevirtual 150, 3), 3, 3, 0, [(0, 0)]), none, none, some ((.aload_n 2, 1), 2, 0, 0, []), some ((.getfield 67, 3), 0, 0, 0, []), none, none, some ((.iconst 5, 1), 0, 0, 5, []), some ((.if_icmp .ne 7, 3), 50, 0, 0, []), none, none, some ((.iconst 1, 1), 0, 0, 1, []), some ((.goto 4, 3), 51, 0, 0, [])],
  [none, none, some ((.iconst 0, 1), 0, 0, 0, []), some ((.invokevirtual 153, 3), 23, 4, 0, [(0, 1)]), none, none, some ((.aload_n 2, 1), 2, 0, 0, []), some ((.getfield 67, 3), 0, 0, 0, []), none, none, some ((.iconst 3, 1), 0, 0, 3, []), some ((.if_icmp .ne 7, 3), 66, 0, 0, []), none, none, some ((.aload_n 2, 1), 2, 0, 0, []), some ((.invokevirtual 157, 3), 6, 1, 0, [(0, 0)])],
  [none, none, some ((.iinc 1 1, 3), 1, 0, 1, []), none, none, some ((.goto (-67), 3), 2, 0, 0, []), none, none, some ((.return_, 1), 0, 0, 0, [])]]
def T_X1_wakeThoseIn : Tab := [
  [some ((.iconst 0, 1), 0, 0, 0, []), some ((.istore 4, 2), 4, 0, 0, []), none, some ((.iload 4, 2), 4, 0, 0, []), none, some ((.aload_n 0, 1), 0, 0, 0, []), some ((.getfield 43, 3), 1, 4, 0, []), none, none, some ((.if_icmp .ge 69, 3), 78, 0, 0, []), none, none, some ((.aload_n 0, 1), 0, 0, 0, []), some ((.getfield 24, 3), 1, 3, 0, []), none, none],
  [some ((.iload 4, 2), 4, 0, 0, []), none, some ((.aaload, 1), 0, 0, 0, []), some ((.astore 5, 2), 5, 0, 0, []), none, some ((.aload 5, 2), 5, 0, 0, []), none, some ((.getfield 131, 3), 3, 4, 0, []), none, none, some ((.iload_n 1, 1), 1, 0, 0, []), some ((.if_icmp .ne 45, 3), 72, 0, 0, []), none, none, some ((.aload 5, 2), 5, 0, 0, []), none],
  [some ((.iload_n 2, 1), 2, 0, 0, []), some ((.putfield 79, 3), 3, 0, 0, []), none, none, some ((.aload 5, 2), 5, 0, 0, []), none, some ((.iconst 0, 1), 0, 0, 0, []), some ((.putfield 85, 3), 3, 2, 0, []), none, none, some ((.aload_n 0, 1), 0, 0, 0, []), some ((.dup, 1), 0, 0, 0, []), some ((.getfield 49, 3), 1, 6, 0, []), none, none, some ((.iconst 1, 1), 0, 0, 1, [])],
  [some ((.iadd, 1), 0, 0, 0, []), some ((.putfield 49, 3), 1, 6, 0, []), none, none, some ((.iload_n 3, 1), 3, 0, 0, []), some ((.ifCond .eq 19, 3), 72, 0, 0, []), none, none, some ((.aload 5, 2), 5, 0, 0, []), none, some ((.iconst 1, 1), 0, 0, 1, []), some ((.putfield 88, 3), 3, 3, 0, []), none, none, some ((.aload_n 0, 1), 0, 0, 0, []), some ((.dup, 1), 0, 0, 0, [])],
  [some ((.getfield 55, 3), 1, 8, 0, []), none, none, some ((.iconst 1, 1), 0, 0, 1, []), some ((.iadd, 1), 0, 0, 0, []), some ((.putfield 55, 3), 1, 8, 0, []), none, none, some ((.iinc 4 1, 3), 4, 0, 1, []), none, none, some ((.goto (-72), 3), 3, 0, 0, []), none, none, some ((.return_, 1), 0, 0, 0, [])]]
def T_X1_carryOne : Tab := [
  [some ((.aload_n 0, 1), 0, 0, 0, []), some ((.invokevirtual 160, 3), 10, 1, 0, [(0, 1)]), none, none, some ((.bipush 100, 2), 0, 0, 100, []), none, some ((.irem, 1), 0, 0, 0, []), some ((.aload_n 0, 1), 0, 0, 0, []), some ((.getfield 29, 3), 1, 5, 0, []), none, none, some ((.if_icmp .ge 7, 3), 18, 0, 0, []), none, none, some ((.iconst 1, 1), 0, 0, 1, []), some ((.goto 4, 3), 19, 0, 0, [])],
  [none, none, some ((.iconst 0, 1), 0, 0, 0, []), some ((.istore_n 1, 1), 1, 0, 0, []), some ((.iload_n 1, 1), 1, 0, 0, []), some ((.ifCond .eq 46, 3), 67, 0, 0, []), none, none, some ((.aload_n 0, 1), 0, 0, 0, []), some ((.getfield 36, 3), 1, 2, 0, []), none, none, some ((.ifCond .le 39, 3), 67, 0, 0, []), none, none, some ((.aload_n 0, 1), 0, 0, 0, [])],
  [some ((.invokevirtual 160, 3), 10, 1, 0, [(0, 1)]), none, none, some ((.aload_n 0, 1), 0, 0, 0, []), some ((.getfield 36, 3), 1, 2, 0, []), none, none, some ((.irem, 1), 0, 0, 0, []), some ((.istore_n 2, 1), 2, 0, 0, []), some ((.aload_n 0, 1), 0, 0, 0, []), some ((.getfield 17, 3), 1, 1, 0, []), none, none, some ((.iload_n 2, 1), 2, 0, 0, []), some ((.aaload, 1), 0, 0, 0, []), some ((.aload_n 0, 1), 0, 0, 0, [])],
  [some ((.invokevirtual 160, 3), 10, 1, 0, [(0, 1)]), none, none, some ((.bipush 8, 2), 0, 0, 8, []), none, some ((.irem, 1), 0, 0, 0, []), some ((.putfield 70, 3), 0, 1, 0, []), none, none, some ((.aload_n 0, 1), 0, 0, 0, []), some ((.dup, 1), 0, 0, 0, []), some ((.getfield 58, 3), 1, 9, 0, []), none, none, some ((.iconst 1, 1), 0, 0, 1, []), some ((.iadd, 1), 0, 0, 0, [])],
  [some ((.putfield 58, 3), 1, 9, 0, []), none, none, some ((.return_, 1), 0, 0, 0, [])]]
def T_X1_nightsUntilHome : Tab := [
  [some ((.iconst 0, 1), 0, 0, 0, []), some ((.istore_n 3, 1), 3, 0, 0, []), some ((.iload_n 3, 1), 3, 0, 0, []), some ((.iload_n 2, 1), 2, 0, 0, []), some ((.if_icmp .gt 27, 3), 31, 0, 0, []), none, none, some ((.iload_n 3, 1), 3, 0, 0, []), some ((.ifCond .le 7, 3), 15, 0, 0, []), none, none, some ((.aload_n 0, 1), 0, 0, 0, []), some ((.invokevirtual 113, 3), 19, 1, 0, [(0, 1)]), none, none, some ((.aload_n 0, 1), 0, 0, 0, [])],
  [some ((.iload_n 1, 1), 1, 0, 0, []), some ((.invokevirtual 109, 3), 15, 2, 0, [(0, 1)]), none, none, some ((.ifCond .eq 5, 3), 25, 0, 0, []), none, none, some ((.iload_n 3, 1), 3, 0, 0, []), some ((.ireturn, 1), 0, 0, 0, []), some ((.iinc 3 1, 3), 3, 0, 1, []), none, none, some ((.goto (-26), 3), 2, 0, 0, []), none, none, some ((.iconst (-1), 1), 0, 0, (-1), [])],
  [some ((.ireturn, 1), 0, 0, 0, [])]]
def T_X1_nightsTold : Tab := [
  [some ((.iconst 0, 1), 0, 0, 0, []), some ((.istore_n 3, 1), 3, 0, 0, []), some ((.iconst 0, 1), 0, 0, 0, []), some ((.istore 4, 2), 4, 0, 0, []), none, some ((.iload 4, 2), 4, 0, 0, []), none, some ((.aload_n 2, 1), 2, 0, 0, []), some ((.getfield 163, 3), 5, 1, 0, []), none, none, some ((.if_icmp .ge 49, 3), 60, 0, 0, []), none, none, some ((.iload 4, 2), 4, 0, 0, []), none],
  [some ((.ifCond .le 7, 3), 23, 0, 0, []), none, none, some ((.aload_n 0, 1), 0, 0, 0, []), some ((.invokevirtual 113, 3), 19, 1, 0, [(0, 1)]), none, none, some ((.aload_n 2, 1), 2, 0, 0, []), some ((.iload 4, 2), 4, 0, 0, []), none, some ((.invokevirtual 168, 3), 53, 2, 0, [(0, 5)]), none, none, some ((.ifCond .eq 25, 3), 54, 0, 0, []), none, none],
  [some ((.aload_n 2, 1), 2, 0, 0, []), some ((.getfield 171, 3), 5, 2, 0, []), none, none, some ((.iload 4, 2), 4, 0, 0, []), none, some ((.iaload, 1), 0, 0, 0, []), some ((.aload_n 0, 1), 0, 0, 0, []), some ((.getfield 24, 3), 1, 3, 0, []), none, none, some ((.iload_n 1, 1), 1, 0, 0, []), some ((.aaload, 1), 0, 0, 0, []), some ((.getfield 79, 3), 3, 0, 0, []), none, none],
  [some ((.if_icmp .ne 6, 3), 54, 0, 0, []), none, none, some ((.iinc 3 1, 3), 3, 0, 1, []), none, none, some ((.iinc 4 1, 3), 4, 0, 1, []), none, none, some ((.goto (-52), 3), 5, 0, 0, []), none, none, some ((.iload_n 3, 1), 3, 0, 0, []), some ((.ireturn, 1), 0, 0, 0, [])]]
def T_X2_counting : Tab := [
  [some ((.iload_n 2, 1), 2, 0, 0, []), some ((.iconst 1, 1), 0, 0, 1, []), some ((.isub, 1), 0, 0, 0, []), some ((.istore_n 3, 1), 3, 0, 0, []), some ((.iload_n 3, 1), 3, 0, 0, []), some ((.ifCond .lt 24, 3), 29, 0, 0, []), none, none, some ((.aload_n 0, 1), 0, 0, 0, []), some ((.getfield 11, 3), 2, 0, 0, []), none, none, some ((.iload_n 3, 1), 3, 0, 0, []), some ((.aaload, 1), 0, 0, 0, []), some ((.getfield 22, 3), 7, 0, 0, []), none],
  [none, some ((.iload_n 1, 1), 1, 0, 0, []), some ((.if_icmp .ne 5, 3), 23, 0, 0, []), none, none, some ((.iload_n 3, 1), 3, 0, 0, []), some ((.ireturn, 1), 0, 0, 0, []), some ((.iinc 3 (-1), 3), 3, 0, (-1), []), none, none, some ((.goto (-22), 3), 4, 0, 0, []), none, none, some ((.iconst (-1), 1), 0, 0, (-1), []), some ((.ireturn, 1), 0, 0, 0, [])]]
def T_X2_value : Tab := [
  [some ((.aload_n 0, 1), 0, 0, 0, []), some ((.getfield 11, 3), 2, 0, 0, []), none, none, some ((.iload_n 1, 1), 1, 0, 0, []), some ((.aaload, 1), 0, 0, 0, []), some ((.astore 5, 2), 5, 0, 0, []), none, some ((.iconst 0, 1), 0, 0, 0, []), some ((.istore 6, 2), 6, 0, 0, []), none, some ((.iconst 0, 1), 0, 0, 0, []), some ((.istore 7, 2), 7, 0, 0, []), none, some ((.iload 7, 2), 7, 0, 0, []), none],
  [some ((.aload 5, 2), 5, 0, 0, []), none, some ((.getfield 26, 3), 7, 2, 0, []), none, none, some ((.if_icmp .ge 164, 3), 185, 0, 0, []), none, none, some ((.iload 6, 2), 6, 0, 0, []), none, some ((.aload_n 0, 1), 0, 0, 0, []), some ((.getfield 18, 3), 2, 1, 0, []), none, none, some ((.arraylength, 1), 0, 0, 0, []), some ((.if_icmp .ge 154, 3), 185, 0, 0, [])],
  [none, none, some ((.aload 5, 2), 5, 0, 0, []), none, some ((.getfield 29, 3), 7, 1, 0, []), none, none, some ((.iload 7, 2), 7, 0, 0, []), none, some ((.iaload, 1), 0, 0, 0, []), some ((.istore 8, 2), 8, 0, 0, []), none, some ((.iload 8, 2), 8, 0, 0, []), none, some ((.bipush (-3), 2), 0, 0, (-3), []), none],
  [some ((.if_icmp .lt 49, 3), 97, 0, 0, []), none, none, some ((.aload_n 0, 1), 0, 0, 0, []), some ((.getfield 18, 3), 2, 1, 0, []), none, none, some ((.iload 6, 2), 6, 0, 0, []), none, some ((.iload 8, 2), 8, 0, 0, []), none, some ((.ifCond .lt 8, 3), 67, 0, 0, []), none, none, some ((.iload 8, 2), 8, 0, 0, []), none],
  [some ((.goto 26, 3), 90, 0, 0, []), none, none, some ((.iload 8, 2), 8, 0, 0, []), none, some ((.iconst (-1), 1), 0, 0, (-1), []), some ((.if_icmp .ne 7, 3), 77, 0, 0, []), none, none, some ((.iload_n 2, 1), 2, 0, 0, []), some ((.goto 16, 3), 90, 0, 0, []), none, none, some ((.iload 8, 2), 8, 0, 0, []), none, some ((.bipush (-2), 2), 0, 0, (-2), [])],
  [none, some ((.if_icmp .ne 7, 3), 88, 0, 0, []), none, none, some ((.iload_n 3, 1), 3, 0, 0, []), some ((.goto 5, 3), 90, 0, 0, []), none, none, some ((.iload 4, 2), 4, 0, 0, []), none, some ((.iastore, 1), 0, 0, 0, []), some ((.iinc 6 1, 3), 6, 0, 1, []), none, none, some ((.goto 85, 3), 179, 0, 0, []), none],
  [none, some ((.iload 8, 2), 8, 0, 0, []), none, some ((.bipush (-33), 2), 0, 0, (-33), []), none, some ((.if_icmp .ne 38, 3), 139, 0, 0, []), none, none, some ((.iload 6, 2), 6, 0, 0, []), none, some ((.iconst 1, 1), 0, 0, 1, []), some ((.if_icmp .lt 32, 3), 139, 0, 0, []), none, none, some ((.aload_n 0, 1), 0, 0, 0, []), some ((.getfield 18, 3), 2, 1, 0, [])],
  [none, none, some ((.iload 6, 2), 6, 0, 0, []), none, some ((.iconst 1, 1), 0, 0, 1, []), some ((.isub, 1), 0, 0, 0, []), some ((.aload_n 0, 1), 0, 0, 0, []), some ((.getfield 18, 3), 2, 1, 0, []), none, none, some ((.iload 6, 2), 6, 0, 0, []), none, some ((.iconst 1, 1), 0, 0, 1, []), some ((.isub, 1), 0, 0, 0, []), some ((.iaload, 1), 0, 0, 0, []), some ((.ifCond .ne 7, 3), 134, 0, 0, [])],
  [none, none, some ((.iconst 1, 1), 0, 0, 1, []), some ((.goto 4, 3), 135, 0, 0, []), none, none, some ((.iconst 0, 1), 0, 0, 0, []), some ((.iastore, 1), 0, 0, 0, []), some ((.goto 43, 3), 179, 0, 0, []), none, none, some ((.iload 6, 2), 6, 0, 0, []), none, some ((.iconst 2, 1), 0, 0, 2, []), some ((.if_icmp .lt 37, 3), 179, 0, 0, []), none],
  [none, some ((.iinc 6 (-1), 3), 6, 0, (-1), []), none, none, some ((.aload_n 0, 1), 0, 0, 0, []), some ((.getfield 18, 3), 2, 1, 0, []), none, none, some ((.iload 6, 2), 6, 0, 0, []), none, some ((.iconst 1, 1), 0, 0, 1, []), some ((.isub, 1), 0, 0, 0, []), some ((.iload 8, 2), 8, 0, 0, []), none, some ((.ineg, 1), 0, 0, 0, []), some ((.aload_n 0, 1), 0, 0, 0, [])],
  [some ((.getfield 18, 3), 2, 1, 0, []), none, none, some ((.iload 6, 2), 6, 0, 0, []), none, some ((.iconst 1, 1), 0, 0, 1, []), some ((.isub, 1), 0, 0, 0, []), some ((.iaload, 1), 0, 0, 0, []), some ((.aload_n 0, 1), 0, 0, 0, []), some ((.getfield 18, 3), 2, 1, 0, []), none, none, some ((.iload 6, 2), 6, 0, 0, []), none, some ((.iaload, 1), 0, 0, 0, []), some ((.invokestatic 32, 3), 29, 3, 0, [])],
  [none, none, some ((.iastore, 1), 0, 0, 0, []), some ((.iinc 7 1, 3), 7, 0, 1, []), none, none, some ((.goto (-168), 3), 14, 0, 0, []), none, none, some ((.aload_n 0, 1), 0, 0, 0, []), some ((.getfield 18, 3), 2, 1, 0, []), none, none, some ((.iconst 0, 1), 0, 0, 0, []), some ((.iaload, 1), 0, 0, 0, []), some ((.ireturn, 1), 0, 0, 0, [])]]
def T_X2_joined : Tab := [
  [some ((.iload_n 0, 1), 0, 0, 0, []), some ((.tableswitch 186 38 62 #[172, 186, 186, 186, 123, 115, 186, 119, 186, 127, 186, 186, 186, 186, 186, 186, 186, 186, 186, 186, 186, 186, 139, 150, 161], 115), 187, 0, 0, [(38, 173), (39, 187), (40, 187), (41, 187), (42, 124), (43, 116), (44, 187), (45, 120), (46, 187), (47, 128), (48, 187), (49, 187), (50, 187), (51, 187), (52, 187), (53, 187), (54, 187), (55, 187), (56, 187), (57, 187), (58, 187), (59, 187), (60, 140), (61, 151), (62, 162)]), none, none, none, none, none, none, none, none, none, none, none, none, none, none],
  [none, none, none, none, none, none, none, none, none, none, none, none, none, none, none, none],
  [none, none, none, none, none, none, none, none, none, none, none, none, none, none, none, none],
  [none, none, none, none, none, none, none, none, none, none, none, none, none, none, none, none],
  [none, none, none, none, none, none, none, none, none, none, none, none, none, none, none, none],
  [none, none, none, none, none, none, none, none, none, none, none, none, none, none, none, none],
  [none, none, none, none, none, none, none, none, none, none, none, none, none, none, none, none],
  [none, none, none, none, some ((.iload_n 1, 1), 1, 0, 0, []), some ((.iload_n 2, 1), 2, 0, 0, []), some ((.iadd, 1), 0, 0, 0, []), some ((.ireturn, 1), 0, 0, 0, []), some ((.iload_n 1, 1), 1, 0, 0, []), some ((.iload_n 2, 1), 2, 0, 0, []), some ((.isub, 1), 0, 0, 0, []), some ((.ireturn, 1), 0, 0, 0, []), some ((.iload_n 1, 1), 1, 0, 0, []), some ((.iload_n 2, 1), 2, 0, 0, []), some ((.imul, 1), 0, 0, 0, []), some ((.ireturn, 1), 0, 0, 0, [])],
  [some ((.iload_n 2, 1), 2, 0, 0, []), some ((.ifCond .ne 7, 3), 136, 0, 0, []), none, none, some ((.iconst 0, 1), 0, 0, 0, []), some ((.goto 6, 3), 139, 0, 0, []), none, none, some ((.iload_n 1, 1), 1, 0, 0, []), some ((.iload_n 2, 1), 2, 0, 0, []), some ((.idiv, 1), 0, 0, 0, []), some ((.ireturn, 1), 0, 0, 0, []), some ((.iload_n 1, 1), 1, 0, 0, []), some ((.iload_n 2, 1), 2, 0, 0, []), some ((.if_icmp .ge 7, 3), 149, 0, 0, []), none],
  [none, some ((.iconst 1, 1), 0, 0, 1, []), some ((.goto 4, 3), 150, 0, 0, []), none, none, some ((.iconst 0, 1), 0, 0, 0, []), some ((.ireturn, 1), 0, 0, 0, []), some ((.iload_n 1, 1), 1, 0, 0, []), some ((.iload_n 2, 1), 2, 0, 0, []), some ((.if_icmp .ne 7, 3), 160, 0, 0, []), none, none, some ((.iconst 1, 1), 0, 0, 1, []), some ((.goto 4, 3), 161, 0, 0, []), none, none],
  [some ((.iconst 0, 1), 0, 0, 0, []), some ((.ireturn, 1), 0, 0, 0, []), some ((.iload_n 1, 1), 1, 0, 0, []), some ((.iload_n 2, 1), 2, 0, 0, []), some ((.if_icmp .le 7, 3), 171, 0, 0, []), none, none, some ((.iconst 1, 1), 0, 0, 1, []), some ((.goto 4, 3), 172, 0, 0, []), none, none, some ((.iconst 0, 1), 0, 0, 0, []), some ((.ireturn, 1), 0, 0, 0, []), some ((.iload_n 1, 1), 1, 0, 0, []), some ((.ifCond .eq 11, 3), 185, 0, 0, []), none],
  [none, some ((.iload_n 2, 1), 2, 0, 0, []), some ((.ifCond .eq 7, 3), 185, 0, 0, []), none, none, some ((.iconst 1, 1), 0, 0, 1, []), some ((.goto 4, 3), 186, 0, 0, []), none, none, some ((.iconst 0, 1), 0, 0, 0, []), some ((.ireturn, 1), 0, 0, 0, []), some ((.iload_n 1, 1), 1, 0, 0, []), some ((.ifCond .ne 7, 3), 195, 0, 0, []), none, none, some ((.iload_n 2, 1), 2, 0, 0, [])],
  [some ((.ifCond .eq 7, 3), 199, 0, 0, []), none, none, some ((.iconst 1, 1), 0, 0, 1, []), some ((.goto 4, 3), 200, 0, 0, []), none, none, some ((.iconst 0, 1), 0, 0, 0, []), some ((.ireturn, 1), 0, 0, 0, [])]]
def T_X3_becomeAs : Tab := [
  [some ((.aload_n 0, 1), 0, 0, 0, []), some ((.aload_n 1, 1), 1, 0, 0, []), some ((.getfield 7, 3), 3, 0, 0, []), none, none, some ((.putfield 7, 3), 3, 0, 0, []), none, none, some ((.aload_n 0, 1), 0, 0, 0, []), some ((.aload_n 1, 1), 1, 0, 0, []), some ((.getfield 13, 3), 3, 1, 0, []), none, none, some ((.putfield 13, 3), 3, 1, 0, []), none, none],
  [some ((.aload_n 0, 1), 0, 0, 0, []), some ((.aload_n 1, 1), 1, 0, 0, []), some ((.getfield 16, 3), 3, 2, 0, []), none, none, some ((.putfield 16, 3), 3, 2, 0, []), none, none, some ((.aload_n 0, 1), 0, 0, 0, []), some ((.aload_n 1, 1), 1, 0, 0, []), some ((.getfield 19, 3), 3, 3, 0, []), none, none, some ((.putfield 19, 3), 3, 3, 0, []), none, none],
  [some ((.return_, 1), 0, 0, 0, [])]]
def T_X4_take : Tab := [
  [some ((.bipush 24, 2), 0, 0, 24, []), none, some ((.istore_n 2, 1), 2, 0, 0, []), some ((.iload_n 2, 1), 2, 0, 0, []), some ((.ifCond .lt 44, 3), 48, 0, 0, []), none, none, some ((.aload_n 0, 1), 0, 0, 0, []), some ((.getfield 22, 3), 4, 1, 0, []), none, none, some ((.bipush 96, 2), 0, 0, 96, []), none, some ((.if_icmp .ge 35, 3), 48, 0, 0, []), none, none],
  [some ((.aload_n 0, 1), 0, 0, 0, []), some ((.getfield 9, 3), 4, 0, 0, []), none, none, some ((.aload_n 0, 1), 0, 0, 0, []), some ((.getfield 22, 3), 4, 1, 0, []), none, none, some ((.iload_n 1, 1), 1, 0, 0, []), some ((.iload_n 2, 1), 2, 0, 0, []), some ((.iushr, 1), 0, 0, 0, []), some ((.sipush 255, 3), 0, 0, 255, []), none, none, some ((.iand, 1), 0, 0, 0, []), some ((.iastore, 1), 0, 0, 0, [])],
  [some ((.aload_n 0, 1), 0, 0, 0, []), some ((.dup, 1), 0, 0, 0, []), some ((.getfield 22, 3), 4, 1, 0, []), none, none, some ((.iconst 1, 1), 0, 0, 1, []), some ((.iadd, 1), 0, 0, 0, []), some ((.putfield 22, 3), 4, 1, 0, []), none, none, some ((.iinc 2 (-8), 3), 2, 0, (-8), []), none, none, some ((.goto (-42), 3), 3, 0, 0, []), none, none],
  [some ((.return_, 1), 0, 0, 0, [])]]
def T_X4_readsText : Tab := [
  [some ((.aload_n 0, 1), 0, 0, 0, []), some ((.aload_n 1, 1), 1, 0, 0, []), some ((.putfield 18, 3), 4, 6, 0, []), none, none, some ((.aload_n 0, 1), 0, 0, 0, []), some ((.iconst 0, 1), 0, 0, 0, []), some ((.putfield 26, 3), 4, 3, 0, []), none, none, some ((.aload_n 0, 1), 0, 0, 0, []), some ((.iconst 0, 1), 0, 0, 0, []), some ((.putfield 29, 3), 4, 4, 0, []), none, none, some ((.aload_n 0, 1), 0, 0, 0, [])],
  [some ((.invokevirtual 32, 3), 33, 1, 0, [(0, 4)]), none, none, some ((.aload_n 0, 1), 0, 0, 0, []), some ((.invokevirtual 35, 3), 40, 1, 0, [(0, 4)]), none, none, some ((.istore_n 2, 1), 2, 0, 0, []), some ((.iload_n 2, 1), 2, 0, 0, []), some ((.ifCond .ge 5, 3), 30, 0, 0, []), none, none, some ((.iconst 0, 1), 0, 0, 0, []), some ((.ireturn, 1), 0, 0, 0, []), some ((.aload_n 0, 1), 0, 0, 0, []), some ((.getfield 18, 3), 4, 6, 0, [])],
  [none, none, some ((.iload_n 2, 1), 2, 0, 0, []), some ((.invokevirtual 39, 3), 56, 2, 0, [(0, 7)]), none, none, some ((.aload_n 0, 1), 0, 0, 0, []), some ((.invokevirtual 32, 3), 33, 1, 0, [(0, 4)]), none, none, some ((.aload_n 0, 1), 0, 0, 0, []), some ((.iconst 0, 1), 0, 0, 0, []), some ((.iconst 0, 1), 0, 0, 0, []), some ((.iconst 0, 1), 0, 0, 0, []), some ((.invokevirtual 43, 3), 45, 4, 0, [(0, 4)]), none],
  [none, some ((.ifCond .eq 14, 3), 63, 0, 0, []), none, none, some ((.aload_n 0, 1), 0, 0, 0, []), some ((.getfield 29, 3), 4, 4, 0, []), none, none, some ((.ifCond .ne 7, 3), 63, 0, 0, []), none, none, some ((.iconst 1, 1), 0, 0, 1, []), some ((.goto 4, 3), 64, 0, 0, []), none, none, some ((.iconst 0, 1), 0, 0, 0, [])],
  [some ((.ireturn, 1), 0, 0, 0, [])]]
def T_X4_goOn : Tab := [
  [some ((.aload_n 0, 1), 0, 0, 0, []), some ((.getfield 26, 3), 4, 3, 0, []), none, none, some ((.istore_n 1, 1), 1, 0, 0, []), some ((.aload_n 0, 1), 0, 0, 0, []), some ((.getfield 29, 3), 4, 4, 0, []), none, none, some ((.iconst 2, 1), 0, 0, 2, []), some ((.if_icmp .eq 11, 3), 21, 0, 0, []), none, none, some ((.aload_n 0, 1), 0, 0, 0, []), some ((.getfield 29, 3), 4, 4, 0, []), none],
  [none, some ((.iconst 3, 1), 0, 0, 3, []), some ((.if_icmp .ne 7, 3), 25, 0, 0, []), none, none, some ((.iconst 1, 1), 0, 0, 1, []), some ((.goto 4, 3), 26, 0, 0, []), none, none, some ((.iconst 0, 1), 0, 0, 0, []), some ((.istore_n 2, 1), 2, 0, 0, []), some ((.aload_n 0, 1), 0, 0, 0, []), some ((.iload_n 1, 1), 1, 0, 0, []), some ((.putfield 47, 3), 4, 2, 0, []), none, none],
  [some ((.aload_n 0, 1), 0, 0, 0, []), some ((.getfield 47, 3), 4, 2, 0, []), none, none, some ((.aload_n 0, 1), 0, 0, 0, []), some ((.getfield 22, 3), 4, 1, 0, []), none, none, some ((.if_icmp .ge 30, 3), 70, 0, 0, []), none, none, some ((.aload_n 0, 1), 0, 0, 0, []), some ((.getfield 9, 3), 4, 0, 0, []), none, none, some ((.aload_n 0, 1), 0, 0, 0, [])],
  [some ((.getfield 47, 3), 4, 2, 0, []), none, none, some ((.iaload, 1), 0, 0, 0, []), some ((.bipush 32, 2), 0, 0, 32, []), none, some ((.if_icmp .ne 16, 3), 70, 0, 0, []), none, none, some ((.aload_n 0, 1), 0, 0, 0, []), some ((.dup, 1), 0, 0, 0, []), some ((.getfield 47, 3), 4, 2, 0, []), none, none, some ((.iconst 1, 1), 0, 0, 1, []), some ((.iadd, 1), 0, 0, 0, [])],
  [some ((.putfield 47, 3), 4, 2, 0, []), none, none, some ((.goto (-35), 3), 32, 0, 0, []), none, none, some ((.aload_n 0, 1), 0, 0, 0, []), some ((.aload_n 0, 1), 0, 0, 0, []), some ((.getfield 47, 3), 4, 2, 0, []), none, none, some ((.putfield 26, 3), 4, 3, 0, []), none, none, some ((.aload_n 0, 1), 0, 0, 0, []), some ((.getfield 47, 3), 4, 2, 0, [])],
  [none, none, some ((.aload_n 0, 1), 0, 0, 0, []), some ((.getfield 22, 3), 4, 1, 0, []), none, none, some ((.if_icmp .lt 11, 3), 97, 0, 0, []), none, none, some ((.aload_n 0, 1), 0, 0, 0, []), some ((.iconst 0, 1), 0, 0, 0, []), some ((.putfield 29, 3), 4, 4, 0, []), none, none, some ((.goto 54, 3), 148, 0, 0, []), none],
  [none, some ((.aload_n 0, 1), 0, 0, 0, []), some ((.aload_n 0, 1), 0, 0, 0, []), some ((.getfield 47, 3), 4, 2, 0, []), none, none, some ((.invokevirtual 50, 3), 36, 2, 0, [(0, 4)]), none, none, some ((.ifCond .eq 10, 3), 115, 0, 0, []), none, none, some ((.aload_n 0, 1), 0, 0, 0, []), some ((.invokevirtual 54, 3), 34, 1, 0, [(0, 4)]), none, none],
  [some ((.goto 36, 3), 148, 0, 0, []), none, none, some ((.aload_n 0, 1), 0, 0, 0, []), some ((.aload_n 0, 1), 0, 0, 0, []), some ((.getfield 47, 3), 4, 2, 0, []), none, none, some ((.invokevirtual 57, 3), 37, 2, 0, [(0, 4)]), none, none, some ((.ifCond .eq 10, 3), 133, 0, 0, []), none, none, some ((.aload_n 0, 1), 0, 0, 0, []), some ((.invokevirtual 60, 3), 35, 1, 0, [(0, 4)])],
  [none, none, some ((.goto 18, 3), 148, 0, 0, []), none, none, some ((.aload_n 0, 1), 0, 0, 0, []), some ((.iconst 1, 1), 0, 0, 1, []), some ((.putfield 29, 3), 4, 4, 0, []), none, none, some ((.aload_n 0, 1), 0, 0, 0, []), some ((.aload_n 0, 1), 0, 0, 0, []), some ((.getfield 47, 3), 4, 2, 0, []), none, none, some ((.iconst 1, 1), 0, 0, 1, [])],
  [some ((.iadd, 1), 0, 0, 0, []), some ((.putfield 26, 3), 4, 3, 0, []), none, none, some ((.iload_n 2, 1), 2, 0, 0, []), some ((.ifCond .eq 32, 3), 181, 0, 0, []), none, none, some ((.aload_n 0, 1), 0, 0, 0, []), some ((.getfield 47, 3), 4, 2, 0, []), none, none, some ((.iload_n 1, 1), 1, 0, 0, []), some ((.if_icmp .ne 24, 3), 181, 0, 0, []), none, none],
  [some ((.aload_n 0, 1), 0, 0, 0, []), some ((.getfield 29, 3), 4, 4, 0, []), none, none, some ((.iconst 2, 1), 0, 0, 2, []), some ((.if_icmp .eq 11, 3), 176, 0, 0, []), none, none, some ((.aload_n 0, 1), 0, 0, 0, []), some ((.getfield 29, 3), 4, 4, 0, []), none, none, some ((.iconst 3, 1), 0, 0, 3, []), some ((.if_icmp .ne 8, 3), 181, 0, 0, []), none, none],
  [some ((.aload_n 0, 1), 0, 0, 0, []), some ((.iconst 4, 1), 0, 0, 4, []), some ((.putfield 29, 3), 4, 4, 0, []), none, none, some ((.return_, 1), 0, 0, 0, [])]]
def T_X4_readNumber : Tab := [
  [some ((.aload_n 0, 1), 0, 0, 0, []), some ((.iconst 0, 1), 0, 0, 0, []), some ((.putfield 63, 3), 4, 5, 0, []), none, none, some ((.aload_n 0, 1), 0, 0, 0, []), some ((.getfield 26, 3), 4, 3, 0, []), none, none, some ((.aload_n 0, 1), 0, 0, 0, []), some ((.getfield 22, 3), 4, 1, 0, []), none, none, some ((.if_icmp .ge 51, 3), 64, 0, 0, []), none, none],
  [some ((.aload_n 0, 1), 0, 0, 0, []), some ((.aload_n 0, 1), 0, 0, 0, []), some ((.getfield 26, 3), 4, 3, 0, []), none, none, some ((.invokevirtual 50, 3), 36, 2, 0, [(0, 4)]), none, none, some ((.ifCond .eq 40, 3), 64, 0, 0, []), none, none, some ((.aload_n 0, 1), 0, 0, 0, []), some ((.aload_n 0, 1), 0, 0, 0, []), some ((.getfield 63, 3), 4, 5, 0, []), none, none],
  [some ((.bipush 10, 2), 0, 0, 10, []), none, some ((.imul, 1), 0, 0, 0, []), some ((.aload_n 0, 1), 0, 0, 0, []), some ((.getfield 9, 3), 4, 0, 0, []), none, none, some ((.aload_n 0, 1), 0, 0, 0, []), some ((.getfield 26, 3), 4, 3, 0, []), none, none, some ((.iaload, 1), 0, 0, 0, []), some ((.iadd, 1), 0, 0, 0, []), some ((.bipush 48, 2), 0, 0, 48, []), none, some ((.isub, 1), 0, 0, 0, [])],
  [some ((.putfield 63, 3), 4, 5, 0, []), none, none, some ((.aload_n 0, 1), 0, 0, 0, []), some ((.dup, 1), 0, 0, 0, []), some ((.getfield 26, 3), 4, 3, 0, []), none, none, some ((.iconst 1, 1), 0, 0, 1, []), some ((.iadd, 1), 0, 0, 0, []), some ((.putfield 26, 3), 4, 3, 0, []), none, none, some ((.goto (-56), 3), 5, 0, 0, []), none, none],
  [some ((.aload_n 0, 1), 0, 0, 0, []), some ((.aload_n 0, 1), 0, 0, 0, []), some ((.getfield 26, 3), 4, 3, 0, []), none, none, some ((.aload_n 0, 1), 0, 0, 0, []), some ((.getfield 47, 3), 4, 2, 0, []), none, none, some ((.isub, 1), 0, 0, 0, []), some ((.iconst 4, 1), 0, 0, 4, []), some ((.if_icmp .le 7, 3), 82, 0, 0, []), none, none, some ((.iconst 4, 1), 0, 0, 4, []), some ((.goto 4, 3), 83, 0, 0, [])],
  [none, none, some ((.iconst 3, 1), 0, 0, 3, []), some ((.putfield 29, 3), 4, 4, 0, []), none, none, some ((.return_, 1), 0, 0, 0, [])]]
def T_X4_readLetters : Tab := [
  [some ((.aload_n 0, 1), 0, 0, 0, []), some ((.getfield 26, 3), 4, 3, 0, []), none, none, some ((.aload_n 0, 1), 0, 0, 0, []), some ((.getfield 22, 3), 4, 1, 0, []), none, none, some ((.if_icmp .ge 27, 3), 35, 0, 0, []), none, none, some ((.aload_n 0, 1), 0, 0, 0, []), some ((.aload_n 0, 1), 0, 0, 0, []), some ((.getfield 26, 3), 4, 3, 0, []), none, none],
  [some ((.invokevirtual 57, 3), 37, 2, 0, [(0, 4)]), none, none, some ((.ifCond .eq 16, 3), 35, 0, 0, []), none, none, some ((.aload_n 0, 1), 0, 0, 0, []), some ((.dup, 1), 0, 0, 0, []), some ((.getfield 26, 3), 4, 3, 0, []), none, none, some ((.iconst 1, 1), 0, 0, 1, []), some ((.iadd, 1), 0, 0, 0, []), some ((.putfield 26, 3), 4, 3, 0, []), none, none],
  [some ((.goto (-32), 3), 0, 0, 0, []), none, none, some ((.aload_n 0, 1), 0, 0, 0, []), some ((.iconst 2, 1), 0, 0, 2, []), some ((.putfield 29, 3), 4, 4, 0, []), none, none, some ((.return_, 1), 0, 0, 0, [])]]
def T_X4_isDigit : Tab := [
  [some ((.aload_n 0, 1), 0, 0, 0, []), some ((.getfield 9, 3), 4, 0, 0, []), none, none, some ((.iload_n 1, 1), 1, 0, 0, []), some ((.iaload, 1), 0, 0, 0, []), some ((.bipush 48, 2), 0, 0, 48, []), none, some ((.if_icmp .lt 18, 3), 26, 0, 0, []), none, none, some ((.aload_n 0, 1), 0, 0, 0, []), some ((.getfield 9, 3), 4, 0, 0, []), none, none, some ((.iload_n 1, 1), 1, 0, 0, [])],
  [some ((.iaload, 1), 0, 0, 0, []), some ((.bipush 57, 2), 0, 0, 57, []), none, some ((.if_icmp .gt 7, 3), 26, 0, 0, []), none, none, some ((.iconst 1, 1), 0, 0, 1, []), some ((.goto 4, 3), 27, 0, 0, []), none, none, some ((.iconst 0, 1), 0, 0, 0, []), some ((.ireturn, 1), 0, 0, 0, [])]]
def T_X4_isLetter : Tab := [
  [some ((.aload_n 0, 1), 0, 0, 0, []), some ((.getfield 9, 3), 4, 0, 0, []), none, none, some ((.iload_n 1, 1), 1, 0, 0, []), some ((.iaload, 1), 0, 0, 0, []), some ((.bipush 97, 2), 0, 0, 97, []), none, some ((.if_icmp .lt 18, 3), 26, 0, 0, []), none, none, some ((.aload_n 0, 1), 0, 0, 0, []), some ((.getfield 9, 3), 4, 0, 0, []), none, none, some ((.iload_n 1, 1), 1, 0, 0, [])],
  [some ((.iaload, 1), 0, 0, 0, []), some ((.bipush 122, 2), 0, 0, 122, []), none, some ((.if_icmp .gt 7, 3), 26, 0, 0, []), none, none, some ((.iconst 1, 1), 0, 0, 1, []), some ((.goto 4, 3), 27, 0, 0, []), none, none, some ((.iconst 0, 1), 0, 0, 0, []), some ((.ireturn, 1), 0, 0, 0, [])]]
def T_X4_isSign : Tab := [
  [some ((.aload_n 0, 1), 0, 0, 0, []), some ((.getfield 29, 3), 4, 4, 0, []), none, none, some ((.iconst 1, 1), 0, 0, 1, []), some ((.if_icmp .ne 20, 3), 25, 0, 0, []), none, none, some ((.aload_n 0, 1), 0, 0, 0, []), some ((.getfield 9, 3), 4, 0, 0, []), none, none, some ((.aload_n 0, 1), 0, 0, 0, []), some ((.getfield 47, 3), 4, 2, 0, []), none, none],
  [some ((.iaload, 1), 0, 0, 0, []), some ((.iload_n 1, 1), 1, 0, 0, []), some ((.if_icmp .ne 7, 3), 25, 0, 0, []), none, none, some ((.iconst 1, 1), 0, 0, 1, []), some ((.goto 4, 3), 26, 0, 0, []), none, none, some ((.iconst 0, 1), 0, 0, 0, []), some ((.ireturn, 1), 0, 0, 0, [])]]
def T_X4_isWord : Tab := [
  [some ((.aload_n 0, 1), 0, 0, 0, []), some ((.getfield 29, 3), 4, 4, 0, []), none, none, some ((.iconst 2, 1), 0, 0, 2, []), some ((.if_icmp .ne 19, 3), 24, 0, 0, []), none, none, some ((.aload_n 0, 1), 0, 0, 0, []), some ((.getfield 26, 3), 4, 3, 0, []), none, none, some ((.aload_n 0, 1), 0, 0, 0, []), some ((.getfield 47, 3), 4, 2, 0, []), none, none],
  [some ((.isub, 1), 0, 0, 0, []), some ((.aload_n 1, 1), 1, 0, 0, []), some ((.invokevirtual 66, 3), 218, 1, 0, [(0, 12)]), none, none, some ((.if_icmp .eq 5, 3), 26, 0, 0, []), none, none, some ((.iconst 0, 1), 0, 0, 0, []), some ((.ireturn, 1), 0, 0, 0, []), some ((.iconst 0, 1), 0, 0, 0, []), some ((.istore_n 2, 1), 2, 0, 0, []), some ((.iload_n 2, 1), 2, 0, 0, []), some ((.aload_n 1, 1), 1, 0, 0, []), some ((.invokevirtual 66, 3), 218, 1, 0, [(0, 12)]), none],
  [none, some ((.if_icmp .ge 30, 3), 63, 0, 0, []), none, none, some ((.aload_n 0, 1), 0, 0, 0, []), some ((.getfield 9, 3), 4, 0, 0, []), none, none, some ((.aload_n 0, 1), 0, 0, 0, []), some ((.getfield 47, 3), 4, 2, 0, []), none, none, some ((.iload_n 2, 1), 2, 0, 0, []), some ((.iadd, 1), 0, 0, 0, []), some ((.iaload, 1), 0, 0, 0, []), some ((.aload_n 1, 1), 1, 0, 0, [])],
  [some ((.iload_n 2, 1), 2, 0, 0, []), some ((.invokevirtual 70, 3), 219, 2, 0, [(0, 12)]), none, none, some ((.if_icmp .eq 5, 3), 57, 0, 0, []), none, none, some ((.iconst 0, 1), 0, 0, 0, []), some ((.ireturn, 1), 0, 0, 0, []), some ((.iinc 2 1, 3), 2, 0, 1, []), none, none, some ((.goto (-32), 3), 28, 0, 0, []), none, none, some ((.iconst 1, 1), 0, 0, 1, [])],
  [some ((.ireturn, 1), 0, 0, 0, [])]]
def T_X4_keyHere : Tab := [
  [some ((.aload_n 0, 1), 0, 0, 0, []), some ((.ldc 74, 2), 1, 0, 0, []), none, some ((.invokevirtual 76, 3), 39, 2, 0, [(0, 4)]), none, none, some ((.ifCond .eq 5, 3), 11, 0, 0, []), none, none, some ((.iconst 0, 1), 0, 0, 0, []), some ((.ireturn, 1), 0, 0, 0, []), some ((.aload_n 0, 1), 0, 0, 0, []), some ((.ldc 80, 2), 1, 1, 0, []), none, some ((.invokevirtual 76, 3), 39, 2, 0, [(0, 4)]), none],
  [none, some ((.ifCond .eq 5, 3), 22, 0, 0, []), none, none, some ((.iconst 1, 1), 0, 0, 1, []), some ((.ireturn, 1), 0, 0, 0, []), some ((.aload_n 0, 1), 0, 0, 0, []), some ((.ldc 82, 2), 1, 2, 0, []), none, some ((.invokevirtual 76, 3), 39, 2, 0, [(0, 4)]), none, none, some ((.ifCond .eq 7, 3), 35, 0, 0, []), none, none, some ((.iconst 2, 1), 0, 0, 2, [])],
  [some ((.goto 4, 3), 36, 0, 0, []), none, none, some ((.iconst (-1), 1), 0, 0, (-1), []), some ((.ireturn, 1), 0, 0, 0, [])]]
def T_X4_namesOf : Tab := [
  [some ((.iload_n 0, 1), 0, 0, 0, []), some ((.ifCond .ne 6, 3), 7, 0, 0, []), none, none, some ((.ldc 84, 2), 1, 3, 0, []), none, some ((.areturn, 1), 0, 0, 0, []), some ((.iload_n 0, 1), 0, 0, 0, []), some ((.iconst 1, 1), 0, 0, 1, []), some ((.if_icmp .ne 8, 3), 17, 0, 0, []), none, none, some ((.ldc 86, 2), 1, 4, 0, []), none, some ((.goto 5, 3), 19, 0, 0, []), none],
  [none, some ((.ldc 88, 2), 1, 5, 0, []), none, some ((.areturn, 1), 0, 0, 0, [])]]
def T_X4_nameHere : Tab := [
  [some ((.aload_n 0, 1), 0, 0, 0, []), some ((.getfield 29, 3), 4, 4, 0, []), none, none, some ((.iconst 2, 1), 0, 0, 2, []), some ((.if_icmp .ne 16, 3), 21, 0, 0, []), none, none, some ((.aload_n 0, 1), 0, 0, 0, []), some ((.getfield 26, 3), 4, 3, 0, []), none, none, some ((.aload_n 0, 1), 0, 0, 0, []), some ((.getfield 47, 3), 4, 2, 0, []), none, none],
  [some ((.isub, 1), 0, 0, 0, []), some ((.iconst 1, 1), 0, 0, 1, []), some ((.if_icmp .eq 5, 3), 23, 0, 0, []), none, none, some ((.iconst (-1), 1), 0, 0, (-1), []), some ((.ireturn, 1), 0, 0, 0, []), some ((.aload_n 0, 1), 0, 0, 0, []), some ((.getfield 18, 3), 4, 6, 0, []), none, none, some ((.getfield 90, 3), 7, 0, 0, []), none, none, some ((.invokestatic 93, 3), 41, 1, 0, []), none],
  [none, some ((.aload_n 0, 1), 0, 0, 0, []), some ((.getfield 9, 3), 4, 0, 0, []), none, none, some ((.aload_n 0, 1), 0, 0, 0, []), some ((.getfield 47, 3), 4, 2, 0, []), none, none, some ((.iaload, 1), 0, 0, 0, []), some ((.i2c, 1), 0, 0, 0, []), some ((.invokevirtual 97, 3), 220, 2, 0, [(0, 12)]), none, none, some ((.ireturn, 1), 0, 0, 0, [])]]
def T_X4_signsOf : Tab := [
  [some ((.iload_n 0, 1), 0, 0, 0, []), some ((.tableswitch 43 0 3 #[31, 34, 37, 40], 31), 44, 0, 0, [(0, 32), (1, 35), (2, 38), (3, 41)]), none, none, none, none, none, none, none, none, none, none, none, none, none, none],
  [none, none, none, none, none, none, none, none, none, none, none, none, none, none, none, none],
  [some ((.ldc 101, 2), 1, 6, 0, []), none, some ((.areturn, 1), 0, 0, 0, []), some ((.ldc 103, 2), 1, 7, 0, []), none, some ((.areturn, 1), 0, 0, 0, []), some ((.ldc 105, 2), 1, 8, 0, []), none, some ((.areturn, 1), 0, 0, 0, []), some ((.ldc 107, 2), 1, 9, 0, []), none, some ((.areturn, 1), 0, 0, 0, []), some ((.ldc 109, 2), 1, 10, 0, []), none, some ((.areturn, 1), 0, 0, 0, [])]]
def T_X4_isJoined : Tab := [
  [some ((.aload_n 0, 1), 0, 0, 0, []), some ((.getfield 29, 3), 4, 4, 0, []), none, none, some ((.iconst 1, 1), 0, 0, 1, []), some ((.if_icmp .ne 27, 3), 32, 0, 0, []), none, none, some ((.iload_n 1, 1), 1, 0, 0, []), some ((.invokestatic 111, 3), 43, 1, 0, []), none, none, some ((.aload_n 0, 1), 0, 0, 0, []), some ((.getfield 9, 3), 4, 0, 0, []), none, none],
  [some ((.aload_n 0, 1), 0, 0, 0, []), some ((.getfield 47, 3), 4, 2, 0, []), none, none, some ((.iaload, 1), 0, 0, 0, []), some ((.i2c, 1), 0, 0, 0, []), some ((.invokevirtual 97, 3), 220, 2, 0, [(0, 12)]), none, none, some ((.ifCond .lt 7, 3), 32, 0, 0, []), none, none, some ((.iconst 1, 1), 0, 0, 1, []), some ((.goto 4, 3), 33, 0, 0, []), none, none],
  [some ((.iconst 0, 1), 0, 0, 0, []), some ((.ireturn, 1), 0, 0, 0, [])]]
def T_X4_readsLevel : Tab := [
  [some ((.iload_n 1, 1), 1, 0, 0, []), some ((.iconst 5, 1), 0, 0, 5, []), some ((.if_icmp .lt 10, 3), 12, 0, 0, []), none, none, some ((.aload_n 0, 1), 0, 0, 0, []), some ((.iload_n 2, 1), 2, 0, 0, []), some ((.iload_n 3, 1), 3, 0, 0, []), some ((.invokevirtual 114, 3), 46, 3, 0, [(0, 4)]), none, none, some ((.ireturn, 1), 0, 0, 0, []), some ((.aload_n 0, 1), 0, 0, 0, []), some ((.iload_n 1, 1), 1, 0, 0, []), some ((.iconst 1, 1), 0, 0, 1, []), some ((.iadd, 1), 0, 0, 0, [])],
  [some ((.iload_n 2, 1), 2, 0, 0, []), some ((.iload_n 3, 1), 3, 0, 0, []), some ((.invokevirtual 43, 3), 45, 4, 0, [(0, 4)]), none, none, some ((.ifCond .ne 5, 3), 26, 0, 0, []), none, none, some ((.iconst 0, 1), 0, 0, 0, []), some ((.ireturn, 1), 0, 0, 0, []), some ((.iload_n 1, 1), 1, 0, 0, []), some ((.iconst 2, 1), 0, 0, 2, []), some ((.if_icmp .ne 7, 3), 35, 0, 0, []), none, none, some ((.iconst 1, 1), 0, 0, 1, [])],
  [some ((.goto 5, 3), 37, 0, 0, []), none, none, some ((.bipush 96, 2), 0, 0, 96, []), none, some ((.istore 4, 2), 4, 0, 0, []), none, some ((.iconst 0, 1), 0, 0, 0, []), some ((.istore 5, 2), 5, 0, 0, []), none, some ((.iload 5, 2), 5, 0, 0, []), none, some ((.iload 4, 2), 4, 0, 0, []), none, some ((.if_icmp .ge 56, 3), 102, 0, 0, []), none],
  [none, some ((.aload_n 0, 1), 0, 0, 0, []), some ((.iload_n 1, 1), 1, 0, 0, []), some ((.invokevirtual 118, 3), 44, 2, 0, [(0, 4)]), none, none, some ((.ifCond .eq 48, 3), 102, 0, 0, []), none, none, some ((.aload_n 0, 1), 0, 0, 0, []), some ((.getfield 9, 3), 4, 0, 0, []), none, none, some ((.aload_n 0, 1), 0, 0, 0, []), some ((.getfield 47, 3), 4, 2, 0, []), none],
  [none, some ((.iaload, 1), 0, 0, 0, []), some ((.i2c, 1), 0, 0, 0, []), some ((.istore 6, 2), 6, 0, 0, []), none, some ((.aload_n 0, 1), 0, 0, 0, []), some ((.invokevirtual 32, 3), 33, 1, 0, [(0, 4)]), none, none, some ((.aload_n 0, 1), 0, 0, 0, []), some ((.iload_n 1, 1), 1, 0, 0, []), some ((.iconst 1, 1), 0, 0, 1, []), some ((.iadd, 1), 0, 0, 0, []), some ((.iload_n 2, 1), 2, 0, 0, []), some ((.iload_n 3, 1), 3, 0, 0, []), some ((.invokevirtual 43, 3), 45, 4, 0, [(0, 4)])],
  [none, none, some ((.ifCond .ne 5, 3), 87, 0, 0, []), none, none, some ((.iconst 0, 1), 0, 0, 0, []), some ((.ireturn, 1), 0, 0, 0, []), some ((.aload_n 0, 1), 0, 0, 0, []), some ((.getfield 18, 3), 4, 6, 0, []), none, none, some ((.iload 6, 2), 6, 0, 0, []), none, some ((.invokevirtual 121, 3), 58, 2, 0, [(0, 7)]), none, none],
  [some ((.iinc 5 1, 3), 5, 0, 1, []), none, none, some ((.goto (-57), 3), 42, 0, 0, []), none, none, some ((.iconst 1, 1), 0, 0, 1, []), some ((.ireturn, 1), 0, 0, 0, [])]]
def T_X4_readsPiece : Tab := [
  [some ((.aload_n 0, 1), 0, 0, 0, []), some ((.getfield 29, 3), 4, 4, 0, []), none, none, some ((.iconst 3, 1), 0, 0, 3, []), some ((.if_icmp .ne 20, 3), 25, 0, 0, []), none, none, some ((.aload_n 0, 1), 0, 0, 0, []), some ((.getfield 18, 3), 4, 6, 0, []), none, none, some ((.aload_n 0, 1), 0, 0, 0, []), some ((.getfield 63, 3), 4, 5, 0, []), none, none],
  [some ((.invokevirtual 125, 3), 57, 2, 0, [(0, 7)]), none, none, some ((.aload_n 0, 1), 0, 0, 0, []), some ((.invokevirtual 32, 3), 33, 1, 0, [(0, 4)]), none, none, some ((.iconst 1, 1), 0, 0, 1, []), some ((.ireturn, 1), 0, 0, 0, []), some ((.aload_n 0, 1), 0, 0, 0, []), some ((.getfield 29, 3), 4, 4, 0, []), none, none, some ((.iconst 2, 1), 0, 0, 2, []), some ((.if_icmp .ne 8, 3), 38, 0, 0, []), none],
  [none, some ((.aload_n 0, 1), 0, 0, 0, []), some ((.invokevirtual 128, 3), 47, 1, 0, [(0, 4)]), none, none, some ((.ireturn, 1), 0, 0, 0, []), some ((.aload_n 0, 1), 0, 0, 0, []), some ((.bipush 33, 2), 0, 0, 33, []), none, some ((.invokevirtual 132, 3), 38, 2, 0, [(0, 4)]), none, none, some ((.ifCond .eq 26, 3), 70, 0, 0, []), none, none, some ((.iload_n 2, 1), 2, 0, 0, [])],
  [some ((.bipush 8, 2), 0, 0, 8, []), none, some ((.if_icmp .ge 18, 3), 68, 0, 0, []), none, none, some ((.aload_n 0, 1), 0, 0, 0, []), some ((.iload_n 1, 1), 1, 0, 0, []), some ((.iload_n 2, 1), 2, 0, 0, []), some ((.iconst 1, 1), 0, 0, 1, []), some ((.iadd, 1), 0, 0, 0, []), some ((.invokevirtual 136, 3), 48, 3, 0, [(0, 4)]), none, none, some ((.ifCond .eq 7, 3), 68, 0, 0, []), none, none],
  [some ((.iconst 1, 1), 0, 0, 1, []), some ((.goto 4, 3), 69, 0, 0, []), none, none, some ((.iconst 0, 1), 0, 0, 0, []), some ((.ireturn, 1), 0, 0, 0, []), some ((.aload_n 0, 1), 0, 0, 0, []), some ((.bipush 40, 2), 0, 0, 40, []), none, some ((.invokevirtual 132, 3), 38, 2, 0, [(0, 4)]), none, none, some ((.ifCond .eq 24, 3), 100, 0, 0, []), none, none, some ((.iload_n 1, 1), 1, 0, 0, [])],
  [some ((.bipush 8, 2), 0, 0, 8, []), none, some ((.if_icmp .ge 18, 3), 100, 0, 0, []), none, none, some ((.aload_n 0, 1), 0, 0, 0, []), some ((.iload_n 1, 1), 1, 0, 0, []), some ((.iconst 1, 1), 0, 0, 1, []), some ((.iadd, 1), 0, 0, 0, []), some ((.iload_n 2, 1), 2, 0, 0, []), some ((.invokevirtual 139, 3), 49, 3, 0, [(0, 4)]), none, none, some ((.ifCond .eq 7, 3), 100, 0, 0, []), none, none],
  [some ((.iconst 1, 1), 0, 0, 1, []), some ((.goto 4, 3), 101, 0, 0, []), none, none, some ((.iconst 0, 1), 0, 0, 0, []), some ((.ireturn, 1), 0, 0, 0, [])]]
def T_X4_readsName : Tab := [
  [some ((.aload_n 0, 1), 0, 0, 0, []), some ((.invokevirtual 142, 3), 42, 1, 0, [(0, 4)]), none, none, some ((.istore_n 1, 1), 1, 0, 0, []), some ((.iload_n 1, 1), 1, 0, 0, []), some ((.ifCond .ge 5, 3), 11, 0, 0, []), none, none, some ((.iconst 0, 1), 0, 0, 0, []), some ((.ireturn, 1), 0, 0, 0, []), some ((.aload_n 0, 1), 0, 0, 0, []), some ((.getfield 18, 3), 4, 6, 0, []), none, none, some ((.iconst (-1), 1), 0, 0, (-1), [])],
  [some ((.iload_n 1, 1), 1, 0, 0, []), some ((.isub, 1), 0, 0, 0, []), some ((.invokevirtual 125, 3), 57, 2, 0, [(0, 7)]), none, none, some ((.aload_n 0, 1), 0, 0, 0, []), some ((.invokevirtual 32, 3), 33, 1, 0, [(0, 4)]), none, none, some ((.iconst 1, 1), 0, 0, 1, []), some ((.ireturn, 1), 0, 0, 0, [])]]
def T_X4_readsNegated : Tab := [
  [some ((.aload_n 0, 1), 0, 0, 0, []), some ((.invokevirtual 32, 3), 33, 1, 0, [(0, 4)]), none, none, some ((.aload_n 0, 1), 0, 0, 0, []), some ((.iload_n 1, 1), 1, 0, 0, []), some ((.iload_n 2, 1), 2, 0, 0, []), some ((.invokevirtual 114, 3), 46, 3, 0, [(0, 4)]), none, none, some ((.ifCond .ne 5, 3), 15, 0, 0, []), none, none, some ((.iconst 0, 1), 0, 0, 0, []), some ((.ireturn, 1), 0, 0, 0, []), some ((.aload_n 0, 1), 0, 0, 0, [])],
  [some ((.getfield 18, 3), 4, 6, 0, []), none, none, some ((.bipush 33, 2), 0, 0, 33, []), none, some ((.invokevirtual 121, 3), 58, 2, 0, [(0, 7)]), none, none, some ((.iconst 1, 1), 0, 0, 1, []), some ((.ireturn, 1), 0, 0, 0, [])]]
def T_X4_readsBracket : Tab := [
  [some ((.aload_n 0, 1), 0, 0, 0, []), some ((.invokevirtual 32, 3), 33, 1, 0, [(0, 4)]), none, none, some ((.aload_n 0, 1), 0, 0, 0, []), some ((.iconst 0, 1), 0, 0, 0, []), some ((.iload_n 1, 1), 1, 0, 0, []), some ((.iload_n 2, 1), 2, 0, 0, []), some ((.invokevirtual 43, 3), 45, 4, 0, [(0, 4)]), none, none, some ((.ifCond .eq 12, 3), 23, 0, 0, []), none, none, some ((.aload_n 0, 1), 0, 0, 0, []), some ((.bipush 41, 2), 0, 0, 41, [])],
  [none, some ((.invokevirtual 132, 3), 38, 2, 0, [(0, 4)]), none, none, some ((.ifCond .ne 5, 3), 25, 0, 0, []), none, none, some ((.iconst 0, 1), 0, 0, 0, []), some ((.ireturn, 1), 0, 0, 0, []), some ((.aload_n 0, 1), 0, 0, 0, []), some ((.invokevirtual 32, 3), 33, 1, 0, [(0, 4)]), none, none, some ((.iconst 1, 1), 0, 0, 1, []), some ((.ireturn, 1), 0, 0, 0, [])]]
def T_X5_isMissing : Tab := [
  [some ((.aload_n 0, 1), 0, 0, 0, []), some ((.getfield 11, 3), 5, 0, 0, []), none, none, some ((.iconst (-1), 1), 0, 0, (-1), []), some ((.if_icmp .ne 7, 3), 12, 0, 0, []), none, none, some ((.iconst 1, 1), 0, 0, 1, []), some ((.goto 4, 3), 13, 0, 0, []), none, none, some ((.iconst 0, 1), 0, 0, 0, []), some ((.ireturn, 1), 0, 0, 0, [])]]
def T_X5_has : Tab := [
  [some ((.iload_n 1, 1), 1, 0, 0, []), some ((.ifCond .lt 15, 3), 16, 0, 0, []), none, none, some ((.iload_n 1, 1), 1, 0, 0, []), some ((.aload_n 0, 1), 0, 0, 0, []), some ((.getfield 19, 3), 5, 1, 0, []), none, none, some ((.if_icmp .ge 7, 3), 16, 0, 0, []), none, none, some ((.iconst 1, 1), 0, 0, 1, []), some ((.goto 4, 3), 17, 0, 0, []), none, none],
  [some ((.iconst 0, 1), 0, 0, 0, []), some ((.ireturn, 1), 0, 0, 0, [])]]
def T_X5_hasAll : Tab := [
  [some ((.iload_n 1, 1), 1, 0, 0, []), some ((.ifCond .lt 21, 3), 22, 0, 0, []), none, none, some ((.iload_n 2, 1), 2, 0, 0, []), some ((.ifCond .lt 17, 3), 22, 0, 0, []), none, none, some ((.iload_n 1, 1), 1, 0, 0, []), some ((.aload_n 0, 1), 0, 0, 0, []), some ((.getfield 19, 3), 5, 1, 0, []), none, none, some ((.iload_n 2, 1), 2, 0, 0, []), some ((.isub, 1), 0, 0, 0, []), some ((.if_icmp .gt 7, 3), 22, 0, 0, [])],
  [none, none, some ((.iconst 1, 1), 0, 0, 1, []), some ((.goto 4, 3), 23, 0, 0, []), none, none, some ((.iconst 0, 1), 0, 0, 0, []), some ((.ireturn, 1), 0, 0, 0, [])]]
def T_X5_isNumber : Tab := [
  [some ((.aload_n 0, 1), 0, 0, 0, []), some ((.iload_n 1, 1), 1, 0, 0, []), some ((.invokevirtual 22, 3), 51, 2, 0, [(0, 5)]), none, none, some ((.ifCond .eq 18, 3), 23, 0, 0, []), none, none, some ((.aload_n 0, 1), 0, 0, 0, []), some ((.getfield 15, 3), 5, 2, 0, []), none, none, some ((.iload_n 1, 1), 1, 0, 0, []), some ((.iaload, 1), 0, 0, 0, []), some ((.ldc 26, 2), 0, 0, (-1000000005), []), none],
  [some ((.if_icmp .eq 7, 3), 23, 0, 0, []), none, none, some ((.iconst 1, 1), 0, 0, 1, []), some ((.goto 4, 3), 24, 0, 0, []), none, none, some ((.iconst 0, 1), 0, 0, 0, []), some ((.ireturn, 1), 0, 0, 0, [])]]
def T_X5_clear : Tab := [
  [some ((.aload_n 0, 1), 0, 0, 0, []), some ((.iload_n 1, 1), 1, 0, 0, []), some ((.putfield 11, 3), 5, 0, 0, []), none, none, some ((.aload_n 0, 1), 0, 0, 0, []), some ((.iload_n 2, 1), 2, 0, 0, []), some ((.putfield 19, 3), 5, 1, 0, []), none, none, some ((.iconst 0, 1), 0, 0, 0, []), some ((.istore_n 3, 1), 3, 0, 0, []), some ((.iload_n 3, 1), 3, 0, 0, []), some ((.bipush 24, 2), 0, 0, 24, []), none, some ((.if_icmp .ge 16, 3), 31, 0, 0, [])],
  [none, none, some ((.aload_n 0, 1), 0, 0, 0, []), some ((.getfield 15, 3), 5, 2, 0, []), none, none, some ((.iload_n 3, 1), 3, 0, 0, []), some ((.iconst 0, 1), 0, 0, 0, []), some ((.iastore, 1), 0, 0, 0, []), some ((.iinc 3 1, 3), 3, 0, 1, []), none, none, some ((.goto (-16), 3), 12, 0, 0, []), none, none, some ((.return_, 1), 0, 0, 0, [])]]
def T_X5_becomeAs : Tab := [
  [some ((.aload_n 0, 1), 0, 0, 0, []), some ((.aload_n 1, 1), 1, 0, 0, []), some ((.getfield 11, 3), 5, 0, 0, []), none, none, some ((.putfield 11, 3), 5, 0, 0, []), none, none, some ((.aload_n 0, 1), 0, 0, 0, []), some ((.aload_n 1, 1), 1, 0, 0, []), some ((.getfield 19, 3), 5, 1, 0, []), none, none, some ((.putfield 19, 3), 5, 1, 0, []), none, none],
  [some ((.aload_n 1, 1), 1, 0, 0, []), some ((.getfield 15, 3), 5, 2, 0, []), none, none, some ((.iconst 0, 1), 0, 0, 0, []), some ((.aload_n 0, 1), 0, 0, 0, []), some ((.getfield 15, 3), 5, 2, 0, []), none, none, some ((.iconst 0, 1), 0, 0, 0, []), some ((.bipush 24, 2), 0, 0, 24, []), none, some ((.invokestatic 27, 3), 0, 105, 0, []), none, none, some ((.return_, 1), 0, 0, 0, [])]]
def T_X7_begin : Tab := [
  [some ((.aload_n 0, 1), 0, 0, 0, []), some ((.iload_n 1, 1), 1, 0, 0, []), some ((.putfield 15, 3), 7, 0, 0, []), none, none, some ((.aload_n 0, 1), 0, 0, 0, []), some ((.iconst 0, 1), 0, 0, 0, []), some ((.putfield 19, 3), 7, 2, 0, []), none, none, some ((.aload_n 0, 1), 0, 0, 0, []), some ((.iconst 0, 1), 0, 0, 0, []), some ((.putfield 22, 3), 7, 3, 0, []), none, none, some ((.return_, 1), 0, 0, 0, [])]]
def T_X7_addLeaf : Tab := [
  [some ((.aload_n 0, 1), 0, 0, 0, []), some ((.dup, 1), 0, 0, 0, []), some ((.getfield 22, 3), 7, 3, 0, []), none, none, some ((.iconst 1, 1), 0, 0, 1, []), some ((.iadd, 1), 0, 0, 0, []), some ((.putfield 22, 3), 7, 3, 0, []), none, none, some ((.aload_n 0, 1), 0, 0, 0, []), some ((.iload_n 1, 1), 1, 0, 0, []), some ((.invokevirtual 25, 3), 59, 2, 0, [(0, 7)]), none, none, some ((.return_, 1), 0, 0, 0, [])]]
def T_X7_addSign : Tab := [
  [some ((.aload_n 0, 1), 0, 0, 0, []), some ((.iload_n 1, 1), 1, 0, 0, []), some ((.ineg, 1), 0, 0, 0, []), some ((.invokevirtual 25, 3), 59, 2, 0, [(0, 7)]), none, none, some ((.return_, 1), 0, 0, 0, [])]]
def T_X7_add : Tab := [
  [some ((.aload_n 0, 1), 0, 0, 0, []), some ((.getfield 19, 3), 7, 2, 0, []), none, none, some ((.aload_n 0, 1), 0, 0, 0, []), some ((.getfield 9, 3), 7, 1, 0, []), none, none, some ((.arraylength, 1), 0, 0, 0, []), some ((.if_icmp .ge 23, 3), 32, 0, 0, []), none, none, some ((.aload_n 0, 1), 0, 0, 0, []), some ((.getfield 9, 3), 7, 1, 0, []), none, none],
  [some ((.aload_n 0, 1), 0, 0, 0, []), some ((.getfield 19, 3), 7, 2, 0, []), none, none, some ((.iload_n 1, 1), 1, 0, 0, []), some ((.iastore, 1), 0, 0, 0, []), some ((.aload_n 0, 1), 0, 0, 0, []), some ((.dup, 1), 0, 0, 0, []), some ((.getfield 19, 3), 7, 2, 0, []), none, none, some ((.iconst 1, 1), 0, 0, 1, []), some ((.iadd, 1), 0, 0, 0, []), some ((.putfield 19, 3), 7, 2, 0, []), none, none],
  [some ((.return_, 1), 0, 0, 0, [])]]
def T_X8_oneFurther : Tab := [
  [some ((.iload_n 1, 1), 1, 0, 0, []), some ((.istore_n 3, 1), 3, 0, 0, []), some ((.iconst 0, 1), 0, 0, 0, []), some ((.istore 4, 2), 4, 0, 0, []), none, some ((.iload 4, 2), 4, 0, 0, []), none, some ((.aload_n 0, 1), 0, 0, 0, []), some ((.getfield 9, 3), 8, 0, 0, []), none, none, some ((.getfield 19, 3), 1, 2, 0, []), none, none, some ((.if_icmp .ge 51, 3), 65, 0, 0, []), none],
  [none, some ((.iload 4, 2), 4, 0, 0, []), none, some ((.iload_n 2, 1), 2, 0, 0, []), some ((.if_icmp .eq 39, 3), 59, 0, 0, []), none, none, some ((.iload_n 1, 1), 1, 0, 0, []), some ((.aload_n 0, 1), 0, 0, 0, []), some ((.getfield 9, 3), 8, 0, 0, []), none, none, some ((.getfield 25, 3), 1, 1, 0, []), none, none, some ((.iload 4, 2), 4, 0, 0, [])],
  [none, some ((.aaload, 1), 0, 0, 0, []), some ((.getfield 29, 3), 0, 1, 0, []), none, none, some ((.ishr, 1), 0, 0, 0, []), some ((.iconst 1, 1), 0, 0, 1, []), some ((.iand, 1), 0, 0, 0, []), some ((.ifCond .eq 19, 3), 59, 0, 0, []), none, none, some ((.iload_n 3, 1), 3, 0, 0, []), some ((.aload_n 0, 1), 0, 0, 0, []), some ((.getfield 9, 3), 8, 0, 0, []), none, none],
  [some ((.getfield 25, 3), 1, 1, 0, []), none, none, some ((.iload 4, 2), 4, 0, 0, []), none, some ((.aaload, 1), 0, 0, 0, []), some ((.invokevirtual 34, 3), 4, 1, 0, [(0, 0)]), none, none, some ((.ior, 1), 0, 0, 0, []), some ((.istore_n 3, 1), 3, 0, 0, []), some ((.iinc 4 1, 3), 4, 0, 1, []), none, none, some ((.goto (-57), 3), 5, 0, 0, []), none],
  [none, some ((.iload_n 3, 1), 3, 0, 0, []), some ((.ireturn, 1), 0, 0, 0, [])]]
def T_X8_reachOf : Tab := [
  [some ((.iconst 1, 1), 0, 0, 1, []), some ((.iload_n 1, 1), 1, 0, 0, []), some ((.ishl, 1), 0, 0, 0, []), some ((.istore_n 3, 1), 3, 0, 0, []), some ((.iconst 1, 1), 0, 0, 1, []), some ((.istore 4, 2), 4, 0, 0, []), none, some ((.iload 4, 2), 4, 0, 0, []), none, some ((.bipush 8, 2), 0, 0, 8, []), none, some ((.if_icmp .ge 16, 3), 27, 0, 0, []), none, none, some ((.aload_n 0, 1), 0, 0, 0, []), some ((.iload_n 3, 1), 3, 0, 0, [])],
  [some ((.iload_n 2, 1), 2, 0, 0, []), some ((.invokevirtual 38, 3), 60, 3, 0, [(0, 8)]), none, none, some ((.istore_n 3, 1), 3, 0, 0, []), some ((.iinc 4 1, 3), 4, 0, 1, []), none, none, some ((.goto (-17), 3), 7, 0, 0, []), none, none, some ((.iload_n 3, 1), 3, 0, 0, []), some ((.ireturn, 1), 0, 0, 0, [])]]
def T_X8_steps : Tab := [
  [some ((.iconst 1, 1), 0, 0, 1, []), some ((.iload_n 1, 1), 1, 0, 0, []), some ((.ishl, 1), 0, 0, 0, []), some ((.istore_n 3, 1), 3, 0, 0, []), some ((.iconst 0, 1), 0, 0, 0, []), some ((.istore 4, 2), 4, 0, 0, []), none, some ((.iload 4, 2), 4, 0, 0, []), none, some ((.bipush 8, 2), 0, 0, 8, []), none, some ((.if_icmp .ge 27, 3), 38, 0, 0, []), none, none, some ((.iload_n 3, 1), 3, 0, 0, []), some ((.iload_n 2, 1), 2, 0, 0, [])],
  [some ((.ishr, 1), 0, 0, 0, []), some ((.iconst 1, 1), 0, 0, 1, []), some ((.iand, 1), 0, 0, 0, []), some ((.ifCond .eq 6, 3), 25, 0, 0, []), none, none, some ((.iload 4, 2), 4, 0, 0, []), none, some ((.ireturn, 1), 0, 0, 0, []), some ((.aload_n 0, 1), 0, 0, 0, []), some ((.iload_n 3, 1), 3, 0, 0, []), some ((.iconst (-1), 1), 0, 0, (-1), []), some ((.invokevirtual 38, 3), 60, 3, 0, [(0, 8)]), none, none, some ((.istore_n 3, 1), 3, 0, 0, [])],
  [some ((.iinc 4 1, 3), 4, 0, 1, []), none, none, some ((.goto (-28), 3), 7, 0, 0, []), none, none, some ((.iconst (-1), 1), 0, 0, (-1), []), some ((.ireturn, 1), 0, 0, 0, [])]]
def T_X8_reachedWithout : Tab := [
  [some ((.iconst 0, 1), 0, 0, 0, []), some ((.istore_n 2, 1), 2, 0, 0, []), some ((.iconst 0, 1), 0, 0, 0, []), some ((.istore_n 3, 1), 3, 0, 0, []), some ((.iload_n 3, 1), 3, 0, 0, []), some ((.bipush 8, 2), 0, 0, 8, []), none, some ((.if_icmp .ge 21, 3), 28, 0, 0, []), none, none, some ((.iload_n 2, 1), 2, 0, 0, []), some ((.aload_n 0, 1), 0, 0, 0, []), some ((.iload_n 3, 1), 3, 0, 0, []), some ((.iload_n 1, 1), 1, 0, 0, []), some ((.invokevirtual 42, 3), 61, 3, 0, [(0, 8)]), none],
  [none, some ((.invokestatic 45, 3), 217, 1, 0, []), none, none, some ((.iadd, 1), 0, 0, 0, []), some ((.istore_n 2, 1), 2, 0, 0, []), some ((.iinc 3 1, 3), 3, 0, 1, []), none, none, some ((.goto (-21), 3), 4, 0, 0, []), none, none, some ((.iload_n 2, 1), 2, 0, 0, []), some ((.ireturn, 1), 0, 0, 0, [])]]
def T_X8_comingTo : Tab := [
  [some ((.iconst 0, 1), 0, 0, 0, []), some ((.istore_n 2, 1), 2, 0, 0, []), some ((.iconst 0, 1), 0, 0, 0, []), some ((.istore_n 3, 1), 3, 0, 0, []), some ((.iload_n 3, 1), 3, 0, 0, []), some ((.bipush 8, 2), 0, 0, 8, []), none, some ((.if_icmp .ge 28, 3), 35, 0, 0, []), none, none, some ((.aload_n 0, 1), 0, 0, 0, []), some ((.getfield 15, 3), 8, 1, 0, []), none, none, some ((.iload_n 3, 1), 3, 0, 0, []), some ((.iaload, 1), 0, 0, 0, [])],
  [some ((.iload_n 1, 1), 1, 0, 0, []), some ((.ishr, 1), 0, 0, 0, []), some ((.iconst 1, 1), 0, 0, 1, []), some ((.iand, 1), 0, 0, 0, []), some ((.ifCond .eq 9, 3), 29, 0, 0, []), none, none, some ((.iload_n 2, 1), 2, 0, 0, []), some ((.iconst 1, 1), 0, 0, 1, []), some ((.iload_n 3, 1), 3, 0, 0, []), some ((.ishl, 1), 0, 0, 0, []), some ((.ior, 1), 0, 0, 0, []), some ((.istore_n 2, 1), 2, 0, 0, []), some ((.iinc 3 1, 3), 3, 0, 1, []), none, none],
  [some ((.goto (-28), 3), 4, 0, 0, []), none, none, some ((.iload_n 2, 1), 2, 0, 0, []), some ((.ireturn, 1), 0, 0, 0, [])]]
def T_X8_lacking : Tab := [
  [some ((.iconst 0, 1), 0, 0, 0, []), some ((.istore_n 1, 1), 1, 0, 0, []), some ((.iload_n 1, 1), 1, 0, 0, []), some ((.bipush 8, 2), 0, 0, 8, []), none, some ((.if_icmp .ge 21, 3), 26, 0, 0, []), none, none, some ((.aload_n 0, 1), 0, 0, 0, []), some ((.getfield 15, 3), 8, 1, 0, []), none, none, some ((.iload_n 1, 1), 1, 0, 0, []), some ((.aload_n 0, 1), 0, 0, 0, []), some ((.iload_n 1, 1), 1, 0, 0, []), some ((.iconst (-1), 1), 0, 0, (-1), [])],
  [some ((.invokevirtual 42, 3), 61, 3, 0, [(0, 8)]), none, none, some ((.iastore, 1), 0, 0, 0, []), some ((.iinc 1 1, 3), 1, 0, 1, []), none, none, some ((.goto (-21), 3), 2, 0, 0, []), none, none, some ((.iconst 0, 1), 0, 0, 0, []), some ((.istore_n 1, 1), 1, 0, 0, []), some ((.iconst 0, 1), 0, 0, 0, []), some ((.istore_n 2, 1), 2, 0, 0, []), some ((.iconst 0, 1), 0, 0, 0, []), some ((.istore_n 3, 1), 3, 0, 0, [])],
  [some ((.iconst 0, 1), 0, 0, 0, []), some ((.istore 4, 2), 4, 0, 0, []), none, some ((.iload 4, 2), 4, 0, 0, []), none, some ((.bipush 8, 2), 0, 0, 8, []), none, some ((.if_icmp .ge 91, 3), 130, 0, 0, []), none, none, some ((.aload_n 0, 1), 0, 0, 0, []), some ((.iload 4, 2), 4, 0, 0, []), none, some ((.invokevirtual 51, 3), 64, 2, 0, [(0, 8)]), none, none],
  [some ((.istore 5, 2), 5, 0, 0, []), none, some ((.iload 5, 2), 5, 0, 0, []), none, some ((.aload_n 0, 1), 0, 0, 0, []), some ((.getfield 15, 3), 8, 1, 0, []), none, none, some ((.iload 4, 2), 4, 0, 0, []), none, some ((.iaload, 1), 0, 0, 0, []), some ((.iand, 1), 0, 0, 0, []), some ((.istore 6, 2), 6, 0, 0, []), none, some ((.iload 6, 2), 6, 0, 0, []), none],
  [some ((.iconst 1, 1), 0, 0, 1, []), some ((.iload 4, 2), 4, 0, 0, []), none, some ((.ishl, 1), 0, 0, 0, []), some ((.iconst 1, 1), 0, 0, 1, []), some ((.isub, 1), 0, 0, 0, []), some ((.iand, 1), 0, 0, 0, []), some ((.ifCond .ne 7, 3), 78, 0, 0, []), none, none, some ((.iconst 1, 1), 0, 0, 1, []), some ((.goto 4, 3), 79, 0, 0, []), none, none, some ((.iconst 0, 1), 0, 0, 0, []), some ((.istore 7, 2), 7, 0, 0, [])],
  [none, some ((.iload 7, 2), 7, 0, 0, []), none, some ((.ifCond .eq 41, 3), 124, 0, 0, []), none, none, some ((.iinc 1 1, 3), 1, 0, 1, []), none, none, some ((.iload_n 2, 1), 2, 0, 0, []), some ((.iload 6, 2), 6, 0, 0, []), none, some ((.aload_n 0, 1), 0, 0, 0, []), some ((.getfield 15, 3), 8, 1, 0, []), none, none],
  [some ((.iload 4, 2), 4, 0, 0, []), none, some ((.iaload, 1), 0, 0, 0, []), some ((.if_icmp .ne 7, 3), 106, 0, 0, []), none, none, some ((.iconst 1, 1), 0, 0, 1, []), some ((.goto 4, 3), 107, 0, 0, []), none, none, some ((.iconst 0, 1), 0, 0, 0, []), some ((.iadd, 1), 0, 0, 0, []), some ((.istore_n 2, 1), 2, 0, 0, []), some ((.iload_n 3, 1), 3, 0, 0, []), some ((.iload 6, 2), 6, 0, 0, []), none],
  [some ((.iload 5, 2), 5, 0, 0, []), none, some ((.if_icmp .ne 7, 3), 121, 0, 0, []), none, none, some ((.iconst 1, 1), 0, 0, 1, []), some ((.goto 4, 3), 122, 0, 0, []), none, none, some ((.iconst 0, 1), 0, 0, 0, []), some ((.iadd, 1), 0, 0, 0, []), some ((.istore_n 3, 1), 3, 0, 0, []), some ((.iinc 4 1, 3), 4, 0, 1, []), none, none, some ((.goto (-92), 3), 35, 0, 0, [])],
  [none, none, some ((.iload_n 1, 1), 1, 0, 0, []), some ((.iconst 1, 1), 0, 0, 1, []), some ((.if_icmp .ne 7, 3), 139, 0, 0, []), none, none, some ((.iconst 0, 1), 0, 0, 0, []), some ((.goto 8, 3), 144, 0, 0, []), none, none, some ((.iload_n 2, 1), 2, 0, 0, []), some ((.iload_n 3, 1), 3, 0, 0, []), some ((.invokestatic 54, 3), 0, 107, 0, []), none, none],
  [some ((.ireturn, 1), 0, 0, 0, [])]]
def T_X9_bed : Tab := [
  [some ((.iload_n 1, 1), 1, 0, 0, []), some ((.invokestatic 73, 3), 114, 1, 0, []), none, none, some ((.ifCond .eq 25, 3), 29, 0, 0, []), none, none, some ((.iload_n 2, 1), 2, 0, 0, []), some ((.invokestatic 77, 3), 113, 1, 0, []), none, none, some ((.ifCond .eq 18, 3), 29, 0, 0, []), none, none, some ((.iload_n 3, 1), 3, 0, 0, []), some ((.invokestatic 77, 3), 113, 1, 0, [])],
  [none, none, some ((.ifCond .eq 11, 3), 29, 0, 0, []), none, none, some ((.iload 4, 2), 4, 0, 0, []), none, some ((.invokestatic 77, 3), 113, 1, 0, []), none, none, some ((.ifCond .ne 6, 3), 32, 0, 0, []), none, none, some ((.ldc 80, 2), 0, 0, (-1000000001), []), none, some ((.ireturn, 1), 0, 0, 0, [])],
  [some ((.aload_n 0, 1), 0, 0, 0, []), some ((.getfield 28, 3), 9, 2, 0, []), none, none, some ((.getfield 81, 3), 1, 2, 0, []), none, none, some ((.bipush 10, 2), 0, 0, 10, []), none, some ((.if_icmp .lt 6, 3), 47, 0, 0, []), none, none, some ((.ldc 84, 2), 0, 0, (-1000000003), []), none, some ((.ireturn, 1), 0, 0, 0, []), some ((.aload_n 0, 1), 0, 0, 0, [])],
  [some ((.getfield 28, 3), 9, 2, 0, []), none, none, some ((.iload_n 1, 1), 1, 0, 0, []), some ((.iload_n 2, 1), 2, 0, 0, []), some ((.iload_n 3, 1), 3, 0, 0, []), some ((.iload 4, 2), 4, 0, 0, []), none, some ((.invokevirtual 85, 3), 8, 5, 0, [(0, 1)]), none, none, some ((.ireturn, 1), 0, 0, 0, [])]]
def T_X9_told : Tab := [
  [some ((.aload_n 0, 1), 0, 0, 0, []), some ((.iload_n 1, 1), 1, 0, 0, []), some ((.invokevirtual 89, 3), 111, 2, 0, [(0, 9)]), none, none, some ((.ifCond .ne 6, 3), 11, 0, 0, []), none, none, some ((.ldc 80, 2), 0, 0, (-1000000001), []), none, some ((.ireturn, 1), 0, 0, 0, []), some ((.aload_n 0, 1), 0, 0, 0, []), some ((.getfield 28, 3), 9, 2, 0, []), none, none, some ((.getfield 92, 3), 1, 1, 0, [])],
  [none, none, some ((.iload_n 1, 1), 1, 0, 0, []), some ((.aaload, 1), 0, 0, 0, []), some ((.astore_n 3, 1), 3, 0, 0, []), some ((.iload_n 2, 1), 2, 0, 0, []), some ((.tableswitch 111 0 8 #[50, 55, 60, 65, 70, 75, 88, 101, 106], 50), 133, 0, 0, [(0, 72), (1, 77), (2, 82), (3, 87), (4, 92), (5, 97), (6, 110), (7, 123), (8, 128)]), none, none, none, none, none, none, none, none, none],
  [none, none, none, none, none, none, none, none, none, none, none, none, none, none, none, none],
  [none, none, none, none, none, none, none, none, none, none, none, none, none, none, none, none],
  [none, none, none, none, none, none, none, none, some ((.aload_n 3, 1), 3, 0, 0, []), some ((.getfield 96, 3), 0, 0, 0, []), none, none, some ((.ireturn, 1), 0, 0, 0, []), some ((.aload_n 3, 1), 3, 0, 0, []), some ((.getfield 101, 3), 0, 1, 0, []), none],
  [none, some ((.ireturn, 1), 0, 0, 0, []), some ((.aload_n 3, 1), 3, 0, 0, []), some ((.getfield 104, 3), 0, 2, 0, []), none, none, some ((.ireturn, 1), 0, 0, 0, []), some ((.aload_n 3, 1), 3, 0, 0, []), some ((.getfield 107, 3), 0, 3, 0, []), none, none, some ((.ireturn, 1), 0, 0, 0, []), some ((.aload_n 3, 1), 3, 0, 0, []), some ((.invokevirtual 110, 3), 2, 1, 0, [(0, 0)]), none, none],
  [some ((.ireturn, 1), 0, 0, 0, []), some ((.aload_n 3, 1), 3, 0, 0, []), some ((.iconst 1, 1), 0, 0, 1, []), some ((.aload_n 0, 1), 0, 0, 0, []), some ((.getfield 28, 3), 9, 2, 0, []), none, none, some ((.getfield 114, 3), 1, 10, 0, []), none, none, some ((.invokevirtual 117, 3), 3, 3, 0, [(0, 0)]), none, none, some ((.ireturn, 1), 0, 0, 0, []), some ((.aload_n 3, 1), 3, 0, 0, []), some ((.iconst 2, 1), 0, 0, 2, [])],
  [some ((.aload_n 0, 1), 0, 0, 0, []), some ((.getfield 28, 3), 9, 2, 0, []), none, none, some ((.getfield 114, 3), 1, 10, 0, []), none, none, some ((.invokevirtual 117, 3), 3, 3, 0, [(0, 0)]), none, none, some ((.ireturn, 1), 0, 0, 0, []), some ((.aload_n 3, 1), 3, 0, 0, []), some ((.invokevirtual 121, 3), 4, 1, 0, [(0, 0)]), none, none, some ((.ireturn, 1), 0, 0, 0, [])],
  [some ((.aload_n 3, 1), 3, 0, 0, []), some ((.invokevirtual 124, 3), 5, 1, 0, [(0, 0)]), none, none, some ((.ireturn, 1), 0, 0, 0, []), some ((.ldc 80, 2), 0, 0, (-1000000001), []), none, some ((.ireturn, 1), 0, 0, 0, [])]]
def T_X9_as : Tab := [
  [some ((.aload_n 0, 1), 0, 0, 0, []), some ((.iload_n 1, 1), 1, 0, 0, []), some ((.invokevirtual 89, 3), 111, 2, 0, [(0, 9)]), none, none, some ((.ifCond .eq 10, 3), 15, 0, 0, []), none, none, some ((.iload_n 2, 1), 2, 0, 0, []), some ((.invokestatic 73, 3), 114, 1, 0, []), none, none, some ((.ifCond .ne 6, 3), 18, 0, 0, []), none, none, some ((.ldc 80, 2), 0, 0, (-1000000001), [])],
  [none, some ((.ireturn, 1), 0, 0, 0, []), some ((.aload_n 0, 1), 0, 0, 0, []), some ((.getfield 28, 3), 9, 2, 0, []), none, none, some ((.getfield 92, 3), 1, 1, 0, []), none, none, some ((.iload_n 1, 1), 1, 0, 0, []), some ((.aaload, 1), 0, 0, 0, []), some ((.astore_n 3, 1), 3, 0, 0, []), some ((.aload_n 3, 1), 3, 0, 0, []), some ((.iload_n 2, 1), 2, 0, 0, []), some ((.invokevirtual 127, 3), 1, 2, 0, [(0, 0)]), none],
  [none, some ((.ifCond .eq 10, 3), 43, 0, 0, []), none, none, some ((.aload_n 3, 1), 3, 0, 0, []), some ((.getfield 104, 3), 0, 2, 0, []), none, none, some ((.goto 5, 3), 45, 0, 0, []), none, none, some ((.ldc 130, 2), 0, 0, (-1000000012), []), none, some ((.ireturn, 1), 0, 0, 0, [])]]
def T_X9_turns : Tab := [
  [some ((.aload_n 0, 1), 0, 0, 0, []), some ((.iload_n 1, 1), 1, 0, 0, []), some ((.invokevirtual 89, 3), 111, 2, 0, [(0, 9)]), none, none, some ((.ifCond .eq 10, 3), 15, 0, 0, []), none, none, some ((.iload_n 2, 1), 2, 0, 0, []), some ((.invokestatic 73, 3), 114, 1, 0, []), none, none, some ((.ifCond .ne 6, 3), 18, 0, 0, []), none, none, some ((.ldc 80, 2), 0, 0, (-1000000001), [])],
  [none, some ((.ireturn, 1), 0, 0, 0, []), some ((.aload_n 0, 1), 0, 0, 0, []), some ((.getfield 28, 3), 9, 2, 0, []), none, none, some ((.getfield 92, 3), 1, 1, 0, []), none, none, some ((.iload_n 1, 1), 1, 0, 0, []), some ((.aaload, 1), 0, 0, 0, []), some ((.astore_n 3, 1), 3, 0, 0, []), some ((.aload_n 3, 1), 3, 0, 0, []), some ((.getfield 96, 3), 0, 0, 0, []), none, none],
  [some ((.istore 4, 2), 4, 0, 0, []), none, some ((.aload_n 3, 1), 3, 0, 0, []), some ((.iload_n 2, 1), 2, 0, 0, []), some ((.putfield 96, 3), 0, 0, 0, []), none, none, some ((.iload 4, 2), 4, 0, 0, []), none, some ((.ireturn, 1), 0, 0, 0, [])]]
def T_X9_set : Tab := [
  [some ((.aload_n 0, 1), 0, 0, 0, []), some ((.iload_n 1, 1), 1, 0, 0, []), some ((.invokevirtual 89, 3), 111, 2, 0, [(0, 9)]), none, none, some ((.ifCond .eq 20, 3), 25, 0, 0, []), none, none, some ((.iload_n 2, 1), 2, 0, 0, []), some ((.iconst 1, 1), 0, 0, 1, []), some ((.if_icmp .lt 15, 3), 25, 0, 0, []), none, none, some ((.iload_n 2, 1), 2, 0, 0, []), some ((.iconst 3, 1), 0, 0, 3, []), some ((.if_icmp .gt 10, 3), 25, 0, 0, [])],
  [none, none, some ((.iload_n 3, 1), 3, 0, 0, []), some ((.invokestatic 77, 3), 113, 1, 0, []), none, none, some ((.ifCond .ne 6, 3), 28, 0, 0, []), none, none, some ((.ldc 80, 2), 0, 0, (-1000000001), []), none, some ((.ireturn, 1), 0, 0, 0, []), some ((.aload_n 0, 1), 0, 0, 0, []), some ((.getfield 28, 3), 9, 2, 0, []), none, none],
  [some ((.getfield 92, 3), 1, 1, 0, []), none, none, some ((.iload_n 1, 1), 1, 0, 0, []), some ((.aaload, 1), 0, 0, 0, []), some ((.astore 4, 2), 4, 0, 0, []), none, some ((.iload_n 2, 1), 2, 0, 0, []), some ((.iconst 1, 1), 0, 0, 1, []), some ((.if_icmp .ne 19, 3), 60, 0, 0, []), none, none, some ((.aload 4, 2), 4, 0, 0, []), none, some ((.getfield 101, 3), 0, 1, 0, []), none],
  [none, some ((.istore 5, 2), 5, 0, 0, []), none, some ((.aload 4, 2), 4, 0, 0, []), none, some ((.iload_n 3, 1), 3, 0, 0, []), some ((.putfield 101, 3), 0, 1, 0, []), none, none, some ((.goto 37, 3), 94, 0, 0, []), none, none, some ((.iload_n 2, 1), 2, 0, 0, []), some ((.iconst 2, 1), 0, 0, 2, []), some ((.if_icmp .ne 19, 3), 81, 0, 0, []), none],
  [none, some ((.aload 4, 2), 4, 0, 0, []), none, some ((.getfield 104, 3), 0, 2, 0, []), none, none, some ((.istore 5, 2), 5, 0, 0, []), none, some ((.aload 4, 2), 4, 0, 0, []), none, some ((.iload_n 3, 1), 3, 0, 0, []), some ((.putfield 104, 3), 0, 2, 0, []), none, none, some ((.goto 16, 3), 94, 0, 0, []), none],
  [none, some ((.aload 4, 2), 4, 0, 0, []), none, some ((.getfield 107, 3), 0, 3, 0, []), none, none, some ((.istore 5, 2), 5, 0, 0, []), none, some ((.aload 4, 2), 4, 0, 0, []), none, some ((.iload_n 3, 1), 3, 0, 0, []), some ((.putfield 107, 3), 0, 3, 0, []), none, none, some ((.iload 5, 2), 5, 0, 0, []), none],
  [some ((.ireturn, 1), 0, 0, 0, [])]]
def T_X9_carry : Tab := [
  [some ((.iload_n 1, 1), 1, 0, 0, []), some ((.ifCond .lt 9, 3), 10, 0, 0, []), none, none, some ((.iload_n 1, 1), 1, 0, 0, []), some ((.bipush 100, 2), 0, 0, 100, []), none, some ((.if_icmp .le 6, 3), 13, 0, 0, []), none, none, some ((.ldc 80, 2), 0, 0, (-1000000001), []), none, some ((.ireturn, 1), 0, 0, 0, []), some ((.aload_n 0, 1), 0, 0, 0, []), some ((.getfield 28, 3), 9, 2, 0, []), none],
  [none, some ((.getfield 131, 3), 1, 5, 0, []), none, none, some ((.istore_n 2, 1), 2, 0, 0, []), some ((.aload_n 0, 1), 0, 0, 0, []), some ((.getfield 28, 3), 9, 2, 0, []), none, none, some ((.iload_n 1, 1), 1, 0, 0, []), some ((.putfield 131, 3), 1, 5, 0, []), none, none, some ((.iload_n 2, 1), 2, 0, 0, []), some ((.ireturn, 1), 0, 0, 0, [])]]
def T_X9_deal : Tab := [
  [some ((.iload_n 1, 1), 1, 0, 0, []), some ((.iconst 1, 1), 0, 0, 1, []), some ((.if_icmp .lt 9, 3), 11, 0, 0, []), none, none, some ((.iload_n 1, 1), 1, 0, 0, []), some ((.bipush 10, 2), 0, 0, 10, []), none, some ((.if_icmp .le 6, 3), 14, 0, 0, []), none, none, some ((.ldc 80, 2), 0, 0, (-1000000001), []), none, some ((.ireturn, 1), 0, 0, 0, []), some ((.iconst 0, 1), 0, 0, 0, []), some ((.istore_n 2, 1), 2, 0, 0, [])],
  [some ((.iload_n 2, 1), 2, 0, 0, []), some ((.iload_n 1, 1), 1, 0, 0, []), some ((.if_icmp .ge 83, 3), 101, 0, 0, []), none, none, some ((.aload_n 0, 1), 0, 0, 0, []), some ((.getfield 28, 3), 9, 2, 0, []), none, none, some ((.getfield 81, 3), 1, 2, 0, []), none, none, some ((.bipush 10, 2), 0, 0, 10, []), none, some ((.if_icmp .ge 71, 3), 101, 0, 0, []), none],
  [none, some ((.aload_n 0, 1), 0, 0, 0, []), some ((.getfield 28, 3), 9, 2, 0, []), none, none, some ((.invokevirtual 134, 3), 10, 1, 0, [(0, 1)]), none, none, some ((.bipush 6, 2), 0, 0, 6, []), none, some ((.irem, 1), 0, 0, 0, []), some ((.istore_n 3, 1), 3, 0, 0, []), some ((.aload_n 0, 1), 0, 0, 0, []), some ((.getfield 28, 3), 9, 2, 0, []), none, none],
  [some ((.invokevirtual 134, 3), 10, 1, 0, [(0, 1)]), none, none, some ((.bipush 8, 2), 0, 0, 8, []), none, some ((.irem, 1), 0, 0, 0, []), some ((.istore 4, 2), 4, 0, 0, []), none, some ((.aload_n 0, 1), 0, 0, 0, []), some ((.getfield 28, 3), 9, 2, 0, []), none, none, some ((.invokevirtual 134, 3), 10, 1, 0, [(0, 1)]), none, none, some ((.bipush 8, 2), 0, 0, 8, [])],
  [none, some ((.irem, 1), 0, 0, 0, []), some ((.istore 5, 2), 5, 0, 0, []), none, some ((.aload_n 0, 1), 0, 0, 0, []), some ((.getfield 28, 3), 9, 2, 0, []), none, none, some ((.invokevirtual 134, 3), 10, 1, 0, [(0, 1)]), none, none, some ((.bipush 8, 2), 0, 0, 8, []), none, some ((.irem, 1), 0, 0, 0, []), some ((.istore 6, 2), 6, 0, 0, []), none],
  [some ((.aload_n 0, 1), 0, 0, 0, []), some ((.getfield 28, 3), 9, 2, 0, []), none, none, some ((.iload_n 3, 1), 3, 0, 0, []), some ((.iload 4, 2), 4, 0, 0, []), none, some ((.iload 5, 2), 5, 0, 0, []), none, some ((.iload 6, 2), 6, 0, 0, []), none, some ((.invokevirtual 85, 3), 8, 5, 0, [(0, 1)]), none, none, some ((.pop, 1), 0, 0, 0, []), some ((.iinc 2 1, 3), 2, 0, 1, [])],
  [none, none, some ((.goto (-82), 3), 16, 0, 0, []), none, none, some ((.iload_n 2, 1), 2, 0, 0, []), some ((.ireturn, 1), 0, 0, 0, [])]]
def T_X9_seed : Tab := [
  [some ((.aload_n 0, 1), 0, 0, 0, []), some ((.getfield 28, 3), 9, 2, 0, []), none, none, some ((.getfield 137, 3), 1, 11, 0, []), none, none, some ((.istore_n 2, 1), 2, 0, 0, []), some ((.aload_n 0, 1), 0, 0, 0, []), some ((.getfield 28, 3), 9, 2, 0, []), none, none, some ((.iload_n 1, 1), 1, 0, 0, []), some ((.putfield 137, 3), 1, 11, 0, []), none, none],
  [some ((.iload_n 2, 1), 2, 0, 0, []), some ((.ireturn, 1), 0, 0, 0, [])]]
def T_X9_one : Tab := [
  [some ((.iload_n 1, 1), 1, 0, 0, []), some ((.invokestatic 77, 3), 113, 1, 0, []), none, none, some ((.ifCond .eq 10, 3), 14, 0, 0, []), none, none, some ((.iload_n 2, 1), 2, 0, 0, []), some ((.invokestatic 77, 3), 113, 1, 0, []), none, none, some ((.ifCond .ne 6, 3), 17, 0, 0, []), none, none, some ((.ldc 80, 2), 0, 0, (-1000000001), []), none],
  [some ((.ireturn, 1), 0, 0, 0, []), some ((.aload_n 0, 1), 0, 0, 0, []), some ((.getfield 28, 3), 9, 2, 0, []), none, none, some ((.getfield 140, 3), 1, 4, 0, []), none, none, some ((.bipush 9, 2), 0, 0, 9, []), none, some ((.if_icmp .lt 6, 3), 32, 0, 0, []), none, none, some ((.ldc 84, 2), 0, 0, (-1000000003), []), none, some ((.ireturn, 1), 0, 0, 0, [])],
  [some ((.aload_n 0, 1), 0, 0, 0, []), some ((.getfield 28, 3), 9, 2, 0, []), none, none, some ((.iload_n 1, 1), 1, 0, 0, []), some ((.iload_n 2, 1), 2, 0, 0, []), some ((.invokevirtual 143, 3), 9, 3, 0, [(0, 1)]), none, none, some ((.ireturn, 1), 0, 0, 0, [])]]
def T_X9_folk : Tab := [
  [some ((.aload_n 0, 1), 0, 0, 0, []), some ((.iload_n 1, 1), 1, 0, 0, []), some ((.invokevirtual 146, 3), 112, 2, 0, [(0, 9)]), none, none, some ((.ifCond .ne 6, 3), 11, 0, 0, []), none, none, some ((.ldc 80, 2), 0, 0, (-1000000001), []), none, some ((.ireturn, 1), 0, 0, 0, []), some ((.aload_n 0, 1), 0, 0, 0, []), some ((.getfield 28, 3), 9, 2, 0, []), none, none, some ((.getfield 149, 3), 1, 3, 0, [])],
  [none, none, some ((.iload_n 1, 1), 1, 0, 0, []), some ((.aaload, 1), 0, 0, 0, []), some ((.astore_n 3, 1), 3, 0, 0, []), some ((.iload_n 2, 1), 2, 0, 0, []), some ((.tableswitch 71 0 4 #[34, 39, 44, 49, 54], 34), 93, 0, 0, [(0, 56), (1, 61), (2, 66), (3, 71), (4, 76)]), none, none, none, none, none, none, none, none, none],
  [none, none, none, none, none, none, none, none, none, none, none, none, none, none, none, none],
  [none, none, none, none, none, none, none, none, some ((.aload_n 3, 1), 3, 0, 0, []), some ((.getfield 153, 3), 3, 0, 0, []), none, none, some ((.ireturn, 1), 0, 0, 0, []), some ((.aload_n 3, 1), 3, 0, 0, []), some ((.getfield 158, 3), 3, 1, 0, []), none],
  [none, some ((.ireturn, 1), 0, 0, 0, []), some ((.aload_n 3, 1), 3, 0, 0, []), some ((.getfield 161, 3), 3, 2, 0, []), none, none, some ((.ireturn, 1), 0, 0, 0, []), some ((.aload_n 3, 1), 3, 0, 0, []), some ((.getfield 164, 3), 3, 3, 0, []), none, none, some ((.ireturn, 1), 0, 0, 0, []), some ((.aload_n 0, 1), 0, 0, 0, []), some ((.getfield 28, 3), 9, 2, 0, []), none, none],
  [some ((.aload_n 3, 1), 3, 0, 0, []), some ((.aload_n 0, 1), 0, 0, 0, []), some ((.getfield 28, 3), 9, 2, 0, []), none, none, some ((.iconst 0, 1), 0, 0, 0, []), some ((.invokevirtual 167, 3), 11, 2, 0, [(0, 1)]), none, none, some ((.invokevirtual 171, 3), 12, 3, 0, [(0, 1)]), none, none, some ((.ireturn, 1), 0, 0, 0, []), some ((.ldc 80, 2), 0, 0, (-1000000001), []), none, some ((.ireturn, 1), 0, 0, 0, [])]]
def T_X9_sends : Tab := [
  [some ((.aload_n 0, 1), 0, 0, 0, []), some ((.iload_n 1, 1), 1, 0, 0, []), some ((.invokevirtual 146, 3), 112, 2, 0, [(0, 9)]), none, none, some ((.ifCond .eq 24, 3), 29, 0, 0, []), none, none, some ((.iload_n 2, 1), 2, 0, 0, []), some ((.ifCond .lt 20, 3), 29, 0, 0, []), none, none, some ((.iload_n 2, 1), 2, 0, 0, []), some ((.iconst 3, 1), 0, 0, 3, []), some ((.if_icmp .gt 15, 3), 29, 0, 0, []), none],
  [none, some ((.iload_n 3, 1), 3, 0, 0, []), some ((.ifCond .lt 11, 3), 29, 0, 0, []), none, none, some ((.iload_n 3, 1), 3, 0, 0, []), some ((.iload_n 2, 1), 2, 0, 0, []), some ((.invokestatic 175, 3), 117, 1, 0, []), none, none, some ((.if_icmp .le 6, 3), 32, 0, 0, []), none, none, some ((.ldc 80, 2), 0, 0, (-1000000001), []), none, some ((.ireturn, 1), 0, 0, 0, [])],
  [some ((.aload_n 0, 1), 0, 0, 0, []), some ((.getfield 28, 3), 9, 2, 0, []), none, none, some ((.getfield 149, 3), 1, 3, 0, []), none, none, some ((.iload_n 1, 1), 1, 0, 0, []), some ((.aaload, 1), 0, 0, 0, []), some ((.astore 4, 2), 4, 0, 0, []), none, some ((.iload_n 2, 1), 2, 0, 0, []), some ((.ifCond .ne 19, 3), 63, 0, 0, []), none, none, some ((.aload 4, 2), 4, 0, 0, [])],
  [none, some ((.getfield 153, 3), 3, 0, 0, []), none, none, some ((.istore 5, 2), 5, 0, 0, []), none, some ((.aload 4, 2), 4, 0, 0, []), none, some ((.iload_n 3, 1), 3, 0, 0, []), some ((.putfield 153, 3), 3, 0, 0, []), none, none, some ((.goto 58, 3), 118, 0, 0, []), none, none, some ((.iload_n 2, 1), 2, 0, 0, [])],
  [some ((.iconst 1, 1), 0, 0, 1, []), some ((.if_icmp .ne 19, 3), 84, 0, 0, []), none, none, some ((.aload 4, 2), 4, 0, 0, []), none, some ((.getfield 158, 3), 3, 1, 0, []), none, none, some ((.istore 5, 2), 5, 0, 0, []), none, some ((.aload 4, 2), 4, 0, 0, []), none, some ((.iload_n 3, 1), 3, 0, 0, []), some ((.putfield 158, 3), 3, 1, 0, []), none],
  [none, some ((.goto 37, 3), 118, 0, 0, []), none, none, some ((.iload_n 2, 1), 2, 0, 0, []), some ((.iconst 2, 1), 0, 0, 2, []), some ((.if_icmp .ne 19, 3), 105, 0, 0, []), none, none, some ((.aload 4, 2), 4, 0, 0, []), none, some ((.getfield 161, 3), 3, 2, 0, []), none, none, some ((.istore 5, 2), 5, 0, 0, []), none],
  [some ((.aload 4, 2), 4, 0, 0, []), none, some ((.iload_n 3, 1), 3, 0, 0, []), some ((.putfield 161, 3), 3, 2, 0, []), none, none, some ((.goto 16, 3), 118, 0, 0, []), none, none, some ((.aload 4, 2), 4, 0, 0, []), none, some ((.getfield 164, 3), 3, 3, 0, []), none, none, some ((.istore 5, 2), 5, 0, 0, []), none],
  [some ((.aload 4, 2), 4, 0, 0, []), none, some ((.iload_n 3, 1), 3, 0, 0, []), some ((.putfield 164, 3), 3, 3, 0, []), none, none, some ((.iload 5, 2), 5, 0, 0, []), none, some ((.ireturn, 1), 0, 0, 0, [])]]
def T_X9_who : Tab := [
  [some ((.iload_n 1, 1), 1, 0, 0, []), some ((.invokestatic 77, 3), 113, 1, 0, []), none, none, some ((.ifCond .eq 14, 3), 18, 0, 0, []), none, none, some ((.aload_n 0, 1), 0, 0, 0, []), some ((.getfield 28, 3), 9, 2, 0, []), none, none, some ((.iload_n 1, 1), 1, 0, 0, []), some ((.invokevirtual 178, 3), 14, 2, 0, [(0, 1)]), none, none, some ((.goto 5, 3), 20, 0, 0, [])],
  [none, none, some ((.ldc 80, 2), 0, 0, (-1000000001), []), none, some ((.ireturn, 1), 0, 0, 0, [])]]
def T_X9_nights : Tab := [
  [some ((.iload_n 1, 1), 1, 0, 0, []), some ((.iconst 1, 1), 0, 0, 1, []), some ((.if_icmp .lt 9, 3), 11, 0, 0, []), none, none, some ((.iload_n 1, 1), 1, 0, 0, []), some ((.bipush 100, 2), 0, 0, 100, []), none, some ((.if_icmp .le 6, 3), 14, 0, 0, []), none, none, some ((.ldc 80, 2), 0, 0, (-1000000001), []), none, some ((.ireturn, 1), 0, 0, 0, []), some ((.aload_n 0, 1), 0, 0, 0, []), some ((.getfield 28, 3), 9, 2, 0, [])],
  [none, none, some ((.getfield 181, 3), 1, 6, 0, []), none, none, some ((.istore_n 2, 1), 2, 0, 0, []), some ((.iload_n 1, 1), 1, 0, 0, []), some ((.sipush 9999, 3), 0, 0, 9999, []), none, none, some ((.aload_n 0, 1), 0, 0, 0, []), some ((.getfield 28, 3), 9, 2, 0, []), none, none, some ((.getfield 114, 3), 1, 10, 0, []), none],
  [none, some ((.isub, 1), 0, 0, 0, []), some ((.invokestatic 184, 3), 0, 108, 0, []), none, none, some ((.istore_n 3, 1), 3, 0, 0, []), some ((.iconst 0, 1), 0, 0, 0, []), some ((.istore 4, 2), 4, 0, 0, []), none, some ((.iload 4, 2), 4, 0, 0, []), none, some ((.iload_n 3, 1), 3, 0, 0, []), some ((.if_icmp .ge 16, 3), 60, 0, 0, []), none, none, some ((.aload_n 0, 1), 0, 0, 0, [])],
  [some ((.getfield 28, 3), 9, 2, 0, []), none, none, some ((.invokevirtual 189, 3), 19, 1, 0, [(0, 1)]), none, none, some ((.iinc 4 1, 3), 4, 0, 1, []), none, none, some ((.goto (-16), 3), 41, 0, 0, []), none, none, some ((.aload_n 0, 1), 0, 0, 0, []), some ((.getfield 28, 3), 9, 2, 0, []), none, none],
  [some ((.getfield 181, 3), 1, 6, 0, []), none, none, some ((.iload_n 2, 1), 2, 0, 0, []), some ((.isub, 1), 0, 0, 0, []), some ((.ireturn, 1), 0, 0, 0, [])]]
def T_X9_land : Tab := [
  [some ((.iload_n 1, 1), 1, 0, 0, []), some ((.tableswitch 99 0 6 #[43, 51, 59, 67, 75, 83, 91], 43), 100, 0, 0, [(0, 44), (1, 52), (2, 60), (3, 68), (4, 76), (5, 84), (6, 92)]), none, none, none, none, none, none, none, none, none, none, none, none, none, none],
  [none, none, none, none, none, none, none, none, none, none, none, none, none, none, none, none],
  [none, none, none, none, none, none, none, none, none, none, none, none, some ((.aload_n 0, 1), 0, 0, 0, []), some ((.getfield 28, 3), 9, 2, 0, []), none, none],
  [some ((.getfield 181, 3), 1, 6, 0, []), none, none, some ((.ireturn, 1), 0, 0, 0, []), some ((.aload_n 0, 1), 0, 0, 0, []), some ((.getfield 28, 3), 9, 2, 0, []), none, none, some ((.getfield 192, 3), 1, 7, 0, []), none, none, some ((.ireturn, 1), 0, 0, 0, []), some ((.aload_n 0, 1), 0, 0, 0, []), some ((.getfield 28, 3), 9, 2, 0, []), none, none],
  [some ((.getfield 195, 3), 1, 8, 0, []), none, none, some ((.ireturn, 1), 0, 0, 0, []), some ((.aload_n 0, 1), 0, 0, 0, []), some ((.getfield 28, 3), 9, 2, 0, []), none, none, some ((.getfield 198, 3), 1, 9, 0, []), none, none, some ((.ireturn, 1), 0, 0, 0, []), some ((.aload_n 0, 1), 0, 0, 0, []), some ((.getfield 28, 3), 9, 2, 0, []), none, none],
  [some ((.invokevirtual 201, 3), 16, 1, 0, [(0, 1)]), none, none, some ((.ireturn, 1), 0, 0, 0, []), some ((.aload_n 0, 1), 0, 0, 0, []), some ((.getfield 28, 3), 9, 2, 0, []), none, none, some ((.invokevirtual 204, 3), 17, 1, 0, [(0, 1)]), none, none, some ((.ireturn, 1), 0, 0, 0, []), some ((.aload_n 0, 1), 0, 0, 0, []), some ((.getfield 28, 3), 9, 2, 0, []), none, none],
  [some ((.getfield 140, 3), 1, 4, 0, []), none, none, some ((.ireturn, 1), 0, 0, 0, []), some ((.ldc 80, 2), 0, 0, (-1000000001), []), none, some ((.ireturn, 1), 0, 0, 0, [])]]
def T_X9_reach : Tab := [
  [some ((.iload_n 1, 1), 1, 0, 0, []), some ((.invokestatic 77, 3), 113, 1, 0, []), none, none, some ((.ifCond .eq 15, 3), 19, 0, 0, []), none, none, some ((.aload_n 0, 1), 0, 0, 0, []), some ((.getfield 47, 3), 9, 6, 0, []), none, none, some ((.iload_n 1, 1), 1, 0, 0, []), some ((.iconst (-1), 1), 0, 0, (-1), []), some ((.invokevirtual 207, 3), 61, 3, 0, [(0, 8)]), none, none],
  [some ((.goto 5, 3), 21, 0, 0, []), none, none, some ((.ldc 80, 2), 0, 0, (-1000000001), []), none, some ((.ireturn, 1), 0, 0, 0, [])]]
def T_X9_way : Tab := [
  [some ((.iload_n 1, 1), 1, 0, 0, []), some ((.invokestatic 77, 3), 113, 1, 0, []), none, none, some ((.ifCond .eq 10, 3), 14, 0, 0, []), none, none, some ((.iload_n 2, 1), 2, 0, 0, []), some ((.invokestatic 77, 3), 113, 1, 0, []), none, none, some ((.ifCond .ne 6, 3), 17, 0, 0, []), none, none, some ((.ldc 80, 2), 0, 0, (-1000000001), []), none],
  [some ((.ireturn, 1), 0, 0, 0, []), some ((.aload_n 0, 1), 0, 0, 0, []), some ((.getfield 47, 3), 9, 6, 0, []), none, none, some ((.iload_n 1, 1), 1, 0, 0, []), some ((.iload_n 2, 1), 2, 0, 0, []), some ((.invokevirtual 210, 3), 62, 3, 0, [(0, 8)]), none, none, some ((.istore_n 3, 1), 3, 0, 0, []), some ((.iload_n 3, 1), 3, 0, 0, []), some ((.ifCond .ge 8, 3), 36, 0, 0, []), none, none, some ((.ldc 213, 2), 0, 0, (-1000000005), [])],
  [none, some ((.goto 4, 3), 37, 0, 0, []), none, none, some ((.iload_n 3, 1), 3, 0, 0, []), some ((.ireturn, 1), 0, 0, 0, [])]]
def T_X9_lacks : Tab := [
  [some ((.aload_n 0, 1), 0, 0, 0, []), some ((.getfield 47, 3), 9, 6, 0, []), none, none, some ((.invokevirtual 214, 3), 65, 1, 0, [(0, 8)]), none, none, some ((.ireturn, 1), 0, 0, 0, [])]]
def T_X9_missed : Tab := [
  [some ((.iload_n 1, 1), 1, 0, 0, []), some ((.ifCond .lt 8, 3), 9, 0, 0, []), none, none, some ((.iload_n 1, 1), 1, 0, 0, []), some ((.iconst 1, 1), 0, 0, 1, []), some ((.if_icmp .le 6, 3), 12, 0, 0, []), none, none, some ((.ldc 80, 2), 0, 0, (-1000000001), []), none, some ((.ireturn, 1), 0, 0, 0, []), some ((.aload_n 0, 1), 0, 0, 0, []), some ((.getfield 28, 3), 9, 2, 0, []), none, none],
  [some ((.getfield 81, 3), 1, 2, 0, []), none, none, some ((.ifCond .ne 6, 3), 25, 0, 0, []), none, none, some ((.ldc 213, 2), 0, 0, (-1000000005), []), none, some ((.ireturn, 1), 0, 0, 0, []), some ((.iconst 0, 1), 0, 0, 0, []), some ((.istore_n 2, 1), 2, 0, 0, []), some ((.aload_n 0, 1), 0, 0, 0, []), some ((.getfield 47, 3), 9, 6, 0, []), none, none, some ((.iconst 0, 1), 0, 0, 0, [])],
  [some ((.invokevirtual 217, 3), 63, 2, 0, [(0, 8)]), none, none, some ((.istore_n 3, 1), 3, 0, 0, []), some ((.iconst 1, 1), 0, 0, 1, []), some ((.istore 4, 2), 4, 0, 0, []), none, some ((.iload 4, 2), 4, 0, 0, []), none, some ((.aload_n 0, 1), 0, 0, 0, []), some ((.getfield 28, 3), 9, 2, 0, []), none, none, some ((.getfield 81, 3), 1, 2, 0, []), none, none],
  [some ((.if_icmp .ge 32, 3), 80, 0, 0, []), none, none, some ((.aload_n 0, 1), 0, 0, 0, []), some ((.getfield 47, 3), 9, 6, 0, []), none, none, some ((.iload 4, 2), 4, 0, 0, []), none, some ((.invokevirtual 217, 3), 63, 2, 0, [(0, 8)]), none, none, some ((.istore 5, 2), 5, 0, 0, []), none, some ((.iload 5, 2), 5, 0, 0, []), none],
  [some ((.iload_n 3, 1), 3, 0, 0, []), some ((.if_icmp .ge 9, 3), 74, 0, 0, []), none, none, some ((.iload 4, 2), 4, 0, 0, []), none, some ((.istore_n 2, 1), 2, 0, 0, []), some ((.iload 5, 2), 5, 0, 0, []), none, some ((.istore_n 3, 1), 3, 0, 0, []), some ((.iinc 4 1, 3), 4, 0, 1, []), none, none, some ((.goto (-38), 3), 39, 0, 0, []), none, none],
  [some ((.iload_n 1, 1), 1, 0, 0, []), some ((.ifCond .ne 7, 3), 88, 0, 0, []), none, none, some ((.iload_n 2, 1), 2, 0, 0, []), some ((.goto 4, 3), 89, 0, 0, []), none, none, some ((.iload_n 3, 1), 3, 0, 0, []), some ((.ireturn, 1), 0, 0, 0, [])]]
def T_X9_behind : Tab := [
  [some ((.iload_n 1, 1), 1, 0, 0, []), some ((.ifCond .lt 26, 3), 27, 0, 0, []), none, none, some ((.iload_n 1, 1), 1, 0, 0, []), some ((.bipush 100, 2), 0, 0, 100, []), none, some ((.if_icmp .gt 20, 3), 27, 0, 0, []), none, none, some ((.iload_n 2, 1), 2, 0, 0, []), some ((.ifCond .lt 16, 3), 27, 0, 0, []), none, none, some ((.iload_n 2, 1), 2, 0, 0, []), some ((.iconst 3, 1), 0, 0, 3, [])],
  [some ((.aload_n 0, 1), 0, 0, 0, []), some ((.getfield 28, 3), 9, 2, 0, []), none, none, some ((.getfield 140, 3), 1, 4, 0, []), none, none, some ((.iadd, 1), 0, 0, 0, []), some ((.if_icmp .lt 6, 3), 30, 0, 0, []), none, none, some ((.ldc 80, 2), 0, 0, (-1000000001), []), none, some ((.ireturn, 1), 0, 0, 0, []), some ((.aload_n 0, 1), 0, 0, 0, []), some ((.getfield 32, 3), 9, 3, 0, [])],
  [none, none, some ((.aload_n 0, 1), 0, 0, 0, []), some ((.getfield 28, 3), 9, 2, 0, []), none, none, some ((.invokevirtual 220, 3), 7, 2, 0, [(0, 1)]), none, none, some ((.aload_n 0, 1), 0, 0, 0, []), some ((.getfield 32, 3), 9, 3, 0, []), none, none, some ((.iload_n 1, 1), 1, 0, 0, []), some ((.invokevirtual 223, 3), 18, 2, 0, [(0, 1)]), none],
  [none, some ((.iload_n 2, 1), 2, 0, 0, []), some ((.tableswitch 50 0 2 #[26, 34, 42], 26), 100, 0, 0, [(0, 76), (1, 84), (2, 92)]), none, none, none, none, none, none, none, none, none, none, none, none, none],
  [none, none, none, none, none, none, none, none, none, none, none, none, some ((.aload_n 0, 1), 0, 0, 0, []), some ((.getfield 32, 3), 9, 3, 0, []), none, none],
  [some ((.getfield 181, 3), 1, 6, 0, []), none, none, some ((.ireturn, 1), 0, 0, 0, []), some ((.aload_n 0, 1), 0, 0, 0, []), some ((.getfield 32, 3), 9, 3, 0, []), none, none, some ((.getfield 192, 3), 1, 7, 0, []), none, none, some ((.ireturn, 1), 0, 0, 0, []), some ((.aload_n 0, 1), 0, 0, 0, []), some ((.getfield 32, 3), 9, 3, 0, []), none, none],
  [some ((.invokevirtual 201, 3), 16, 1, 0, [(0, 1)]), none, none, some ((.ireturn, 1), 0, 0, 0, []), some ((.aload_n 0, 1), 0, 0, 0, []), some ((.getfield 32, 3), 9, 3, 0, []), none, none, some ((.getfield 149, 3), 1, 3, 0, []), none, none, some ((.iload_n 2, 1), 2, 0, 0, []), some ((.iconst 3, 1), 0, 0, 3, []), some ((.isub, 1), 0, 0, 0, []), some ((.aaload, 1), 0, 0, 0, []), some ((.getfield 153, 3), 3, 0, 0, [])],
  [none, none, some ((.ireturn, 1), 0, 0, 0, [])]]
def T_X9_home : Tab := [
  [some ((.aload_n 0, 1), 0, 0, 0, []), some ((.iload_n 1, 1), 1, 0, 0, []), some ((.invokevirtual 146, 3), 112, 2, 0, [(0, 9)]), none, none, some ((.ifCond .ne 6, 3), 11, 0, 0, []), none, none, some ((.ldc 80, 2), 0, 0, (-1000000001), []), none, some ((.ireturn, 1), 0, 0, 0, []), some ((.aload_n 0, 1), 0, 0, 0, []), some ((.getfield 32, 3), 9, 3, 0, []), none, none, some ((.aload_n 0, 1), 0, 0, 0, [])],
  [some ((.getfield 28, 3), 9, 2, 0, []), none, none, some ((.invokevirtual 220, 3), 7, 2, 0, [(0, 1)]), none, none, some ((.aload_n 0, 1), 0, 0, 0, []), some ((.getfield 32, 3), 9, 3, 0, []), none, none, some ((.iload_n 1, 1), 1, 0, 0, []), some ((.sipush 200, 3), 0, 0, 200, []), none, none, some ((.invokevirtual 227, 3), 25, 3, 0, [(0, 1)]), none],
  [none, some ((.istore_n 2, 1), 2, 0, 0, []), some ((.iload_n 2, 1), 2, 0, 0, []), some ((.ifCond .ge 8, 3), 43, 0, 0, []), none, none, some ((.ldc 213, 2), 0, 0, (-1000000005), []), none, some ((.goto 4, 3), 44, 0, 0, []), none, none, some ((.iload_n 2, 1), 2, 0, 0, []), some ((.ireturn, 1), 0, 0, 0, [])]]
def T_X9_brought : Tab := [
  [some ((.aload_n 0, 1), 0, 0, 0, []), some ((.iload_n 1, 1), 1, 0, 0, []), some ((.invokevirtual 146, 3), 112, 2, 0, [(0, 9)]), none, none, some ((.ifCond .eq 12, 3), 17, 0, 0, []), none, none, some ((.iload_n 2, 1), 2, 0, 0, []), some ((.ifCond .lt 8, 3), 17, 0, 0, []), none, none, some ((.iload_n 2, 1), 2, 0, 0, []), some ((.iconst 2, 1), 0, 0, 2, []), some ((.if_icmp .le 6, 3), 20, 0, 0, []), none],
  [none, some ((.ldc 80, 2), 0, 0, (-1000000001), []), none, some ((.ireturn, 1), 0, 0, 0, []), some ((.iconst (-1), 1), 0, 0, (-1), []), some ((.istore_n 3, 1), 3, 0, 0, []), some ((.iconst 0, 1), 0, 0, 0, []), some ((.istore 4, 2), 4, 0, 0, []), none, some ((.bipush 31, 2), 0, 0, 31, []), none, some ((.istore 5, 2), 5, 0, 0, []), none, some ((.iconst 0, 1), 0, 0, 0, []), some ((.istore 6, 2), 6, 0, 0, []), none],
  [some ((.iload 6, 2), 6, 0, 0, []), none, some ((.aload_n 0, 1), 0, 0, 0, []), some ((.getfield 28, 3), 9, 2, 0, []), none, none, some ((.getfield 81, 3), 1, 2, 0, []), none, none, some ((.if_icmp .ge 86, 3), 127, 0, 0, []), none, none, some ((.iconst 0, 1), 0, 0, 0, []), some ((.istore 7, 2), 7, 0, 0, []), none, some ((.iload 7, 2), 7, 0, 0, [])],
  [none, some ((.bipush 8, 2), 0, 0, 8, []), none, some ((.if_icmp .ge 70, 3), 121, 0, 0, []), none, none, some ((.iload 5, 2), 5, 0, 0, []), none, some ((.ifCond .le 65, 3), 121, 0, 0, []), none, none, some ((.aload_n 0, 1), 0, 0, 0, []), some ((.getfield 32, 3), 9, 3, 0, []), none, none, some ((.aload_n 0, 1), 0, 0, 0, [])],
  [some ((.getfield 28, 3), 9, 2, 0, []), none, none, some ((.invokevirtual 220, 3), 7, 2, 0, [(0, 1)]), none, none, some ((.aload_n 0, 1), 0, 0, 0, []), some ((.getfield 32, 3), 9, 3, 0, []), none, none, some ((.getfield 92, 3), 1, 1, 0, []), none, none, some ((.iload 6, 2), 6, 0, 0, []), none, some ((.aaload, 1), 0, 0, 0, [])],
  [some ((.iload 7, 2), 7, 0, 0, []), none, some ((.putfield 101, 3), 0, 1, 0, []), none, none, some ((.aload_n 0, 1), 0, 0, 0, []), some ((.getfield 32, 3), 9, 3, 0, []), none, none, some ((.iload_n 1, 1), 1, 0, 0, []), some ((.iload 5, 2), 5, 0, 0, []), none, some ((.iconst 1, 1), 0, 0, 1, []), some ((.isub, 1), 0, 0, 0, []), some ((.invokevirtual 227, 3), 25, 3, 0, [(0, 1)]), none],
  [none, some ((.istore 8, 2), 8, 0, 0, []), none, some ((.iload 8, 2), 8, 0, 0, []), none, some ((.ifCond .lt 14, 3), 115, 0, 0, []), none, none, some ((.iload 6, 2), 6, 0, 0, []), none, some ((.istore_n 3, 1), 3, 0, 0, []), some ((.iload 7, 2), 7, 0, 0, []), none, some ((.istore 4, 2), 4, 0, 0, []), none, some ((.iload 8, 2), 8, 0, 0, [])],
  [none, some ((.istore 5, 2), 5, 0, 0, []), none, some ((.iinc 7 1, 3), 7, 0, 1, []), none, none, some ((.goto (-71), 3), 47, 0, 0, []), none, none, some ((.iinc 6 1, 3), 6, 0, 1, []), none, none, some ((.goto (-92), 3), 32, 0, 0, []), none, none, some ((.iload_n 3, 1), 3, 0, 0, [])],
  [some ((.ifCond .ge 6, 3), 134, 0, 0, []), none, none, some ((.ldc 213, 2), 0, 0, (-1000000005), []), none, some ((.ireturn, 1), 0, 0, 0, []), some ((.iload_n 2, 1), 2, 0, 0, []), some ((.ifCond .ne 7, 3), 142, 0, 0, []), none, none, some ((.iload_n 3, 1), 3, 0, 0, []), some ((.goto 15, 3), 154, 0, 0, []), none, none, some ((.iload_n 2, 1), 2, 0, 0, []), some ((.iconst 1, 1), 0, 0, 1, [])],
  [some ((.if_icmp .ne 8, 3), 152, 0, 0, []), none, none, some ((.iload 4, 2), 4, 0, 0, []), none, some ((.goto 5, 3), 154, 0, 0, []), none, none, some ((.iload 5, 2), 5, 0, 0, []), none, some ((.ireturn, 1), 0, 0, 0, [])]]
def T_X9_belongs : Tab := [
  [some ((.aload_n 0, 1), 0, 0, 0, []), some ((.iload_n 1, 1), 1, 0, 0, []), some ((.invokevirtual 89, 3), 111, 2, 0, [(0, 9)]), none, none, some ((.ifCond .eq 23, 3), 28, 0, 0, []), none, none, some ((.iload_n 2, 1), 2, 0, 0, []), some ((.iconst 1, 1), 0, 0, 1, []), some ((.if_icmp .lt 18, 3), 28, 0, 0, []), none, none, some ((.iload_n 2, 1), 2, 0, 0, []), some ((.bipush 60, 2), 0, 0, 60, []), none],
  [some ((.if_icmp .gt 12, 3), 28, 0, 0, []), none, none, some ((.iload_n 3, 1), 3, 0, 0, []), some ((.ifCond .lt 8, 3), 28, 0, 0, []), none, none, some ((.iload_n 3, 1), 3, 0, 0, []), some ((.iconst 1, 1), 0, 0, 1, []), some ((.if_icmp .le 6, 3), 31, 0, 0, []), none, none, some ((.ldc 80, 2), 0, 0, (-1000000001), []), none, some ((.ireturn, 1), 0, 0, 0, []), some ((.iconst 0, 1), 0, 0, 0, [])],
  [some ((.istore 4, 2), 4, 0, 0, []), none, some ((.iconst (-1), 1), 0, 0, (-1), []), some ((.istore 5, 2), 5, 0, 0, []), none, some ((.iconst 0, 1), 0, 0, 0, []), some ((.istore 6, 2), 6, 0, 0, []), none, some ((.iload 6, 2), 6, 0, 0, []), none, some ((.bipush 8, 2), 0, 0, 8, []), none, some ((.if_icmp .ge 69, 3), 113, 0, 0, []), none, none, some ((.aload_n 0, 1), 0, 0, 0, [])],
  [some ((.getfield 32, 3), 9, 3, 0, []), none, none, some ((.aload_n 0, 1), 0, 0, 0, []), some ((.getfield 28, 3), 9, 2, 0, []), none, none, some ((.invokevirtual 220, 3), 7, 2, 0, [(0, 1)]), none, none, some ((.aload_n 0, 1), 0, 0, 0, []), some ((.getfield 32, 3), 9, 3, 0, []), none, none, some ((.getfield 92, 3), 1, 1, 0, []), none],
  [none, some ((.iload_n 1, 1), 1, 0, 0, []), some ((.aaload, 1), 0, 0, 0, []), some ((.iload 6, 2), 6, 0, 0, []), none, some ((.putfield 104, 3), 0, 2, 0, []), none, none, some ((.aload_n 0, 1), 0, 0, 0, []), some ((.getfield 32, 3), 9, 3, 0, []), none, none, some ((.iload_n 2, 1), 2, 0, 0, []), some ((.invokevirtual 223, 3), 18, 2, 0, [(0, 1)]), none, none],
  [some ((.aload_n 0, 1), 0, 0, 0, []), some ((.getfield 32, 3), 9, 3, 0, []), none, none, some ((.invokevirtual 201, 3), 16, 1, 0, [(0, 1)]), none, none, some ((.invokestatic 230, 3), 217, 1, 0, []), none, none, some ((.istore 7, 2), 7, 0, 0, []), none, some ((.iload 7, 2), 7, 0, 0, []), none, some ((.iload 5, 2), 5, 0, 0, []), none],
  [some ((.if_icmp .le 11, 3), 107, 0, 0, []), none, none, some ((.iload 6, 2), 6, 0, 0, []), none, some ((.istore 4, 2), 4, 0, 0, []), none, some ((.iload 7, 2), 7, 0, 0, []), none, some ((.istore 5, 2), 5, 0, 0, []), none, some ((.iinc 6 1, 3), 6, 0, 1, []), none, none, some ((.goto (-70), 3), 40, 0, 0, []), none],
  [none, some ((.iload_n 3, 1), 3, 0, 0, []), some ((.ifCond .ne 8, 3), 122, 0, 0, []), none, none, some ((.iload 4, 2), 4, 0, 0, []), none, some ((.goto 5, 3), 124, 0, 0, []), none, none, some ((.iload 5, 2), 5, 0, 0, []), none, some ((.ireturn, 1), 0, 0, 0, [])]]
def T_X9_becomes : Tab := [
  [some ((.aload_n 0, 1), 0, 0, 0, []), some ((.iload_n 1, 1), 1, 0, 0, []), some ((.invokevirtual 89, 3), 111, 2, 0, [(0, 9)]), none, none, some ((.ifCond .eq 23, 3), 28, 0, 0, []), none, none, some ((.iload_n 2, 1), 2, 0, 0, []), some ((.iconst 1, 1), 0, 0, 1, []), some ((.if_icmp .lt 18, 3), 28, 0, 0, []), none, none, some ((.iload_n 2, 1), 2, 0, 0, []), some ((.bipush 60, 2), 0, 0, 60, []), none],
  [some ((.if_icmp .gt 12, 3), 28, 0, 0, []), none, none, some ((.iload_n 3, 1), 3, 0, 0, []), some ((.ifCond .lt 8, 3), 28, 0, 0, []), none, none, some ((.iload_n 3, 1), 3, 0, 0, []), some ((.iconst 1, 1), 0, 0, 1, []), some ((.if_icmp .le 6, 3), 31, 0, 0, []), none, none, some ((.ldc 80, 2), 0, 0, (-1000000001), []), none, some ((.ireturn, 1), 0, 0, 0, []), some ((.iconst 0, 1), 0, 0, 0, [])],
  [some ((.istore 4, 2), 4, 0, 0, []), none, some ((.iconst (-1), 1), 0, 0, (-1), []), some ((.istore 5, 2), 5, 0, 0, []), none, some ((.iconst 0, 1), 0, 0, 0, []), some ((.istore 6, 2), 6, 0, 0, []), none, some ((.iload 6, 2), 6, 0, 0, []), none, some ((.bipush 6, 2), 0, 0, 6, []), none, some ((.if_icmp .ge 69, 3), 113, 0, 0, []), none, none, some ((.aload_n 0, 1), 0, 0, 0, [])],
  [some ((.getfield 32, 3), 9, 3, 0, []), none, none, some ((.aload_n 0, 1), 0, 0, 0, []), some ((.getfield 28, 3), 9, 2, 0, []), none, none, some ((.invokevirtual 220, 3), 7, 2, 0, [(0, 1)]), none, none, some ((.aload_n 0, 1), 0, 0, 0, []), some ((.getfield 32, 3), 9, 3, 0, []), none, none, some ((.getfield 92, 3), 1, 1, 0, []), none],
  [none, some ((.iload_n 1, 1), 1, 0, 0, []), some ((.aaload, 1), 0, 0, 0, []), some ((.iload 6, 2), 6, 0, 0, []), none, some ((.putfield 96, 3), 0, 0, 0, []), none, none, some ((.aload_n 0, 1), 0, 0, 0, []), some ((.getfield 32, 3), 9, 3, 0, []), none, none, some ((.iload_n 2, 1), 2, 0, 0, []), some ((.invokevirtual 223, 3), 18, 2, 0, [(0, 1)]), none, none],
  [some ((.aload_n 0, 1), 0, 0, 0, []), some ((.getfield 32, 3), 9, 3, 0, []), none, none, some ((.invokevirtual 201, 3), 16, 1, 0, [(0, 1)]), none, none, some ((.invokestatic 230, 3), 217, 1, 0, []), none, none, some ((.istore 7, 2), 7, 0, 0, []), none, some ((.iload 7, 2), 7, 0, 0, []), none, some ((.iload 5, 2), 5, 0, 0, []), none],
  [some ((.if_icmp .le 11, 3), 107, 0, 0, []), none, none, some ((.iload 6, 2), 6, 0, 0, []), none, some ((.istore 4, 2), 4, 0, 0, []), none, some ((.iload 7, 2), 7, 0, 0, []), none, some ((.istore 5, 2), 5, 0, 0, []), none, some ((.iinc 6 1, 3), 6, 0, 1, []), none, none, some ((.goto (-70), 3), 40, 0, 0, []), none],
  [none, some ((.iload_n 3, 1), 3, 0, 0, []), some ((.ifCond .ne 8, 3), 122, 0, 0, []), none, none, some ((.iload 4, 2), 4, 0, 0, []), none, some ((.goto 5, 3), 124, 0, 0, []), none, none, some ((.iload 5, 2), 5, 0, 0, []), none, some ((.ireturn, 1), 0, 0, 0, [])]]
def T_X9_whose : Tab := [
  [some ((.iload_n 1, 1), 1, 0, 0, []), some ((.invokestatic 235, 3), 115, 1, 0, []), none, none, some ((.ifCond .eq 12, 3), 16, 0, 0, []), none, none, some ((.iload_n 2, 1), 2, 0, 0, []), some ((.ifCond .lt 8, 3), 16, 0, 0, []), none, none, some ((.iload_n 2, 1), 2, 0, 0, []), some ((.iconst 1, 1), 0, 0, 1, []), some ((.if_icmp .le 6, 3), 19, 0, 0, []), none, none],
  [some ((.ldc 80, 2), 0, 0, (-1000000001), []), none, some ((.ireturn, 1), 0, 0, 0, []), some ((.aload_n 0, 1), 0, 0, 0, []), some ((.getfield 53, 3), 9, 7, 0, []), none, none, some ((.iload_n 1, 1), 1, 0, 0, []), some ((.aaload, 1), 0, 0, 0, []), some ((.astore_n 3, 1), 3, 0, 0, []), some ((.aload_n 3, 1), 3, 0, 0, []), some ((.invokevirtual 238, 3), 50, 1, 0, [(0, 5)]), none, none, some ((.ifCond .eq 6, 3), 36, 0, 0, []), none],
  [none, some ((.ldc 242, 2), 0, 0, (-1000000011), []), none, some ((.ireturn, 1), 0, 0, 0, []), some ((.aload_n 0, 1), 0, 0, 0, []), some ((.getfield 28, 3), 9, 2, 0, []), none, none, some ((.getfield 140, 3), 1, 4, 0, []), none, none, some ((.ifCond .ne 6, 3), 49, 0, 0, []), none, none, some ((.ldc 213, 2), 0, 0, (-1000000005), []), none],
  [some ((.ireturn, 1), 0, 0, 0, []), some ((.iconst 0, 1), 0, 0, 0, []), some ((.istore 4, 2), 4, 0, 0, []), none, some ((.iconst (-1), 1), 0, 0, (-1), []), some ((.istore 5, 2), 5, 0, 0, []), none, some ((.iconst 0, 1), 0, 0, 0, []), some ((.istore 6, 2), 6, 0, 0, []), none, some ((.iload 6, 2), 6, 0, 0, []), none, some ((.aload_n 0, 1), 0, 0, 0, []), some ((.getfield 28, 3), 9, 2, 0, []), none, none],
  [some ((.getfield 140, 3), 1, 4, 0, []), none, none, some ((.if_icmp .ge 47, 3), 114, 0, 0, []), none, none, some ((.aload_n 0, 1), 0, 0, 0, []), some ((.getfield 32, 3), 9, 3, 0, []), none, none, some ((.aload_n 0, 1), 0, 0, 0, []), some ((.getfield 28, 3), 9, 2, 0, []), none, none, some ((.invokevirtual 220, 3), 7, 2, 0, [(0, 1)]), none],
  [none, some ((.aload_n 0, 1), 0, 0, 0, []), some ((.getfield 32, 3), 9, 3, 0, []), none, none, some ((.iload 6, 2), 6, 0, 0, []), none, some ((.aload_n 3, 1), 3, 0, 0, []), some ((.invokevirtual 243, 3), 26, 3, 0, [(0, 1)]), none, none, some ((.istore 7, 2), 7, 0, 0, []), none, some ((.iload 7, 2), 7, 0, 0, []), none, some ((.iload 5, 2), 5, 0, 0, [])],
  [none, some ((.if_icmp .le 11, 3), 108, 0, 0, []), none, none, some ((.iload 6, 2), 6, 0, 0, []), none, some ((.istore 4, 2), 4, 0, 0, []), none, some ((.iload 7, 2), 7, 0, 0, []), none, some ((.istore 5, 2), 5, 0, 0, []), none, some ((.iinc 6 1, 3), 6, 0, 1, []), none, none, some ((.goto (-53), 3), 58, 0, 0, [])],
  [none, none, some ((.iload_n 2, 1), 2, 0, 0, []), some ((.ifCond .ne 8, 3), 123, 0, 0, []), none, none, some ((.iload 4, 2), 4, 0, 0, []), none, some ((.goto 5, 3), 125, 0, 0, []), none, none, some ((.iload 5, 2), 5, 0, 0, []), none, some ((.ireturn, 1), 0, 0, 0, [])]]
def T_X9_fee : Tab := [
  [some ((.aload_n 0, 1), 0, 0, 0, []), some ((.getfield 28, 3), 9, 2, 0, []), none, none, some ((.iconst 1, 1), 0, 0, 1, []), some ((.invokevirtual 167, 3), 11, 2, 0, [(0, 1)]), none, none, some ((.istore_n 1, 1), 1, 0, 0, []), some ((.iload_n 1, 1), 1, 0, 0, []), some ((.ifCond .ge 13, 3), 23, 0, 0, []), none, none, some ((.aload_n 0, 1), 0, 0, 0, []), some ((.getfield 28, 3), 9, 2, 0, []), none],
  [none, some ((.getfield 181, 3), 1, 6, 0, []), none, none, some ((.goto 26, 3), 46, 0, 0, []), none, none, some ((.aload_n 0, 1), 0, 0, 0, []), some ((.getfield 10, 3), 9, 0, 0, []), none, none, some ((.iload_n 1, 1), 1, 0, 0, []), some ((.aload_n 0, 1), 0, 0, 0, []), some ((.getfield 28, 3), 9, 2, 0, []), none, none],
  [some ((.getfield 181, 3), 1, 6, 0, []), none, none, some ((.aload_n 0, 1), 0, 0, 0, []), some ((.getfield 28, 3), 9, 2, 0, []), none, none, some ((.getfield 192, 3), 1, 7, 0, []), none, none, some ((.iconst 0, 1), 0, 0, 0, []), some ((.invokevirtual 247, 3), 28, 5, 0, [(0, 2)]), none, none, some ((.ireturn, 1), 0, 0, 0, [])]]
def T_X9_fine : Tab := [
  [some ((.aload_n 0, 1), 0, 0, 0, []), some ((.iload_n 1, 1), 1, 0, 0, []), some ((.invokevirtual 89, 3), 111, 2, 0, [(0, 9)]), none, none, some ((.ifCond .ne 6, 3), 11, 0, 0, []), none, none, some ((.ldc 80, 2), 0, 0, (-1000000001), []), none, some ((.ireturn, 1), 0, 0, 0, []), some ((.aload_n 0, 1), 0, 0, 0, []), some ((.getfield 28, 3), 9, 2, 0, []), none, none, some ((.getfield 92, 3), 1, 1, 0, [])],
  [none, none, some ((.iload_n 1, 1), 1, 0, 0, []), some ((.aaload, 1), 0, 0, 0, []), some ((.astore_n 2, 1), 2, 0, 0, []), some ((.aload_n 0, 1), 0, 0, 0, []), some ((.getfield 28, 3), 9, 2, 0, []), none, none, some ((.iconst 2, 1), 0, 0, 2, []), some ((.invokevirtual 167, 3), 11, 2, 0, [(0, 1)]), none, none, some ((.istore_n 3, 1), 3, 0, 0, []), some ((.iload_n 3, 1), 3, 0, 0, []), some ((.ifCond .ge 10, 3), 41, 0, 0, [])],
  [none, none, some ((.aload_n 2, 1), 2, 0, 0, []), some ((.getfield 104, 3), 0, 2, 0, []), none, none, some ((.goto 20, 3), 58, 0, 0, []), none, none, some ((.aload_n 0, 1), 0, 0, 0, []), some ((.getfield 10, 3), 9, 0, 0, []), none, none, some ((.iload_n 3, 1), 3, 0, 0, []), some ((.aload_n 2, 1), 2, 0, 0, []), some ((.getfield 101, 3), 0, 1, 0, [])],
  [none, none, some ((.aload_n 2, 1), 2, 0, 0, []), some ((.getfield 104, 3), 0, 2, 0, []), none, none, some ((.iconst 0, 1), 0, 0, 0, []), some ((.invokevirtual 247, 3), 28, 5, 0, [(0, 2)]), none, none, some ((.ireturn, 1), 0, 0, 0, [])]]
def T_X9_feed : Tab := [
  [some ((.aload_n 0, 1), 0, 0, 0, []), some ((.getfield 19, 3), 9, 1, 0, []), none, none, some ((.getfield 250, 3), 4, 1, 0, []), none, none, some ((.bipush 12, 2), 0, 0, 12, []), none, some ((.iadd, 1), 0, 0, 0, []), some ((.bipush 96, 2), 0, 0, 96, []), none, some ((.if_icmp .le 6, 3), 18, 0, 0, []), none, none, some ((.ldc 84, 2), 0, 0, (-1000000003), [])],
  [none, some ((.ireturn, 1), 0, 0, 0, []), some ((.aload_n 0, 1), 0, 0, 0, []), some ((.getfield 19, 3), 9, 1, 0, []), none, none, some ((.iload_n 1, 1), 1, 0, 0, []), some ((.invokevirtual 253, 3), 31, 2, 0, [(0, 4)]), none, none, some ((.aload_n 0, 1), 0, 0, 0, []), some ((.getfield 19, 3), 9, 1, 0, []), none, none, some ((.iload_n 2, 1), 2, 0, 0, []), some ((.invokevirtual 253, 3), 31, 2, 0, [(0, 4)])],
  [none, none, some ((.aload_n 0, 1), 0, 0, 0, []), some ((.getfield 19, 3), 9, 1, 0, []), none, none, some ((.iload_n 3, 1), 3, 0, 0, []), some ((.invokevirtual 253, 3), 31, 2, 0, [(0, 4)]), none, none, some ((.aload_n 0, 1), 0, 0, 0, []), some ((.getfield 19, 3), 9, 1, 0, []), none, none, some ((.getfield 250, 3), 4, 1, 0, []), none],
  [none, some ((.ireturn, 1), 0, 0, 0, [])]]
def T_X9_trim : Tab := [
  [some ((.iload_n 1, 1), 1, 0, 0, []), some ((.ifCond .lt 14, 3), 15, 0, 0, []), none, none, some ((.iload_n 1, 1), 1, 0, 0, []), some ((.aload_n 0, 1), 0, 0, 0, []), some ((.getfield 19, 3), 9, 1, 0, []), none, none, some ((.getfield 250, 3), 4, 1, 0, []), none, none, some ((.if_icmp .le 6, 3), 18, 0, 0, []), none, none, some ((.ldc 80, 2), 0, 0, (-1000000001), [])],
  [none, some ((.ireturn, 1), 0, 0, 0, []), some ((.aload_n 0, 1), 0, 0, 0, []), some ((.getfield 19, 3), 9, 1, 0, []), none, none, some ((.iload_n 1, 1), 1, 0, 0, []), some ((.putfield 250, 3), 4, 1, 0, []), none, none, some ((.iload_n 1, 1), 1, 0, 0, []), some ((.ireturn, 1), 0, 0, 0, [])]]
def T_X9_text : Tab := [
  [some ((.aload_n 0, 1), 0, 0, 0, []), some ((.getfield 10, 3), 9, 0, 0, []), none, none, some ((.getfield 256, 3), 2, 0, 0, []), none, none, some ((.aload_n 0, 1), 0, 0, 0, []), some ((.getfield 28, 3), 9, 2, 0, []), none, none, some ((.getfield 260, 3), 1, 12, 0, []), none, none, some ((.aaload, 1), 0, 0, 0, []), some ((.astore_n 1, 1), 1, 0, 0, [])],
  [some ((.aload_n 0, 1), 0, 0, 0, []), some ((.getfield 19, 3), 9, 1, 0, []), none, none, some ((.aload_n 1, 1), 1, 0, 0, []), some ((.invokevirtual 263, 3), 32, 2, 0, [(0, 4)]), none, none, some ((.istore_n 2, 1), 2, 0, 0, []), some ((.aload_n 0, 1), 0, 0, 0, []), some ((.getfield 19, 3), 9, 1, 0, []), none, none, some ((.getfield 267, 3), 4, 2, 0, []), none, none],
  [some ((.istore_n 3, 1), 3, 0, 0, []), some ((.aload_n 0, 1), 0, 0, 0, []), some ((.getfield 19, 3), 9, 1, 0, []), none, none, some ((.iconst 0, 1), 0, 0, 0, []), some ((.putfield 250, 3), 4, 1, 0, []), none, none, some ((.iload_n 2, 1), 2, 0, 0, []), some ((.ifCond .ne 8, 3), 50, 0, 0, []), none, none, some ((.bipush (-100), 2), 0, 0, (-100), []), none, some ((.iload_n 3, 1), 3, 0, 0, [])],
  [some ((.isub, 1), 0, 0, 0, []), some ((.ireturn, 1), 0, 0, 0, []), some ((.aload_n 0, 1), 0, 0, 0, []), some ((.getfield 28, 3), 9, 2, 0, []), none, none, some ((.getfield 260, 3), 1, 12, 0, []), none, none, some ((.bipush 14, 2), 0, 0, 14, []), none, some ((.if_icmp .lt 6, 3), 65, 0, 0, []), none, none, some ((.ldc 84, 2), 0, 0, (-1000000003), []), none],
  [some ((.ireturn, 1), 0, 0, 0, []), some ((.aload_n 0, 1), 0, 0, 0, []), some ((.getfield 28, 3), 9, 2, 0, []), none, none, some ((.dup, 1), 0, 0, 0, []), some ((.getfield 260, 3), 1, 12, 0, []), none, none, some ((.iconst 1, 1), 0, 0, 1, []), some ((.iadd, 1), 0, 0, 0, []), some ((.putfield 260, 3), 1, 12, 0, []), none, none, some ((.aload_n 0, 1), 0, 0, 0, []), some ((.getfield 28, 3), 9, 2, 0, [])],
  [none, none, some ((.getfield 260, 3), 1, 12, 0, []), none, none, some ((.iconst 1, 1), 0, 0, 1, []), some ((.isub, 1), 0, 0, 0, []), some ((.ireturn, 1), 0, 0, 0, [])]]
def T_X9_textTold : Tab := [
  [some ((.iload_n 1, 1), 1, 0, 0, []), some ((.ifCond .lt 23, 3), 24, 0, 0, []), none, none, some ((.iload_n 1, 1), 1, 0, 0, []), some ((.aload_n 0, 1), 0, 0, 0, []), some ((.getfield 28, 3), 9, 2, 0, []), none, none, some ((.getfield 260, 3), 1, 12, 0, []), none, none, some ((.if_icmp .ge 12, 3), 24, 0, 0, []), none, none, some ((.iload_n 2, 1), 2, 0, 0, [])],
  [some ((.ifCond .lt 8, 3), 24, 0, 0, []), none, none, some ((.iload_n 2, 1), 2, 0, 0, []), some ((.iconst 1, 1), 0, 0, 1, []), some ((.if_icmp .le 6, 3), 27, 0, 0, []), none, none, some ((.ldc 80, 2), 0, 0, (-1000000001), []), none, some ((.ireturn, 1), 0, 0, 0, []), some ((.aload_n 0, 1), 0, 0, 0, []), some ((.getfield 10, 3), 9, 0, 0, []), none, none, some ((.getfield 256, 3), 2, 0, 0, [])],
  [none, none, some ((.iload_n 1, 1), 1, 0, 0, []), some ((.aaload, 1), 0, 0, 0, []), some ((.astore_n 3, 1), 3, 0, 0, []), some ((.iload_n 2, 1), 2, 0, 0, []), some ((.ifCond .ne 10, 3), 48, 0, 0, []), none, none, some ((.aload_n 3, 1), 3, 0, 0, []), some ((.getfield 270, 3), 7, 0, 0, []), none, none, some ((.goto 7, 3), 52, 0, 0, []), none, none],
  [some ((.aload_n 3, 1), 3, 0, 0, []), some ((.getfield 275, 3), 7, 3, 0, []), none, none, some ((.ireturn, 1), 0, 0, 0, [])]]
def T_X9_why : Tab := [
  [some ((.iload_n 1, 1), 1, 0, 0, []), some ((.ifCond .lt 8, 3), 9, 0, 0, []), none, none, some ((.iload_n 1, 1), 1, 0, 0, []), some ((.iconst 2, 1), 0, 0, 2, []), some ((.if_icmp .le 6, 3), 12, 0, 0, []), none, none, some ((.ldc 80, 2), 0, 0, (-1000000001), []), none, some ((.ireturn, 1), 0, 0, 0, []), some ((.aload_n 0, 1), 0, 0, 0, []), some ((.getfield 28, 3), 9, 2, 0, []), none, none],
  [some ((.iload_n 1, 1), 1, 0, 0, []), some ((.invokevirtual 167, 3), 11, 2, 0, [(0, 1)]), none, none, some ((.istore_n 2, 1), 2, 0, 0, []), some ((.iload_n 2, 1), 2, 0, 0, []), some ((.ifCond .ge 8, 3), 30, 0, 0, []), none, none, some ((.ldc 213, 2), 0, 0, (-1000000005), []), none, some ((.goto 4, 3), 31, 0, 0, []), none, none, some ((.iload_n 2, 1), 2, 0, 0, []), some ((.ireturn, 1), 0, 0, 0, [])]]
def T_X9_sheet : Tab := [
  [some ((.iload_n 1, 1), 1, 0, 0, []), some ((.invokestatic 235, 3), 115, 1, 0, []), none, none, some ((.ifCond .eq 13, 3), 17, 0, 0, []), none, none, some ((.iload_n 2, 1), 2, 0, 0, []), some ((.iconst (-1), 1), 0, 0, (-1), []), some ((.if_icmp .lt 8, 3), 17, 0, 0, []), none, none, some ((.iload_n 2, 1), 2, 0, 0, []), some ((.iconst 1, 1), 0, 0, 1, []), some ((.if_icmp .le 6, 3), 20, 0, 0, []), none],
  [none, some ((.ldc 80, 2), 0, 0, (-1000000001), []), none, some ((.ireturn, 1), 0, 0, 0, []), some ((.iload_n 2, 1), 2, 0, 0, []), some ((.iconst (-1), 1), 0, 0, (-1), []), some ((.if_icmp .ne 16, 3), 38, 0, 0, []), none, none, some ((.aload_n 0, 1), 0, 0, 0, []), some ((.getfield 53, 3), 9, 7, 0, []), none, none, some ((.iload_n 1, 1), 1, 0, 0, []), some ((.aaload, 1), 0, 0, 0, []), some ((.iconst (-1), 1), 0, 0, (-1), [])],
  [some ((.iconst 0, 1), 0, 0, 0, []), some ((.invokevirtual 278, 3), 54, 3, 0, [(0, 5)]), none, none, some ((.iconst 0, 1), 0, 0, 0, []), some ((.ireturn, 1), 0, 0, 0, []), some ((.iload_n 3, 1), 3, 0, 0, []), some ((.bipush 24, 2), 0, 0, 24, []), none, some ((.if_icmp .le 6, 3), 47, 0, 0, []), none, none, some ((.ldc 80, 2), 0, 0, (-1000000001), []), none, some ((.ireturn, 1), 0, 0, 0, []), some ((.iload_n 3, 1), 3, 0, 0, [])],
  [some ((.ifCond .ge 7, 3), 55, 0, 0, []), none, none, some ((.ldc_w 282, 3), 0, 0, (-1000000014), []), none, none, some ((.ireturn, 1), 0, 0, 0, []), some ((.aload_n 0, 1), 0, 0, 0, []), some ((.getfield 53, 3), 9, 7, 0, []), none, none, some ((.iload_n 1, 1), 1, 0, 0, []), some ((.aaload, 1), 0, 0, 0, []), some ((.iload_n 2, 1), 2, 0, 0, []), some ((.iload_n 3, 1), 3, 0, 0, []), some ((.invokevirtual 278, 3), 54, 3, 0, [(0, 5)])],
  [none, none, some ((.iload_n 3, 1), 3, 0, 0, []), some ((.ireturn, 1), 0, 0, 0, [])]]
def T_X9_mark : Tab := [
  [some ((.iload_n 1, 1), 1, 0, 0, []), some ((.invokestatic 235, 3), 115, 1, 0, []), none, none, some ((.ifCond .ne 6, 3), 10, 0, 0, []), none, none, some ((.ldc 80, 2), 0, 0, (-1000000001), []), none, some ((.ireturn, 1), 0, 0, 0, []), some ((.aload_n 0, 1), 0, 0, 0, []), some ((.getfield 53, 3), 9, 7, 0, []), none, none, some ((.iload_n 1, 1), 1, 0, 0, []), some ((.aaload, 1), 0, 0, 0, [])],
  [some ((.astore 4, 2), 4, 0, 0, []), none, some ((.aload 4, 2), 4, 0, 0, []), none, some ((.invokevirtual 238, 3), 50, 1, 0, [(0, 5)]), none, none, some ((.ifCond .eq 6, 3), 29, 0, 0, []), none, none, some ((.ldc 242, 2), 0, 0, (-1000000011), []), none, some ((.ireturn, 1), 0, 0, 0, []), some ((.aload 4, 2), 4, 0, 0, []), none, some ((.iload_n 2, 1), 2, 0, 0, [])],
  [some ((.invokevirtual 283, 3), 51, 2, 0, [(0, 5)]), none, none, some ((.ifCond .ne 7, 3), 42, 0, 0, []), none, none, some ((.ldc_w 286, 3), 0, 0, (-1000000013), []), none, none, some ((.ireturn, 1), 0, 0, 0, []), some ((.aload 4, 2), 4, 0, 0, []), none, some ((.getfield 287, 3), 5, 0, 0, []), none, none, some ((.ifCond .ne 23, 3), 70, 0, 0, [])],
  [none, none, some ((.iload_n 3, 1), 3, 0, 0, []), some ((.ldc 213, 2), 0, 0, (-1000000005), []), none, some ((.if_icmp .ne 6, 3), 59, 0, 0, []), none, none, some ((.ldc 130, 2), 0, 0, (-1000000012), []), none, some ((.ireturn, 1), 0, 0, 0, []), some ((.aload 4, 2), 4, 0, 0, []), none, some ((.getfield 290, 3), 5, 2, 0, []), none, none],
  [some ((.iload_n 2, 1), 2, 0, 0, []), some ((.iload_n 3, 1), 3, 0, 0, []), some ((.i2s, 1), 0, 0, 0, []), some ((.iastore, 1), 0, 0, 0, []), some ((.iconst 1, 1), 0, 0, 1, []), some ((.ireturn, 1), 0, 0, 0, []), some ((.iload_n 3, 1), 3, 0, 0, []), some ((.ldc 213, 2), 0, 0, (-1000000005), []), none, some ((.if_icmp .eq 20, 3), 93, 0, 0, []), none, none, some ((.iload_n 3, 1), 3, 0, 0, []), some ((.ldc_w 293, 3), 0, 0, (-99999), []), none, none],
  [some ((.if_icmp .lt 10, 3), 90, 0, 0, []), none, none, some ((.iload_n 3, 1), 3, 0, 0, []), some ((.ldc_w 294, 3), 0, 0, 99999, []), none, none, some ((.if_icmp .le 6, 3), 93, 0, 0, []), none, none, some ((.ldc 80, 2), 0, 0, (-1000000001), []), none, some ((.ireturn, 1), 0, 0, 0, []), some ((.aload 4, 2), 4, 0, 0, []), none, some ((.getfield 290, 3), 5, 2, 0, [])],
  [none, none, some ((.iload_n 2, 1), 2, 0, 0, []), some ((.iload_n 3, 1), 3, 0, 0, []), some ((.ldc 213, 2), 0, 0, (-1000000005), []), none, some ((.if_icmp .ne 8, 3), 110, 0, 0, []), none, none, some ((.ldc 213, 2), 0, 0, (-1000000005), []), none, some ((.goto 4, 3), 111, 0, 0, []), none, none, some ((.iload_n 3, 1), 3, 0, 0, []), some ((.iastore, 1), 0, 0, 0, [])],
  [some ((.iconst 1, 1), 0, 0, 1, []), some ((.ireturn, 1), 0, 0, 0, [])]]
def T_X9_pour : Tab := [
  [some ((.iload_n 1, 1), 1, 0, 0, []), some ((.invokestatic 235, 3), 115, 1, 0, []), none, none, some ((.ifCond .ne 6, 3), 10, 0, 0, []), none, none, some ((.ldc 80, 2), 0, 0, (-1000000001), []), none, some ((.ireturn, 1), 0, 0, 0, []), some ((.aload_n 0, 1), 0, 0, 0, []), some ((.getfield 53, 3), 9, 7, 0, []), none, none, some ((.iload_n 1, 1), 1, 0, 0, []), some ((.aaload, 1), 0, 0, 0, [])],
  [some ((.astore_n 2, 1), 2, 0, 0, []), some ((.aload_n 2, 1), 2, 0, 0, []), some ((.invokevirtual 238, 3), 50, 1, 0, [(0, 5)]), none, none, some ((.ifCond .eq 6, 3), 27, 0, 0, []), none, none, some ((.ldc 242, 2), 0, 0, (-1000000011), []), none, some ((.ireturn, 1), 0, 0, 0, []), some ((.iconst 0, 1), 0, 0, 0, []), some ((.istore_n 3, 1), 3, 0, 0, []), some ((.iconst 0, 1), 0, 0, 0, []), some ((.istore 4, 2), 4, 0, 0, []), none],
  [some ((.iload 4, 2), 4, 0, 0, []), none, some ((.aload_n 0, 1), 0, 0, 0, []), some ((.getfield 28, 3), 9, 2, 0, []), none, none, some ((.getfield 81, 3), 1, 2, 0, []), none, none, some ((.if_icmp .ge 77, 3), 118, 0, 0, []), none, none, some ((.iload 4, 2), 4, 0, 0, []), none, some ((.aload_n 2, 1), 2, 0, 0, []), some ((.getfield 295, 3), 5, 1, 0, [])],
  [none, none, some ((.if_icmp .ge 68, 3), 118, 0, 0, []), none, none, some ((.aload_n 2, 1), 2, 0, 0, []), some ((.iload 4, 2), 4, 0, 0, []), none, some ((.invokevirtual 296, 3), 53, 2, 0, [(0, 5)]), none, none, some ((.ifCond .eq 53, 3), 112, 0, 0, []), none, none, some ((.aload_n 2, 1), 2, 0, 0, []), some ((.getfield 290, 3), 5, 2, 0, [])],
  [none, none, some ((.iload 4, 2), 4, 0, 0, []), none, some ((.iaload, 1), 0, 0, 0, []), some ((.bipush 7, 2), 0, 0, 7, []), none, some ((.invokestatic 299, 3), 118, 2, 0, []), none, none, some ((.istore 5, 2), 5, 0, 0, []), none, some ((.iload 5, 2), 5, 0, 0, []), none, some ((.aload_n 0, 1), 0, 0, 0, []), some ((.getfield 28, 3), 9, 2, 0, [])],
  [none, none, some ((.getfield 92, 3), 1, 1, 0, []), none, none, some ((.iload 4, 2), 4, 0, 0, []), none, some ((.aaload, 1), 0, 0, 0, []), some ((.getfield 104, 3), 0, 2, 0, []), none, none, some ((.if_icmp .eq 6, 3), 97, 0, 0, []), none, none, some ((.iinc 3 1, 3), 3, 0, 1, []), none],
  [none, some ((.aload_n 0, 1), 0, 0, 0, []), some ((.getfield 28, 3), 9, 2, 0, []), none, none, some ((.getfield 92, 3), 1, 1, 0, []), none, none, some ((.iload 4, 2), 4, 0, 0, []), none, some ((.aaload, 1), 0, 0, 0, []), some ((.iload 5, 2), 5, 0, 0, []), none, some ((.putfield 104, 3), 0, 2, 0, []), none, none],
  [some ((.iinc 4 1, 3), 4, 0, 1, []), none, none, some ((.goto (-83), 3), 32, 0, 0, []), none, none, some ((.iload_n 3, 1), 3, 0, 0, []), some ((.ireturn, 1), 0, 0, 0, [])]]
def T_X9_reads : Tab := [
  [some ((.iload_n 1, 1), 1, 0, 0, []), some ((.invokestatic 235, 3), 115, 1, 0, []), none, none, some ((.ifCond .ne 6, 3), 10, 0, 0, []), none, none, some ((.ldc 80, 2), 0, 0, (-1000000001), []), none, some ((.ireturn, 1), 0, 0, 0, []), some ((.aload_n 0, 1), 0, 0, 0, []), some ((.getfield 53, 3), 9, 7, 0, []), none, none, some ((.iload_n 1, 1), 1, 0, 0, []), some ((.aaload, 1), 0, 0, 0, [])],
  [some ((.astore_n 2, 1), 2, 0, 0, []), some ((.aload_n 2, 1), 2, 0, 0, []), some ((.invokevirtual 238, 3), 50, 1, 0, [(0, 5)]), none, none, some ((.ifCond .eq 6, 3), 27, 0, 0, []), none, none, some ((.ldc 242, 2), 0, 0, (-1000000011), []), none, some ((.ireturn, 1), 0, 0, 0, []), some ((.iconst 0, 1), 0, 0, 0, []), some ((.istore_n 3, 1), 3, 0, 0, []), some ((.iload_n 3, 1), 3, 0, 0, []), some ((.aload_n 2, 1), 2, 0, 0, []), some ((.getfield 295, 3), 5, 1, 0, [])],
  [none, none, some ((.if_icmp .ge 48, 3), 82, 0, 0, []), none, none, some ((.aload_n 2, 1), 2, 0, 0, []), some ((.iload_n 3, 1), 3, 0, 0, []), some ((.invokevirtual 296, 3), 53, 2, 0, [(0, 5)]), none, none, some ((.ifCond .eq 34, 3), 76, 0, 0, []), none, none, some ((.aload_n 0, 1), 0, 0, 0, []), some ((.iload_n 3, 1), 3, 0, 0, []), some ((.invokevirtual 146, 3), 112, 2, 0, [(0, 9)])],
  [none, none, some ((.ifCond .eq 24, 3), 74, 0, 0, []), none, none, some ((.aload_n 2, 1), 2, 0, 0, []), some ((.getfield 290, 3), 5, 2, 0, []), none, none, some ((.iload_n 3, 1), 3, 0, 0, []), some ((.iaload, 1), 0, 0, 0, []), some ((.aload_n 0, 1), 0, 0, 0, []), some ((.getfield 28, 3), 9, 2, 0, []), none, none, some ((.getfield 149, 3), 1, 3, 0, [])],
  [none, none, some ((.iload_n 3, 1), 3, 0, 0, []), some ((.aaload, 1), 0, 0, 0, []), some ((.getfield 153, 3), 3, 0, 0, []), none, none, some ((.if_icmp .eq 5, 3), 76, 0, 0, []), none, none, some ((.iload_n 3, 1), 3, 0, 0, []), some ((.ireturn, 1), 0, 0, 0, []), some ((.iinc 3 1, 3), 3, 0, 1, []), none, none, some ((.goto (-50), 3), 29, 0, 0, [])],
  [none, none, some ((.ldc 213, 2), 0, 0, (-1000000005), []), none, some ((.ireturn, 1), 0, 0, 0, [])]]
def T_X9_copy : Tab := [
  [some ((.iload_n 1, 1), 1, 0, 0, []), some ((.invokestatic 235, 3), 115, 1, 0, []), none, none, some ((.ifCond .eq 10, 3), 14, 0, 0, []), none, none, some ((.iload_n 3, 1), 3, 0, 0, []), some ((.invokestatic 235, 3), 115, 1, 0, []), none, none, some ((.ifCond .ne 6, 3), 17, 0, 0, []), none, none, some ((.ldc 80, 2), 0, 0, (-1000000001), []), none],
  [some ((.ireturn, 1), 0, 0, 0, []), some ((.aload_n 0, 1), 0, 0, 0, []), some ((.getfield 53, 3), 9, 7, 0, []), none, none, some ((.iload_n 1, 1), 1, 0, 0, []), some ((.aaload, 1), 0, 0, 0, []), some ((.astore 6, 2), 6, 0, 0, []), none, some ((.aload_n 0, 1), 0, 0, 0, []), some ((.getfield 53, 3), 9, 7, 0, []), none, none, some ((.iload_n 3, 1), 3, 0, 0, []), some ((.aaload, 1), 0, 0, 0, []), some ((.astore 7, 2), 7, 0, 0, [])],
  [none, some ((.aload 6, 2), 6, 0, 0, []), none, some ((.invokevirtual 238, 3), 50, 1, 0, [(0, 5)]), none, none, some ((.ifCond .ne 11, 3), 49, 0, 0, []), none, none, some ((.aload 7, 2), 7, 0, 0, []), none, some ((.invokevirtual 238, 3), 50, 1, 0, [(0, 5)]), none, none, some ((.ifCond .eq 6, 3), 52, 0, 0, []), none],
  [none, some ((.ldc 242, 2), 0, 0, (-1000000011), []), none, some ((.ireturn, 1), 0, 0, 0, []), some ((.aload 6, 2), 6, 0, 0, []), none, some ((.getfield 287, 3), 5, 0, 0, []), none, none, some ((.aload 7, 2), 7, 0, 0, []), none, some ((.getfield 287, 3), 5, 0, 0, []), none, none, some ((.if_icmp .eq 6, 3), 68, 0, 0, []), none],
  [none, some ((.ldc 130, 2), 0, 0, (-1000000012), []), none, some ((.ireturn, 1), 0, 0, 0, []), some ((.aload 6, 2), 6, 0, 0, []), none, some ((.iload_n 2, 1), 2, 0, 0, []), some ((.iload 5, 2), 5, 0, 0, []), none, some ((.invokevirtual 302, 3), 52, 3, 0, [(0, 5)]), none, none, some ((.ifCond .eq 15, 3), 91, 0, 0, []), none, none, some ((.aload 7, 2), 7, 0, 0, [])],
  [none, some ((.iload 4, 2), 4, 0, 0, []), none, some ((.iload 5, 2), 5, 0, 0, []), none, some ((.invokevirtual 302, 3), 52, 3, 0, [(0, 5)]), none, none, some ((.ifCond .ne 7, 3), 95, 0, 0, []), none, none, some ((.ldc_w 286, 3), 0, 0, (-1000000013), []), none, none, some ((.ireturn, 1), 0, 0, 0, []), some ((.aload 6, 2), 6, 0, 0, [])],
  [none, some ((.getfield 290, 3), 5, 2, 0, []), none, none, some ((.iload_n 2, 1), 2, 0, 0, []), some ((.aload 7, 2), 7, 0, 0, []), none, some ((.getfield 290, 3), 5, 2, 0, []), none, none, some ((.iload 4, 2), 4, 0, 0, []), none, some ((.iload 5, 2), 5, 0, 0, []), none, some ((.invokestatic 306, 3), 0, 105, 0, []), none],
  [none, some ((.iload 5, 2), 5, 0, 0, []), none, some ((.ireturn, 1), 0, 0, 0, [])]]
def T_X9_lay : Tab := [
  [some ((.iload_n 1, 1), 1, 0, 0, []), some ((.invokestatic 312, 3), 116, 1, 0, []), none, none, some ((.ifCond .eq 12, 3), 16, 0, 0, []), none, none, some ((.iload_n 2, 1), 2, 0, 0, []), some ((.ifCond .lt 8, 3), 16, 0, 0, []), none, none, some ((.iload_n 2, 1), 2, 0, 0, []), some ((.iconst 3, 1), 0, 0, 3, []), some ((.if_icmp .le 6, 3), 19, 0, 0, []), none, none],
  [some ((.ldc 80, 2), 0, 0, (-1000000001), []), none, some ((.ireturn, 1), 0, 0, 0, []), some ((.iload_n 2, 1), 2, 0, 0, []), some ((.iconst 1, 1), 0, 0, 1, []), some ((.if_icmp .ne 11, 3), 32, 0, 0, []), none, none, some ((.aload_n 0, 1), 0, 0, 0, []), some ((.iload_n 3, 1), 3, 0, 0, []), some ((.invokevirtual 89, 3), 111, 2, 0, [(0, 9)]), none, none, some ((.ifCond .eq 15, 3), 44, 0, 0, []), none, none],
  [some ((.iload_n 2, 1), 2, 0, 0, []), some ((.iconst 2, 1), 0, 0, 2, []), some ((.if_icmp .ne 13, 3), 47, 0, 0, []), none, none, some ((.iload_n 3, 1), 3, 0, 0, []), some ((.invokestatic 235, 3), 115, 1, 0, []), none, none, some ((.ifCond .ne 6, 3), 47, 0, 0, []), none, none, some ((.ldc 80, 2), 0, 0, (-1000000001), []), none, some ((.ireturn, 1), 0, 0, 0, []), some ((.iload_n 2, 1), 2, 0, 0, [])],
  [some ((.iconst 2, 1), 0, 0, 2, []), some ((.if_icmp .ne 18, 3), 67, 0, 0, []), none, none, some ((.aload_n 0, 1), 0, 0, 0, []), some ((.getfield 53, 3), 9, 7, 0, []), none, none, some ((.iload_n 3, 1), 3, 0, 0, []), some ((.aaload, 1), 0, 0, 0, []), some ((.invokevirtual 238, 3), 50, 1, 0, [(0, 5)]), none, none, some ((.ifCond .eq 6, 3), 67, 0, 0, []), none, none],
  [some ((.ldc 242, 2), 0, 0, (-1000000011), []), none, some ((.ireturn, 1), 0, 0, 0, []), some ((.aload_n 0, 1), 0, 0, 0, []), some ((.getfield 60, 3), 9, 8, 0, []), none, none, some ((.iload_n 1, 1), 1, 0, 0, []), some ((.aaload, 1), 0, 0, 0, []), some ((.astore 4, 2), 4, 0, 0, []), none, some ((.aload 4, 2), 4, 0, 0, []), none, some ((.getfield 315, 3), 6, 0, 0, []), none, none],
  [some ((.istore 5, 2), 5, 0, 0, []), none, some ((.aload 4, 2), 4, 0, 0, []), none, some ((.iload_n 2, 1), 2, 0, 0, []), some ((.putfield 315, 3), 6, 0, 0, []), none, none, some ((.iload_n 2, 1), 2, 0, 0, []), some ((.iconst 1, 1), 0, 0, 1, []), some ((.if_icmp .ne 23, 3), 113, 0, 0, []), none, none, some ((.aload 4, 2), 4, 0, 0, []), none, some ((.getfield 318, 3), 6, 1, 0, [])],
  [none, none, some ((.aload_n 0, 1), 0, 0, 0, []), some ((.getfield 28, 3), 9, 2, 0, []), none, none, some ((.getfield 92, 3), 1, 1, 0, []), none, none, some ((.iload_n 3, 1), 3, 0, 0, []), some ((.aaload, 1), 0, 0, 0, []), some ((.invokevirtual 322, 3), 0, 2, 0, [(0, 0)]), none, none, some ((.goto 36, 3), 146, 0, 0, []), none],
  [none, some ((.iload_n 2, 1), 2, 0, 0, []), some ((.iconst 2, 1), 0, 0, 2, []), some ((.if_icmp .ne 20, 3), 135, 0, 0, []), none, none, some ((.aload 4, 2), 4, 0, 0, []), none, some ((.getfield 325, 3), 6, 2, 0, []), none, none, some ((.aload_n 0, 1), 0, 0, 0, []), some ((.getfield 53, 3), 9, 7, 0, []), none, none, some ((.iload_n 3, 1), 3, 0, 0, [])],
  [some ((.aaload, 1), 0, 0, 0, []), some ((.invokevirtual 329, 3), 55, 2, 0, [(0, 5)]), none, none, some ((.goto 14, 3), 146, 0, 0, []), none, none, some ((.iload_n 2, 1), 2, 0, 0, []), some ((.iconst 3, 1), 0, 0, 3, []), some ((.if_icmp .ne 9, 3), 146, 0, 0, []), none, none, some ((.aload 4, 2), 4, 0, 0, []), none, some ((.iload_n 3, 1), 3, 0, 0, []), some ((.putfield 332, 3), 6, 3, 0, [])],
  [none, none, some ((.iload 5, 2), 5, 0, 0, []), none, some ((.ireturn, 1), 0, 0, 0, [])]]
def T_X9_ask : Tab := [
  [some ((.iload_n 1, 1), 1, 0, 0, []), some ((.invokestatic 312, 3), 116, 1, 0, []), none, none, some ((.ifCond .eq 10, 3), 14, 0, 0, []), none, none, some ((.iload_n 2, 1), 2, 0, 0, []), some ((.invokestatic 73, 3), 114, 1, 0, []), none, none, some ((.ifCond .ne 6, 3), 17, 0, 0, []), none, none, some ((.ldc 80, 2), 0, 0, (-1000000001), []), none],
  [some ((.ireturn, 1), 0, 0, 0, []), some ((.aload_n 0, 1), 0, 0, 0, []), some ((.getfield 60, 3), 9, 8, 0, []), none, none, some ((.iload_n 1, 1), 1, 0, 0, []), some ((.aaload, 1), 0, 0, 0, []), some ((.astore_n 3, 1), 3, 0, 0, []), some ((.aload_n 3, 1), 3, 0, 0, []), some ((.getfield 315, 3), 6, 0, 0, []), none, none, some ((.ifCond .ne 6, 3), 34, 0, 0, []), none, none, some ((.ldc 242, 2), 0, 0, (-1000000011), [])],
  [none, some ((.ireturn, 1), 0, 0, 0, []), some ((.aload_n 3, 1), 3, 0, 0, []), some ((.getfield 315, 3), 6, 0, 0, []), none, none, some ((.iconst 1, 1), 0, 0, 1, []), some ((.if_icmp .ne 14, 3), 53, 0, 0, []), none, none, some ((.aload_n 3, 1), 3, 0, 0, []), some ((.getfield 318, 3), 6, 1, 0, []), none, none, some ((.iload_n 2, 1), 2, 0, 0, []), some ((.invokevirtual 127, 3), 1, 2, 0, [(0, 0)])],
  [none, none, some ((.ifCond .ne 6, 3), 56, 0, 0, []), none, none, some ((.ldc 130, 2), 0, 0, (-1000000012), []), none, some ((.ireturn, 1), 0, 0, 0, []), some ((.aload_n 3, 1), 3, 0, 0, []), some ((.getfield 318, 3), 6, 1, 0, []), none, none, some ((.invokevirtual 124, 3), 5, 1, 0, [(0, 0)]), none, none, some ((.ireturn, 1), 0, 0, 0, [])]]
def T_X9_item : Tab := [
  [some ((.iload_n 1, 1), 1, 0, 0, []), some ((.invokestatic 312, 3), 116, 1, 0, []), none, none, some ((.ifCond .ne 6, 3), 10, 0, 0, []), none, none, some ((.ldc 80, 2), 0, 0, (-1000000001), []), none, some ((.ireturn, 1), 0, 0, 0, []), some ((.aload_n 0, 1), 0, 0, 0, []), some ((.getfield 60, 3), 9, 8, 0, []), none, none, some ((.iload_n 1, 1), 1, 0, 0, []), some ((.aaload, 1), 0, 0, 0, [])],
  [some ((.astore_n 3, 1), 3, 0, 0, []), some ((.aload_n 3, 1), 3, 0, 0, []), some ((.getfield 315, 3), 6, 0, 0, []), none, none, some ((.ifCond .ne 6, 3), 27, 0, 0, []), none, none, some ((.ldc 242, 2), 0, 0, (-1000000011), []), none, some ((.ireturn, 1), 0, 0, 0, []), some ((.aload_n 3, 1), 3, 0, 0, []), some ((.getfield 315, 3), 6, 0, 0, []), none, none, some ((.iconst 2, 1), 0, 0, 2, [])],
  [some ((.if_icmp .eq 6, 3), 38, 0, 0, []), none, none, some ((.ldc 130, 2), 0, 0, (-1000000012), []), none, some ((.ireturn, 1), 0, 0, 0, []), some ((.aload_n 3, 1), 3, 0, 0, []), some ((.getfield 325, 3), 6, 2, 0, []), none, none, some ((.iload_n 2, 1), 2, 0, 0, []), some ((.invokevirtual 283, 3), 51, 2, 0, [(0, 5)]), none, none, some ((.ifCond .ne 7, 3), 53, 0, 0, []), none],
  [none, some ((.ldc_w 286, 3), 0, 0, (-1000000013), []), none, none, some ((.ireturn, 1), 0, 0, 0, []), some ((.aload_n 3, 1), 3, 0, 0, []), some ((.getfield 325, 3), 6, 2, 0, []), none, none, some ((.iload_n 2, 1), 2, 0, 0, []), some ((.invokevirtual 296, 3), 53, 2, 0, [(0, 5)]), none, none, some ((.ifCond .eq 15, 3), 76, 0, 0, []), none, none],
  [some ((.aload_n 3, 1), 3, 0, 0, []), some ((.getfield 325, 3), 6, 2, 0, []), none, none, some ((.getfield 290, 3), 5, 2, 0, []), none, none, some ((.iload_n 2, 1), 2, 0, 0, []), some ((.iaload, 1), 0, 0, 0, []), some ((.goto 5, 3), 78, 0, 0, []), none, none, some ((.ldc 130, 2), 0, 0, (-1000000012), []), none, some ((.ireturn, 1), 0, 0, 0, [])]]
def T_X9_rest : Tab := [
  [some ((.iload_n 1, 1), 1, 0, 0, []), some ((.invokestatic 312, 3), 116, 1, 0, []), none, none, some ((.ifCond .ne 6, 3), 10, 0, 0, []), none, none, some ((.ldc 80, 2), 0, 0, (-1000000001), []), none, some ((.ireturn, 1), 0, 0, 0, []), some ((.aload_n 0, 1), 0, 0, 0, []), some ((.getfield 60, 3), 9, 8, 0, []), none, none, some ((.iload_n 1, 1), 1, 0, 0, []), some ((.aaload, 1), 0, 0, 0, [])],
  [some ((.astore_n 3, 1), 3, 0, 0, []), some ((.aload_n 3, 1), 3, 0, 0, []), some ((.getfield 315, 3), 6, 0, 0, []), none, none, some ((.ifCond .ne 6, 3), 27, 0, 0, []), none, none, some ((.ldc 242, 2), 0, 0, (-1000000011), []), none, some ((.ireturn, 1), 0, 0, 0, []), some ((.aload_n 3, 1), 3, 0, 0, []), some ((.getfield 315, 3), 6, 0, 0, []), none, none, some ((.iconst 3, 1), 0, 0, 3, [])],
  [some ((.if_icmp .eq 6, 3), 38, 0, 0, []), none, none, some ((.ldc 130, 2), 0, 0, (-1000000012), []), none, some ((.ireturn, 1), 0, 0, 0, []), some ((.iload_n 2, 1), 2, 0, 0, []), some ((.ifCond .ne 9, 3), 48, 0, 0, []), none, none, some ((.ldc_w 335, 3), 0, 0, (-1000000002), []), none, none, some ((.goto 9, 3), 54, 0, 0, []), none, none],
  [some ((.aload_n 3, 1), 3, 0, 0, []), some ((.getfield 332, 3), 6, 3, 0, []), none, none, some ((.iload_n 2, 1), 2, 0, 0, []), some ((.irem, 1), 0, 0, 0, []), some ((.ireturn, 1), 0, 0, 0, [])]]
def T_X9_tell : Tab := [
  [some ((.aload_n 0, 1), 0, 0, 0, []), some ((.getfield 69, 3), 9, 10, 0, []), none, none, some ((.bipush 60, 2), 0, 0, 60, []), none, some ((.if_icmp .lt 6, 3), 12, 0, 0, []), none, none, some ((.ldc 84, 2), 0, 0, (-1000000003), []), none, some ((.ireturn, 1), 0, 0, 0, []), some ((.aload_n 0, 1), 0, 0, 0, []), some ((.getfield 65, 3), 9, 9, 0, []), none, none],
  [some ((.aload_n 0, 1), 0, 0, 0, []), some ((.getfield 69, 3), 9, 10, 0, []), none, none, some ((.iload_n 1, 1), 1, 0, 0, []), some ((.iastore, 1), 0, 0, 0, []), some ((.aload_n 0, 1), 0, 0, 0, []), some ((.dup, 1), 0, 0, 0, []), some ((.getfield 69, 3), 9, 10, 0, []), none, none, some ((.iconst 1, 1), 0, 0, 1, []), some ((.iadd, 1), 0, 0, 0, []), some ((.putfield 69, 3), 9, 10, 0, []), none, none],
  [some ((.aload_n 0, 1), 0, 0, 0, []), some ((.getfield 69, 3), 9, 10, 0, []), none, none, some ((.ireturn, 1), 0, 0, 0, [])]]
def T_X9_check : Tab := [
  [some ((.aload_n 0, 1), 0, 0, 0, []), some ((.getfield 69, 3), 9, 10, 0, []), none, none, some ((.istore_n 2, 1), 2, 0, 0, []), some ((.aload_n 0, 1), 0, 0, 0, []), some ((.iconst 0, 1), 0, 0, 0, []), some ((.putfield 69, 3), 9, 10, 0, []), none, none, some ((.iload_n 1, 1), 1, 0, 0, []), some ((.iconst 1, 1), 0, 0, 1, []), some ((.if_icmp .lt 9, 3), 21, 0, 0, []), none, none, some ((.iload_n 1, 1), 1, 0, 0, [])],
  [some ((.bipush 30, 2), 0, 0, 30, []), none, some ((.if_icmp .le 6, 3), 24, 0, 0, []), none, none, some ((.ldc 80, 2), 0, 0, (-1000000001), []), none, some ((.ireturn, 1), 0, 0, 0, []), some ((.aload_n 0, 1), 0, 0, 0, []), some ((.getfield 38, 3), 9, 5, 0, []), none, none, some ((.ifCond .ne 7, 3), 35, 0, 0, []), none, none, some ((.ldc_w 335, 3), 0, 0, (-1000000002), [])],
  [none, none, some ((.ireturn, 1), 0, 0, 0, []), some ((.iconst 2, 1), 0, 0, 2, []), some ((.iload_n 1, 1), 1, 0, 0, []), some ((.sipush 9999, 3), 0, 0, 9999, []), none, none, some ((.aload_n 0, 1), 0, 0, 0, []), some ((.getfield 35, 3), 9, 4, 0, []), none, none, some ((.getfield 114, 3), 1, 10, 0, []), none, none, some ((.isub, 1), 0, 0, 0, [])],
  [some ((.invokestatic 184, 3), 0, 108, 0, []), none, none, some ((.imul, 1), 0, 0, 0, []), some ((.istore_n 3, 1), 3, 0, 0, []), some ((.aload_n 0, 1), 0, 0, 0, []), some ((.iload_n 2, 1), 2, 0, 0, []), some ((.iload_n 3, 1), 3, 0, 0, []), some ((.invokevirtual 336, 3), 119, 3, 0, [(0, 9)]), none, none, some ((.istore 4, 2), 4, 0, 0, []), none, some ((.iload 4, 2), 4, 0, 0, []), none, some ((.iload_n 2, 1), 2, 0, 0, [])],
  [some ((.if_icmp .ne 13, 3), 77, 0, 0, []), none, none, some ((.iload 4, 2), 4, 0, 0, []), none, some ((.iload_n 3, 1), 3, 0, 0, []), some ((.if_icmp .ne 7, 3), 77, 0, 0, []), none, none, some ((.iconst 0, 1), 0, 0, 0, []), some ((.goto 7, 3), 81, 0, 0, []), none, none, some ((.iconst 1, 1), 0, 0, 1, []), some ((.iload 4, 2), 4, 0, 0, []), none],
  [some ((.iadd, 1), 0, 0, 0, []), some ((.ireturn, 1), 0, 0, 0, [])]]
def T_X9_keep : Tab := [
  [some ((.aload_n 0, 1), 0, 0, 0, []), some ((.getfield 35, 3), 9, 4, 0, []), none, none, some ((.aload_n 0, 1), 0, 0, 0, []), some ((.getfield 28, 3), 9, 2, 0, []), none, none, some ((.invokevirtual 220, 3), 7, 2, 0, [(0, 1)]), none, none, some ((.aload_n 0, 1), 0, 0, 0, []), some ((.iconst 1, 1), 0, 0, 1, []), some ((.putfield 38, 3), 9, 5, 0, []), none, none],
  [some ((.aload_n 0, 1), 0, 0, 0, []), some ((.getfield 35, 3), 9, 4, 0, []), none, none, some ((.getfield 81, 3), 1, 2, 0, []), none, none, some ((.ireturn, 1), 0, 0, 0, [])]]
def T_X9_back : Tab := [
  [some ((.aload_n 0, 1), 0, 0, 0, []), some ((.getfield 38, 3), 9, 5, 0, []), none, none, some ((.ifCond .ne 7, 3), 11, 0, 0, []), none, none, some ((.ldc_w 335, 3), 0, 0, (-1000000002), []), none, none, some ((.ireturn, 1), 0, 0, 0, []), some ((.aload_n 0, 1), 0, 0, 0, []), some ((.getfield 28, 3), 9, 2, 0, []), none, none, some ((.aload_n 0, 1), 0, 0, 0, [])],
  [some ((.getfield 35, 3), 9, 4, 0, []), none, none, some ((.invokevirtual 220, 3), 7, 2, 0, [(0, 1)]), none, none, some ((.aload_n 0, 1), 0, 0, 0, []), some ((.getfield 28, 3), 9, 2, 0, []), none, none, some ((.getfield 81, 3), 1, 2, 0, []), none, none, some ((.ireturn, 1), 0, 0, 0, [])]]
def T_X9_count : Tab := [
  [some ((.iload_n 1, 1), 1, 0, 0, []), some ((.tableswitch 108 0 7 #[47, 55, 63, 71, 79, 87, 92, 100], 47), 109, 0, 0, [(0, 48), (1, 56), (2, 64), (3, 72), (4, 80), (5, 88), (6, 93), (7, 101)]), none, none, none, none, none, none, none, none, none, none, none, none, none, none],
  [none, none, none, none, none, none, none, none, none, none, none, none, none, none, none, none],
  [none, none, none, none, none, none, none, none, none, none, none, none, none, none, none, none],
  [some ((.aload_n 0, 1), 0, 0, 0, []), some ((.getfield 28, 3), 9, 2, 0, []), none, none, some ((.getfield 81, 3), 1, 2, 0, []), none, none, some ((.ireturn, 1), 0, 0, 0, []), some ((.aload_n 0, 1), 0, 0, 0, []), some ((.getfield 28, 3), 9, 2, 0, []), none, none, some ((.getfield 114, 3), 1, 10, 0, []), none, none, some ((.ireturn, 1), 0, 0, 0, [])],
  [some ((.aload_n 0, 1), 0, 0, 0, []), some ((.getfield 28, 3), 9, 2, 0, []), none, none, some ((.getfield 131, 3), 1, 5, 0, []), none, none, some ((.ireturn, 1), 0, 0, 0, []), some ((.aload_n 0, 1), 0, 0, 0, []), some ((.getfield 28, 3), 9, 2, 0, []), none, none, some ((.getfield 140, 3), 1, 4, 0, []), none, none, some ((.ireturn, 1), 0, 0, 0, [])],
  [some ((.aload_n 0, 1), 0, 0, 0, []), some ((.getfield 28, 3), 9, 2, 0, []), none, none, some ((.getfield 260, 3), 1, 12, 0, []), none, none, some ((.ireturn, 1), 0, 0, 0, []), some ((.aload_n 0, 1), 0, 0, 0, []), some ((.getfield 69, 3), 9, 10, 0, []), none, none, some ((.ireturn, 1), 0, 0, 0, []), some ((.aload_n 0, 1), 0, 0, 0, []), some ((.getfield 19, 3), 9, 1, 0, []), none],
  [none, some ((.getfield 250, 3), 4, 1, 0, []), none, none, some ((.ireturn, 1), 0, 0, 0, []), some ((.aload_n 0, 1), 0, 0, 0, []), some ((.getfield 28, 3), 9, 2, 0, []), none, none, some ((.getfield 137, 3), 1, 11, 0, []), none, none, some ((.ireturn, 1), 0, 0, 0, []), some ((.ldc 80, 2), 0, 0, (-1000000001), []), none, some ((.ireturn, 1), 0, 0, 0, [])]]
def T_X9_isBed : Tab := [
  [some ((.iload_n 1, 1), 1, 0, 0, []), some ((.ifCond .lt 18, 3), 19, 0, 0, []), none, none, some ((.iload_n 1, 1), 1, 0, 0, []), some ((.aload_n 0, 1), 0, 0, 0, []), some ((.getfield 28, 3), 9, 2, 0, []), none, none, some ((.getfield 81, 3), 1, 2, 0, []), none, none, some ((.if_icmp .ge 7, 3), 19, 0, 0, []), none, none, some ((.iconst 1, 1), 0, 0, 1, [])],
  [some ((.goto 4, 3), 20, 0, 0, []), none, none, some ((.iconst 0, 1), 0, 0, 0, []), some ((.ireturn, 1), 0, 0, 0, [])]]
def T_X9_isOne : Tab := [
  [some ((.iload_n 1, 1), 1, 0, 0, []), some ((.ifCond .lt 18, 3), 19, 0, 0, []), none, none, some ((.iload_n 1, 1), 1, 0, 0, []), some ((.aload_n 0, 1), 0, 0, 0, []), some ((.getfield 28, 3), 9, 2, 0, []), none, none, some ((.getfield 140, 3), 1, 4, 0, []), none, none, some ((.if_icmp .ge 7, 3), 19, 0, 0, []), none, none, some ((.iconst 1, 1), 0, 0, 1, [])],
  [some ((.goto 4, 3), 20, 0, 0, []), none, none, some ((.iconst 0, 1), 0, 0, 0, []), some ((.ireturn, 1), 0, 0, 0, [])]]
def T_X9_isTown : Tab := [
  [some ((.iload_n 0, 1), 0, 0, 0, []), some ((.ifCond .lt 13, 3), 14, 0, 0, []), none, none, some ((.iload_n 0, 1), 0, 0, 0, []), some ((.bipush 8, 2), 0, 0, 8, []), none, some ((.if_icmp .ge 7, 3), 14, 0, 0, []), none, none, some ((.iconst 1, 1), 0, 0, 1, []), some ((.goto 4, 3), 15, 0, 0, []), none, none, some ((.iconst 0, 1), 0, 0, 0, []), some ((.ireturn, 1), 0, 0, 0, [])]]
def T_X9_isKind : Tab := [
  [some ((.iload_n 0, 1), 0, 0, 0, []), some ((.ifCond .lt 13, 3), 14, 0, 0, []), none, none, some ((.iload_n 0, 1), 0, 0, 0, []), some ((.bipush 6, 2), 0, 0, 6, []), none, some ((.if_icmp .ge 7, 3), 14, 0, 0, []), none, none, some ((.iconst 1, 1), 0, 0, 1, []), some ((.goto 4, 3), 15, 0, 0, []), none, none, some ((.iconst 0, 1), 0, 0, 0, []), some ((.ireturn, 1), 0, 0, 0, [])]]
def T_X9_isSheet : Tab := [
  [some ((.iload_n 0, 1), 0, 0, 0, []), some ((.ifCond .lt 12, 3), 13, 0, 0, []), none, none, some ((.iload_n 0, 1), 0, 0, 0, []), some ((.iconst 4, 1), 0, 0, 4, []), some ((.if_icmp .ge 7, 3), 13, 0, 0, []), none, none, some ((.iconst 1, 1), 0, 0, 1, []), some ((.goto 4, 3), 14, 0, 0, []), none, none, some ((.iconst 0, 1), 0, 0, 0, []), some ((.ireturn, 1), 0, 0, 0, [])]]
def T_X9_isSlot : Tab := [
  [some ((.iload_n 0, 1), 0, 0, 0, []), some ((.ifCond .lt 12, 3), 13, 0, 0, []), none, none, some ((.iload_n 0, 1), 0, 0, 0, []), some ((.iconst 5, 1), 0, 0, 5, []), some ((.if_icmp .ge 7, 3), 13, 0, 0, []), none, none, some ((.iconst 1, 1), 0, 0, 1, []), some ((.goto 4, 3), 14, 0, 0, []), none, none, some ((.iconst 0, 1), 0, 0, 0, []), some ((.ireturn, 1), 0, 0, 0, [])]]
def T_X9_mostOfOne : Tab := [
  [some ((.iload_n 0, 1), 0, 0, 0, []), some ((.iconst 2, 1), 0, 0, 2, []), some ((.if_icmp .ge 6, 3), 8, 0, 0, []), none, none, some ((.bipush 7, 2), 0, 0, 7, []), none, some ((.ireturn, 1), 0, 0, 0, []), some ((.iload_n 0, 1), 0, 0, 0, []), some ((.iconst 2, 1), 0, 0, 2, []), some ((.if_icmp .ne 8, 3), 18, 0, 0, []), none, none, some ((.bipush 9, 2), 0, 0, 9, []), none, some ((.goto 4, 3), 19, 0, 0, [])],
  [none, none, some ((.iconst 1, 1), 0, 0, 1, []), some ((.ireturn, 1), 0, 0, 0, [])]]
def T_X9_within : Tab := [
  [some ((.iconst 0, 1), 0, 0, 0, []), some ((.iload_n 1, 1), 1, 0, 0, []), some ((.iload_n 0, 1), 0, 0, 0, []), some ((.invokestatic 184, 3), 0, 108, 0, []), none, none, some ((.invokestatic 339, 3), 0, 107, 0, []), none, none, some ((.ireturn, 1), 0, 0, 0, [])]]
def T_X9_rightAhead : Tab := [
  [some ((.aload_n 0, 1), 0, 0, 0, []), some ((.getfield 32, 3), 9, 3, 0, []), none, none, some ((.aload_n 0, 1), 0, 0, 0, []), some ((.getfield 35, 3), 9, 4, 0, []), none, none, some ((.invokevirtual 220, 3), 7, 2, 0, [(0, 1)]), none, none, some ((.iconst 0, 1), 0, 0, 0, []), some ((.istore_n 3, 1), 3, 0, 0, []), some ((.iload_n 3, 1), 3, 0, 0, []), some ((.iload_n 1, 1), 1, 0, 0, []), some ((.if_icmp .ge 72, 3), 87, 0, 0, [])],
  [none, none, some ((.iload_n 3, 1), 3, 0, 0, []), some ((.iload_n 2, 1), 2, 0, 0, []), some ((.if_icmp .ge 67, 3), 87, 0, 0, []), none, none, some ((.iload_n 3, 1), 3, 0, 0, []), some ((.iconst 2, 1), 0, 0, 2, []), some ((.irem, 1), 0, 0, 0, []), some ((.ifCond .ne 7, 3), 33, 0, 0, []), none, none, some ((.iconst 1, 1), 0, 0, 1, []), some ((.goto 4, 3), 34, 0, 0, []), none],
  [none, some ((.iconst 0, 1), 0, 0, 0, []), some ((.istore 4, 2), 4, 0, 0, []), none, some ((.iload 4, 2), 4, 0, 0, []), none, some ((.ifCond .eq 10, 3), 48, 0, 0, []), none, none, some ((.aload_n 0, 1), 0, 0, 0, []), some ((.getfield 32, 3), 9, 3, 0, []), none, none, some ((.invokevirtual 189, 3), 19, 1, 0, [(0, 1)]), none, none],
  [some ((.aload_n 0, 1), 0, 0, 0, []), some ((.getfield 65, 3), 9, 9, 0, []), none, none, some ((.iload_n 3, 1), 3, 0, 0, []), some ((.iaload, 1), 0, 0, 0, []), some ((.iload 4, 2), 4, 0, 0, []), none, some ((.ifCond .eq 13, 3), 69, 0, 0, []), none, none, some ((.aload_n 0, 1), 0, 0, 0, []), some ((.getfield 32, 3), 9, 3, 0, []), none, none, some ((.getfield 181, 3), 1, 6, 0, [])],
  [none, none, some ((.goto 10, 3), 76, 0, 0, []), none, none, some ((.aload_n 0, 1), 0, 0, 0, []), some ((.getfield 32, 3), 9, 3, 0, []), none, none, some ((.invokevirtual 201, 3), 16, 1, 0, [(0, 1)]), none, none, some ((.if_icmp .eq 5, 3), 81, 0, 0, []), none, none, some ((.iload_n 3, 1), 3, 0, 0, [])],
  [some ((.ireturn, 1), 0, 0, 0, []), some ((.iinc 3 1, 3), 3, 0, 1, []), none, none, some ((.goto (-71), 3), 13, 0, 0, []), none, none, some ((.iload_n 1, 1), 1, 0, 0, []), some ((.iload_n 2, 1), 2, 0, 0, []), some ((.invokestatic 184, 3), 0, 108, 0, []), none, none, some ((.ireturn, 1), 0, 0, 0, [])]]
def T_X10_in : Tab := [
  [some ((.iload_n 0, 1), 0, 0, 0, []), some ((.iload_n 1, 1), 1, 0, 0, []), some ((.if_icmp .lt 12, 3), 14, 0, 0, []), none, none, some ((.iload_n 0, 1), 0, 0, 0, []), some ((.iload_n 2, 1), 2, 0, 0, []), some ((.if_icmp .gt 7, 3), 14, 0, 0, []), none, none, some ((.iconst 1, 1), 0, 0, 1, []), some ((.goto 4, 3), 15, 0, 0, []), none, none, some ((.iconst 0, 1), 0, 0, 0, []), some ((.ireturn, 1), 0, 0, 0, [])]]
def T_X10_within : Tab := [
  [some ((.iload_n 0, 1), 0, 0, 0, []), some ((.iload_n 1, 1), 1, 0, 0, []), some ((.if_icmp .ge 7, 3), 9, 0, 0, []), none, none, some ((.iload_n 1, 1), 1, 0, 0, []), some ((.goto 13, 3), 19, 0, 0, []), none, none, some ((.iload_n 0, 1), 0, 0, 0, []), some ((.iload_n 2, 1), 2, 0, 0, []), some ((.if_icmp .le 7, 3), 18, 0, 0, []), none, none, some ((.iload_n 2, 1), 2, 0, 0, []), some ((.goto 4, 3), 19, 0, 0, [])],
  [none, none, some ((.iload_n 0, 1), 0, 0, 0, []), some ((.ireturn, 1), 0, 0, 0, [])]]
def T_X10_copyAll : Tab := [
  [some ((.iconst 0, 1), 0, 0, 0, []), some ((.istore_n 2, 1), 2, 0, 0, []), some ((.iload_n 2, 1), 2, 0, 0, []), some ((.sipush 1458, 3), 0, 0, 1458, []), none, none, some ((.if_icmp .ge 15, 3), 21, 0, 0, []), none, none, some ((.aload_n 1, 1), 1, 0, 0, []), some ((.iload_n 2, 1), 2, 0, 0, []), some ((.aload_n 0, 1), 0, 0, 0, []), some ((.iload_n 2, 1), 2, 0, 0, []), some ((.iaload, 1), 0, 0, 0, []), some ((.iastore, 1), 0, 0, 0, []), some ((.iinc 2 1, 3), 2, 0, 1, [])],
  [none, none, some ((.goto (-16), 3), 2, 0, 0, []), none, none, some ((.return_, 1), 0, 0, 0, [])]]
def T_X10_isBed : Tab := [
  [some ((.iload_n 1, 1), 1, 0, 0, []), some ((.iconst 0, 1), 0, 0, 0, []), some ((.aload_n 0, 1), 0, 0, 0, []), some ((.getfield 9, 3), 10, 0, 0, []), none, none, some ((.iconst 1, 1), 0, 0, 1, []), some ((.iaload, 1), 0, 0, 0, []), some ((.iconst 1, 1), 0, 0, 1, []), some ((.isub, 1), 0, 0, 0, []), some ((.invokestatic 87, 3), 120, 3, 0, []), none, none, some ((.ireturn, 1), 0, 0, 0, [])]]
def T_X10_isOne : Tab := [
  [some ((.iload_n 1, 1), 1, 0, 0, []), some ((.iconst 0, 1), 0, 0, 0, []), some ((.aload_n 0, 1), 0, 0, 0, []), some ((.getfield 9, 3), 10, 0, 0, []), none, none, some ((.iconst 4, 1), 0, 0, 4, []), some ((.iaload, 1), 0, 0, 0, []), some ((.iconst 1, 1), 0, 0, 1, []), some ((.isub, 1), 0, 0, 0, []), some ((.invokestatic 87, 3), 120, 3, 0, []), none, none, some ((.ireturn, 1), 0, 0, 0, [])]]
def T_X10_isTown : Tab := [
  [some ((.iload_n 0, 1), 0, 0, 0, []), some ((.iconst 0, 1), 0, 0, 0, []), some ((.bipush 7, 2), 0, 0, 7, []), none, some ((.invokestatic 87, 3), 120, 3, 0, []), none, none, some ((.ireturn, 1), 0, 0, 0, [])]]
def T_X10_of : Tab := [
  [some ((.aload_n 0, 1), 0, 0, 0, []), some ((.getfield 9, 3), 10, 0, 0, []), none, none, some ((.bipush 10, 2), 0, 0, 10, []), none, some ((.iconst 4, 1), 0, 0, 4, []), some ((.iload_n 1, 1), 1, 0, 0, []), some ((.imul, 1), 0, 0, 0, []), some ((.iadd, 1), 0, 0, 0, []), some ((.iload_n 2, 1), 2, 0, 0, []), some ((.iadd, 1), 0, 0, 0, []), some ((.iaload, 1), 0, 0, 0, []), some ((.ireturn, 1), 0, 0, 0, [])]]
def T_X10_put : Tab := [
  [some ((.aload_n 0, 1), 0, 0, 0, []), some ((.getfield 9, 3), 10, 0, 0, []), none, none, some ((.bipush 10, 2), 0, 0, 10, []), none, some ((.iconst 4, 1), 0, 0, 4, []), some ((.iload_n 1, 1), 1, 0, 0, []), some ((.imul, 1), 0, 0, 0, []), some ((.iadd, 1), 0, 0, 0, []), some ((.iload_n 2, 1), 2, 0, 0, []), some ((.iadd, 1), 0, 0, 0, []), some ((.iload_n 3, 1), 3, 0, 0, []), some ((.iastore, 1), 0, 0, 0, []), some ((.return_, 1), 0, 0, 0, [])]]
def T_X10_by : Tab := [
  [some ((.aload_n 0, 1), 0, 0, 0, []), some ((.getfield 9, 3), 10, 0, 0, []), none, none, some ((.bipush 50, 2), 0, 0, 50, []), none, some ((.iconst 4, 1), 0, 0, 4, []), some ((.iload_n 1, 1), 1, 0, 0, []), some ((.imul, 1), 0, 0, 0, []), some ((.iadd, 1), 0, 0, 0, []), some ((.iload_n 2, 1), 2, 0, 0, []), some ((.iadd, 1), 0, 0, 0, []), some ((.iaload, 1), 0, 0, 0, []), some ((.ireturn, 1), 0, 0, 0, [])]]
def T_X10_lays : Tab := [
  [some ((.aload_n 0, 1), 0, 0, 0, []), some ((.getfield 9, 3), 10, 0, 0, []), none, none, some ((.bipush 50, 2), 0, 0, 50, []), none, some ((.iconst 4, 1), 0, 0, 4, []), some ((.iload_n 1, 1), 1, 0, 0, []), some ((.imul, 1), 0, 0, 0, []), some ((.iadd, 1), 0, 0, 0, []), some ((.iload_n 2, 1), 2, 0, 0, []), some ((.iadd, 1), 0, 0, 0, []), some ((.iload_n 3, 1), 3, 0, 0, []), some ((.iastore, 1), 0, 0, 0, []), some ((.return_, 1), 0, 0, 0, [])]]
def T_X10_swaps : Tab := [
  [some ((.aload_n 0, 1), 0, 0, 0, []), some ((.getfield 9, 3), 10, 0, 0, []), none, none, some ((.iload_n 1, 1), 1, 0, 0, []), some ((.iaload, 1), 0, 0, 0, []), some ((.istore_n 3, 1), 3, 0, 0, []), some ((.aload_n 0, 1), 0, 0, 0, []), some ((.getfield 9, 3), 10, 0, 0, []), none, none, some ((.iload_n 1, 1), 1, 0, 0, []), some ((.iload_n 2, 1), 2, 0, 0, []), some ((.iastore, 1), 0, 0, 0, []), some ((.iload_n 3, 1), 3, 0, 0, []), some ((.ireturn, 1), 0, 0, 0, [])]]
def T_X10_comes : Tab := [
  [some ((.aload_n 0, 1), 0, 0, 0, []), some ((.getfield 9, 3), 10, 0, 0, []), none, none, some ((.iconst 1, 1), 0, 0, 1, []), some ((.iaload, 1), 0, 0, 0, []), some ((.istore 5, 2), 5, 0, 0, []), none, some ((.aload_n 0, 1), 0, 0, 0, []), some ((.getfield 9, 3), 10, 0, 0, []), none, none, some ((.iconst 1, 1), 0, 0, 1, []), some ((.dup2, 1), 0, 0, 0, []), some ((.iaload, 1), 0, 0, 0, []), some ((.iconst 1, 1), 0, 0, 1, [])],
  [some ((.iadd, 1), 0, 0, 0, []), some ((.iastore, 1), 0, 0, 0, []), some ((.aload_n 0, 1), 0, 0, 0, []), some ((.iload 5, 2), 5, 0, 0, []), none, some ((.iconst 0, 1), 0, 0, 0, []), some ((.iload_n 1, 1), 1, 0, 0, []), some ((.invokevirtual 91, 3), 127, 4, 0, [(0, 10)]), none, none, some ((.aload_n 0, 1), 0, 0, 0, []), some ((.iload 5, 2), 5, 0, 0, []), none, some ((.iconst 1, 1), 0, 0, 1, []), some ((.iload_n 2, 1), 2, 0, 0, []), some ((.invokevirtual 91, 3), 127, 4, 0, [(0, 10)])],
  [none, none, some ((.aload_n 0, 1), 0, 0, 0, []), some ((.iload 5, 2), 5, 0, 0, []), none, some ((.iconst 2, 1), 0, 0, 2, []), some ((.iload_n 3, 1), 3, 0, 0, []), some ((.invokevirtual 91, 3), 127, 4, 0, [(0, 10)]), none, none, some ((.aload_n 0, 1), 0, 0, 0, []), some ((.iload 5, 2), 5, 0, 0, []), none, some ((.iconst 3, 1), 0, 0, 3, []), some ((.iload 4, 2), 4, 0, 0, []), none],
  [some ((.invokevirtual 91, 3), 127, 4, 0, [(0, 10)]), none, none, some ((.iload 5, 2), 5, 0, 0, []), none, some ((.ireturn, 1), 0, 0, 0, [])]]
def T_X10_bed : Tab := [
  [some ((.iload_n 1, 1), 1, 0, 0, []), some ((.iconst 0, 1), 0, 0, 0, []), some ((.iconst 5, 1), 0, 0, 5, []), some ((.invokestatic 87, 3), 120, 3, 0, []), none, none, some ((.ifCond .eq 25, 3), 31, 0, 0, []), none, none, some ((.iload_n 2, 1), 2, 0, 0, []), some ((.invokestatic 95, 3), 125, 1, 0, []), none, none, some ((.ifCond .eq 18, 3), 31, 0, 0, []), none, none],
  [some ((.iload_n 3, 1), 3, 0, 0, []), some ((.invokestatic 95, 3), 125, 1, 0, []), none, none, some ((.ifCond .eq 11, 3), 31, 0, 0, []), none, none, some ((.iload 4, 2), 4, 0, 0, []), none, some ((.invokestatic 95, 3), 125, 1, 0, []), none, none, some ((.ifCond .ne 6, 3), 34, 0, 0, []), none, none, some ((.ldc 99, 2), 0, 0, (-1000000001), [])],
  [none, some ((.ireturn, 1), 0, 0, 0, []), some ((.aload_n 0, 1), 0, 0, 0, []), some ((.getfield 9, 3), 10, 0, 0, []), none, none, some ((.iconst 1, 1), 0, 0, 1, []), some ((.iaload, 1), 0, 0, 0, []), some ((.bipush 10, 2), 0, 0, 10, []), none, some ((.if_icmp .ne 8, 3), 50, 0, 0, []), none, none, some ((.ldc 100, 2), 0, 0, (-1000000003), []), none, some ((.goto 12, 3), 59, 0, 0, [])],
  [none, none, some ((.aload_n 0, 1), 0, 0, 0, []), some ((.iload_n 1, 1), 1, 0, 0, []), some ((.iload_n 2, 1), 2, 0, 0, []), some ((.iload_n 3, 1), 3, 0, 0, []), some ((.iload 4, 2), 4, 0, 0, []), none, some ((.invokevirtual 101, 3), 131, 5, 0, [(0, 10)]), none, none, some ((.ireturn, 1), 0, 0, 0, [])]]
def T_X10_wideOf : Tab := [
  [some ((.aload_n 0, 1), 0, 0, 0, []), some ((.iload_n 1, 1), 1, 0, 0, []), some ((.iconst 0, 1), 0, 0, 0, []), some ((.invokevirtual 105, 3), 126, 3, 0, [(0, 10)]), none, none, some ((.tableswitch 36 2 5 #[30, 36, 32, 34], 30), 42, 0, 0, [(2, 36), (3, 42), (4, 38), (5, 40)]), none, none, none, none, none, none, none, none, none],
  [none, none, none, none, none, none, none, none, none, none, none, none, none, none, none, none],
  [none, none, none, none, some ((.iconst 1, 1), 0, 0, 1, []), some ((.ireturn, 1), 0, 0, 0, []), some ((.iconst 3, 1), 0, 0, 3, []), some ((.ireturn, 1), 0, 0, 0, []), some ((.iconst 4, 1), 0, 0, 4, []), some ((.ireturn, 1), 0, 0, 0, []), some ((.iconst 2, 1), 0, 0, 2, []), some ((.ireturn, 1), 0, 0, 0, [])]]
def T_X10_takesTo : Tab := [
  [some ((.aload_n 0, 1), 0, 0, 0, []), some ((.iload_n 1, 1), 1, 0, 0, []), some ((.iconst 0, 1), 0, 0, 0, []), some ((.invokevirtual 105, 3), 126, 3, 0, [(0, 10)]), none, none, some ((.lookupswitch 75 #[(1, 26), (4, 47)], 26), 81, 0, 0, [(1, 32), (4, 53)]), none, none, none, none, none, none, none, none, none],
  [none, none, none, none, none, none, none, none, none, none, none, none, none, none, none, none],
  [some ((.iload_n 2, 1), 2, 0, 0, []), some ((.iconst 2, 1), 0, 0, 2, []), some ((.if_icmp .ne 12, 3), 46, 0, 0, []), none, none, some ((.aload_n 0, 1), 0, 0, 0, []), some ((.iload_n 1, 1), 1, 0, 0, []), some ((.iconst 2, 1), 0, 0, 2, []), some ((.invokevirtual 105, 3), 126, 3, 0, [(0, 10)]), none, none, some ((.goto 9, 3), 52, 0, 0, []), none, none, some ((.aload_n 0, 1), 0, 0, 0, []), some ((.iload_n 1, 1), 1, 0, 0, [])],
  [some ((.iconst 1, 1), 0, 0, 1, []), some ((.invokevirtual 105, 3), 126, 3, 0, [(0, 10)]), none, none, some ((.ireturn, 1), 0, 0, 0, []), some ((.aload_n 0, 1), 0, 0, 0, []), some ((.getfield 9, 3), 10, 0, 0, []), none, none, some ((.iconst 2, 1), 0, 0, 2, []), some ((.iaload, 1), 0, 0, 0, []), some ((.iconst 2, 1), 0, 0, 2, []), some ((.irem, 1), 0, 0, 0, []), some ((.iconst 1, 1), 0, 0, 1, []), some ((.if_icmp .ne 12, 3), 74, 0, 0, []), none],
  [none, some ((.aload_n 0, 1), 0, 0, 0, []), some ((.iload_n 1, 1), 1, 0, 0, []), some ((.iconst 3, 1), 0, 0, 3, []), some ((.invokevirtual 105, 3), 126, 3, 0, [(0, 10)]), none, none, some ((.goto 9, 3), 80, 0, 0, []), none, none, some ((.aload_n 0, 1), 0, 0, 0, []), some ((.iload_n 1, 1), 1, 0, 0, []), some ((.iconst 2, 1), 0, 0, 2, []), some ((.invokevirtual 105, 3), 126, 3, 0, [(0, 10)]), none, none],
  [some ((.ireturn, 1), 0, 0, 0, []), some ((.aload_n 0, 1), 0, 0, 0, []), some ((.iload_n 1, 1), 1, 0, 0, []), some ((.iconst 2, 1), 0, 0, 2, []), some ((.invokevirtual 105, 3), 126, 3, 0, [(0, 10)]), none, none, some ((.ireturn, 1), 0, 0, 0, [])]]
def T_X10_leadsTo : Tab := [
  [some ((.iconst 1, 1), 0, 0, 1, []), some ((.aload_n 0, 1), 0, 0, 0, []), some ((.iload_n 1, 1), 1, 0, 0, []), some ((.iconst 2, 1), 0, 0, 2, []), some ((.invokevirtual 105, 3), 126, 3, 0, [(0, 10)]), none, none, some ((.ishl, 1), 0, 0, 0, []), some ((.istore_n 2, 1), 2, 0, 0, []), some ((.aload_n 0, 1), 0, 0, 0, []), some ((.iload_n 1, 1), 1, 0, 0, []), some ((.iconst 0, 1), 0, 0, 0, []), some ((.invokevirtual 105, 3), 126, 3, 0, [(0, 10)]), none, none, some ((.iconst 4, 1), 0, 0, 4, [])],
  [some ((.if_icmp .ne 16, 3), 32, 0, 0, []), none, none, some ((.iload_n 2, 1), 2, 0, 0, []), some ((.iconst 1, 1), 0, 0, 1, []), some ((.aload_n 0, 1), 0, 0, 0, []), some ((.iload_n 1, 1), 1, 0, 0, []), some ((.iconst 3, 1), 0, 0, 3, []), some ((.invokevirtual 105, 3), 126, 3, 0, [(0, 10)]), none, none, some ((.ishl, 1), 0, 0, 0, []), some ((.ior, 1), 0, 0, 0, []), some ((.goto 4, 3), 33, 0, 0, []), none, none],
  [some ((.iload_n 2, 1), 2, 0, 0, []), some ((.ireturn, 1), 0, 0, 0, [])]]
def T_X10_worthOf : Tab := [
  [some ((.aload_n 0, 1), 0, 0, 0, []), some ((.iload_n 1, 1), 1, 0, 0, []), some ((.iconst 1, 1), 0, 0, 1, []), some ((.invokevirtual 105, 3), 126, 3, 0, [(0, 10)]), none, none, some ((.aload_n 0, 1), 0, 0, 0, []), some ((.iload_n 1, 1), 1, 0, 0, []), some ((.iconst 2, 1), 0, 0, 2, []), some ((.invokevirtual 105, 3), 126, 3, 0, [(0, 10)]), none, none, some ((.isub, 1), 0, 0, 0, []), some ((.istore_n 2, 1), 2, 0, 0, []), some ((.iload_n 2, 1), 2, 0, 0, []), some ((.ifCond .ge 8, 3), 23, 0, 0, [])],
  [none, none, some ((.iload_n 2, 1), 2, 0, 0, []), some ((.ineg, 1), 0, 0, 0, []), some ((.goto 4, 3), 24, 0, 0, []), none, none, some ((.iload_n 2, 1), 2, 0, 0, []), some ((.istore_n 3, 1), 3, 0, 0, []), some ((.aload_n 0, 1), 0, 0, 0, []), some ((.iload_n 1, 1), 1, 0, 0, []), some ((.iconst 0, 1), 0, 0, 0, []), some ((.invokevirtual 105, 3), 126, 3, 0, [(0, 10)]), none, none, some ((.tableswitch 62 1 5 #[33, 37, 42, 48, 60], 33), 93, 0, 0, [(1, 64), (2, 68), (3, 73), (4, 79), (5, 91)])],
  [none, none, none, none, none, none, none, none, none, none, none, none, none, none, none, none],
  [none, none, none, none, none, none, none, none, none, none, none, none, none, none, none, none],
  [some ((.iload_n 3, 1), 3, 0, 0, []), some ((.iconst 5, 1), 0, 0, 5, []), some ((.iadd, 1), 0, 0, 0, []), some ((.ireturn, 1), 0, 0, 0, []), some ((.bipush 9, 2), 0, 0, 9, []), none, some ((.iload_n 3, 1), 3, 0, 0, []), some ((.isub, 1), 0, 0, 0, []), some ((.ireturn, 1), 0, 0, 0, []), some ((.iconst 2, 1), 0, 0, 2, []), some ((.iload_n 3, 1), 3, 0, 0, []), some ((.iconst 5, 1), 0, 0, 5, []), some ((.iadd, 1), 0, 0, 0, []), some ((.imul, 1), 0, 0, 0, []), some ((.ireturn, 1), 0, 0, 0, []), some ((.bipush 9, 2), 0, 0, 9, [])],
  [none, some ((.iload_n 3, 1), 3, 0, 0, []), some ((.isub, 1), 0, 0, 0, []), some ((.aload_n 0, 1), 0, 0, 0, []), some ((.iload_n 1, 1), 1, 0, 0, []), some ((.iconst 3, 1), 0, 0, 3, []), some ((.invokevirtual 105, 3), 126, 3, 0, [(0, 10)]), none, none, some ((.iadd, 1), 0, 0, 0, []), some ((.ireturn, 1), 0, 0, 0, []), some ((.iconst 1, 1), 0, 0, 1, []), some ((.ireturn, 1), 0, 0, 0, []), some ((.iload_n 3, 1), 3, 0, 0, []), some ((.ireturn, 1), 0, 0, 0, [])]]
def T_X10_told : Tab := [
  [some ((.aload_n 0, 1), 0, 0, 0, []), some ((.iload_n 1, 1), 1, 0, 0, []), some ((.invokevirtual 109, 3), 123, 2, 0, [(0, 10)]), none, none, some ((.ifCond .ne 6, 3), 11, 0, 0, []), none, none, some ((.ldc 99, 2), 0, 0, (-1000000001), []), none, some ((.ireturn, 1), 0, 0, 0, []), some ((.iload_n 2, 1), 2, 0, 0, []), some ((.tableswitch 91 0 8 #[52, 52, 52, 52, 59, 65, 72, 79, 85], 52), 103, 0, 0, [(0, 64), (1, 64), (2, 64), (3, 64), (4, 71), (5, 77), (6, 84), (7, 91), (8, 97)]), none, none, none],
  [none, none, none, none, none, none, none, none, none, none, none, none, none, none, none, none],
  [none, none, none, none, none, none, none, none, none, none, none, none, none, none, none, none],
  [none, none, none, none, none, none, none, none, none, none, none, none, none, none, none, none],
  [some ((.aload_n 0, 1), 0, 0, 0, []), some ((.iload_n 1, 1), 1, 0, 0, []), some ((.iload_n 2, 1), 2, 0, 0, []), some ((.invokevirtual 105, 3), 126, 3, 0, [(0, 10)]), none, none, some ((.ireturn, 1), 0, 0, 0, []), some ((.aload_n 0, 1), 0, 0, 0, []), some ((.iload_n 1, 1), 1, 0, 0, []), some ((.invokevirtual 112, 3), 133, 2, 0, [(0, 10)]), none, none, some ((.ireturn, 1), 0, 0, 0, []), some ((.aload_n 0, 1), 0, 0, 0, []), some ((.iload_n 1, 1), 1, 0, 0, []), some ((.iconst 1, 1), 0, 0, 1, [])],
  [some ((.invokevirtual 116, 3), 134, 3, 0, [(0, 10)]), none, none, some ((.ireturn, 1), 0, 0, 0, []), some ((.aload_n 0, 1), 0, 0, 0, []), some ((.iload_n 1, 1), 1, 0, 0, []), some ((.iconst 2, 1), 0, 0, 2, []), some ((.invokevirtual 116, 3), 134, 3, 0, [(0, 10)]), none, none, some ((.ireturn, 1), 0, 0, 0, []), some ((.aload_n 0, 1), 0, 0, 0, []), some ((.iload_n 1, 1), 1, 0, 0, []), some ((.invokevirtual 119, 3), 135, 2, 0, [(0, 10)]), none, none],
  [some ((.ireturn, 1), 0, 0, 0, []), some ((.aload_n 0, 1), 0, 0, 0, []), some ((.iload_n 1, 1), 1, 0, 0, []), some ((.invokevirtual 122, 3), 136, 2, 0, [(0, 10)]), none, none, some ((.ireturn, 1), 0, 0, 0, []), some ((.ldc 99, 2), 0, 0, (-1000000001), []), none, some ((.ireturn, 1), 0, 0, 0, [])]]
def T_X10_isUnder : Tab := [
  [some ((.iload_n 1, 1), 1, 0, 0, []), some ((.ifCond .eq 28, 3), 29, 0, 0, []), none, none, some ((.iload_n 0, 1), 0, 0, 0, []), some ((.iload_n 1, 1), 1, 0, 0, []), some ((.if_icmp .eq 23, 3), 29, 0, 0, []), none, none, some ((.iload_n 1, 1), 1, 0, 0, []), some ((.iconst 1, 1), 0, 0, 1, []), some ((.if_icmp .ne 8, 3), 19, 0, 0, []), none, none, some ((.iload_n 0, 1), 0, 0, 0, []), some ((.iconst 3, 1), 0, 0, 3, [])],
  [some ((.if_icmp .eq 13, 3), 29, 0, 0, []), none, none, some ((.iload_n 1, 1), 1, 0, 0, []), some ((.iconst 2, 1), 0, 0, 2, []), some ((.if_icmp .ne 12, 3), 33, 0, 0, []), none, none, some ((.iload_n 0, 1), 0, 0, 0, []), some ((.iconst 4, 1), 0, 0, 4, []), some ((.if_icmp .ne 7, 3), 33, 0, 0, []), none, none, some ((.iconst 1, 1), 0, 0, 1, []), some ((.goto 4, 3), 34, 0, 0, []), none],
  [none, some ((.iconst 0, 1), 0, 0, 0, []), some ((.ireturn, 1), 0, 0, 0, [])]]
def T_X10_as : Tab := [
  [some ((.aload_n 0, 1), 0, 0, 0, []), some ((.iload_n 1, 1), 1, 0, 0, []), some ((.invokevirtual 109, 3), 123, 2, 0, [(0, 10)]), none, none, some ((.ifCond .eq 12, 3), 17, 0, 0, []), none, none, some ((.iload_n 2, 1), 2, 0, 0, []), some ((.iconst 0, 1), 0, 0, 0, []), some ((.iconst 5, 1), 0, 0, 5, []), some ((.invokestatic 87, 3), 120, 3, 0, []), none, none, some ((.ifCond .ne 6, 3), 20, 0, 0, []), none],
  [none, some ((.ldc 99, 2), 0, 0, (-1000000001), []), none, some ((.ireturn, 1), 0, 0, 0, []), some ((.aload_n 0, 1), 0, 0, 0, []), some ((.iload_n 1, 1), 1, 0, 0, []), some ((.iconst 0, 1), 0, 0, 0, []), some ((.invokevirtual 105, 3), 126, 3, 0, [(0, 10)]), none, none, some ((.iload_n 2, 1), 2, 0, 0, []), some ((.invokestatic 125, 3), 138, 2, 0, []), none, none, some ((.ifCond .eq 12, 3), 42, 0, 0, []), none],
  [none, some ((.aload_n 0, 1), 0, 0, 0, []), some ((.iload_n 1, 1), 1, 0, 0, []), some ((.iconst 2, 1), 0, 0, 2, []), some ((.invokevirtual 105, 3), 126, 3, 0, [(0, 10)]), none, none, some ((.goto 5, 3), 44, 0, 0, []), none, none, some ((.ldc 129, 2), 0, 0, (-1000000012), []), none, some ((.ireturn, 1), 0, 0, 0, [])]]
def T_X10_turns : Tab := [
  [some ((.aload_n 0, 1), 0, 0, 0, []), some ((.iload_n 1, 1), 1, 0, 0, []), some ((.invokevirtual 109, 3), 123, 2, 0, [(0, 10)]), none, none, some ((.ifCond .eq 26, 3), 31, 0, 0, []), none, none, some ((.iload_n 2, 1), 2, 0, 0, []), some ((.iconst 0, 1), 0, 0, 0, []), some ((.iconst 5, 1), 0, 0, 5, []), some ((.invokestatic 87, 3), 120, 3, 0, []), none, none, some ((.ifCond .eq 17, 3), 31, 0, 0, []), none],
  [none, some ((.aload_n 0, 1), 0, 0, 0, []), some ((.bipush 10, 2), 0, 0, 10, []), none, some ((.iconst 4, 1), 0, 0, 4, []), some ((.iload_n 1, 1), 1, 0, 0, []), some ((.imul, 1), 0, 0, 0, []), some ((.iadd, 1), 0, 0, 0, []), some ((.iload_n 2, 1), 2, 0, 0, []), some ((.invokevirtual 130, 3), 130, 3, 0, [(0, 10)]), none, none, some ((.goto 5, 3), 33, 0, 0, []), none, none, some ((.ldc 99, 2), 0, 0, (-1000000001), [])],
  [none, some ((.ireturn, 1), 0, 0, 0, [])]]
def T_X10_set : Tab := [
  [some ((.aload_n 0, 1), 0, 0, 0, []), some ((.iload_n 1, 1), 1, 0, 0, []), some ((.invokevirtual 109, 3), 123, 2, 0, [(0, 10)]), none, none, some ((.ifCond .eq 35, 3), 40, 0, 0, []), none, none, some ((.iload_n 2, 1), 2, 0, 0, []), some ((.iconst 1, 1), 0, 0, 1, []), some ((.iconst 3, 1), 0, 0, 3, []), some ((.invokestatic 87, 3), 120, 3, 0, []), none, none, some ((.ifCond .eq 26, 3), 40, 0, 0, []), none],
  [none, some ((.iload_n 3, 1), 3, 0, 0, []), some ((.invokestatic 95, 3), 125, 1, 0, []), none, none, some ((.ifCond .eq 19, 3), 40, 0, 0, []), none, none, some ((.aload_n 0, 1), 0, 0, 0, []), some ((.bipush 10, 2), 0, 0, 10, []), none, some ((.iconst 4, 1), 0, 0, 4, []), some ((.iload_n 1, 1), 1, 0, 0, []), some ((.imul, 1), 0, 0, 0, []), some ((.iadd, 1), 0, 0, 0, []), some ((.iload_n 2, 1), 2, 0, 0, [])],
  [some ((.iadd, 1), 0, 0, 0, []), some ((.iload_n 3, 1), 3, 0, 0, []), some ((.invokevirtual 130, 3), 130, 3, 0, [(0, 10)]), none, none, some ((.goto 5, 3), 42, 0, 0, []), none, none, some ((.ldc 99, 2), 0, 0, (-1000000001), []), none, some ((.ireturn, 1), 0, 0, 0, [])]]
def T_X10_carry : Tab := [
  [some ((.iload_n 1, 1), 1, 0, 0, []), some ((.iconst 0, 1), 0, 0, 0, []), some ((.bipush 100, 2), 0, 0, 100, []), none, some ((.invokestatic 87, 3), 120, 3, 0, []), none, none, some ((.ifCond .eq 12, 3), 19, 0, 0, []), none, none, some ((.aload_n 0, 1), 0, 0, 0, []), some ((.iconst 3, 1), 0, 0, 3, []), some ((.iload_n 1, 1), 1, 0, 0, []), some ((.invokevirtual 130, 3), 130, 3, 0, [(0, 10)]), none, none],
  [some ((.goto 5, 3), 21, 0, 0, []), none, none, some ((.ldc 99, 2), 0, 0, (-1000000001), []), none, some ((.ireturn, 1), 0, 0, 0, [])]]
def T_X10_draw : Tab := [
  [some ((.aload_n 0, 1), 0, 0, 0, []), some ((.getfield 9, 3), 10, 0, 0, []), none, none, some ((.iconst 0, 1), 0, 0, 0, []), some ((.aload_n 0, 1), 0, 0, 0, []), some ((.getfield 9, 3), 10, 0, 0, []), none, none, some ((.iconst 0, 1), 0, 0, 0, []), some ((.iaload, 1), 0, 0, 0, []), some ((.ldc 133, 2), 0, 0, 1103515245, []), none, some ((.imul, 1), 0, 0, 0, []), some ((.sipush 12345, 3), 0, 0, 12345, []), none],
  [none, some ((.iadd, 1), 0, 0, 0, []), some ((.iastore, 1), 0, 0, 0, []), some ((.aload_n 0, 1), 0, 0, 0, []), some ((.getfield 9, 3), 10, 0, 0, []), none, none, some ((.iconst 0, 1), 0, 0, 0, []), some ((.iaload, 1), 0, 0, 0, []), some ((.bipush 8, 2), 0, 0, 8, []), none, some ((.iushr, 1), 0, 0, 0, []), some ((.ireturn, 1), 0, 0, 0, [])]]
def T_X10_deal : Tab := [
  [some ((.iload_n 1, 1), 1, 0, 0, []), some ((.iconst 1, 1), 0, 0, 1, []), some ((.bipush 10, 2), 0, 0, 10, []), none, some ((.invokestatic 87, 3), 120, 3, 0, []), none, none, some ((.ifCond .ne 6, 3), 13, 0, 0, []), none, none, some ((.ldc 99, 2), 0, 0, (-1000000001), []), none, some ((.ireturn, 1), 0, 0, 0, []), some ((.iconst 0, 1), 0, 0, 0, []), some ((.istore_n 2, 1), 2, 0, 0, []), some ((.iload_n 2, 1), 2, 0, 0, [])],
  [some ((.iload_n 1, 1), 1, 0, 0, []), some ((.if_icmp .ge 64, 3), 81, 0, 0, []), none, none, some ((.aload_n 0, 1), 0, 0, 0, []), some ((.getfield 9, 3), 10, 0, 0, []), none, none, some ((.iconst 1, 1), 0, 0, 1, []), some ((.iaload, 1), 0, 0, 0, []), some ((.bipush 10, 2), 0, 0, 10, []), none, some ((.if_icmp .ge 53, 3), 81, 0, 0, []), none, none, some ((.aload_n 0, 1), 0, 0, 0, [])],
  [some ((.invokevirtual 134, 3), 143, 1, 0, [(0, 10)]), none, none, some ((.bipush 6, 2), 0, 0, 6, []), none, some ((.irem, 1), 0, 0, 0, []), some ((.istore_n 3, 1), 3, 0, 0, []), some ((.aload_n 0, 1), 0, 0, 0, []), some ((.invokevirtual 134, 3), 143, 1, 0, [(0, 10)]), none, none, some ((.bipush 8, 2), 0, 0, 8, []), none, some ((.irem, 1), 0, 0, 0, []), some ((.istore 4, 2), 4, 0, 0, []), none],
  [some ((.aload_n 0, 1), 0, 0, 0, []), some ((.invokevirtual 134, 3), 143, 1, 0, [(0, 10)]), none, none, some ((.bipush 8, 2), 0, 0, 8, []), none, some ((.irem, 1), 0, 0, 0, []), some ((.istore 5, 2), 5, 0, 0, []), none, some ((.aload_n 0, 1), 0, 0, 0, []), some ((.iload_n 3, 1), 3, 0, 0, []), some ((.iload 4, 2), 4, 0, 0, []), none, some ((.iload 5, 2), 5, 0, 0, []), none, some ((.aload_n 0, 1), 0, 0, 0, [])],
  [some ((.invokevirtual 134, 3), 143, 1, 0, [(0, 10)]), none, none, some ((.bipush 8, 2), 0, 0, 8, []), none, some ((.irem, 1), 0, 0, 0, []), some ((.invokevirtual 101, 3), 131, 5, 0, [(0, 10)]), none, none, some ((.istore 6, 2), 6, 0, 0, []), none, some ((.iinc 2 1, 3), 2, 0, 1, []), none, none, some ((.goto (-63), 3), 15, 0, 0, []), none],
  [none, some ((.iload_n 2, 1), 2, 0, 0, []), some ((.ireturn, 1), 0, 0, 0, [])]]
def T_X10_seed : Tab := [
  [some ((.aload_n 0, 1), 0, 0, 0, []), some ((.iconst 0, 1), 0, 0, 0, []), some ((.iload_n 1, 1), 1, 0, 0, []), some ((.invokevirtual 130, 3), 130, 3, 0, [(0, 10)]), none, none, some ((.ireturn, 1), 0, 0, 0, [])]]
def T_X10_one : Tab := [
  [some ((.iload_n 1, 1), 1, 0, 0, []), some ((.invokestatic 95, 3), 125, 1, 0, []), none, none, some ((.ifCond .eq 10, 3), 14, 0, 0, []), none, none, some ((.iload_n 2, 1), 2, 0, 0, []), some ((.invokestatic 95, 3), 125, 1, 0, []), none, none, some ((.ifCond .ne 6, 3), 17, 0, 0, []), none, none, some ((.ldc 99, 2), 0, 0, (-1000000001), []), none],
  [some ((.ireturn, 1), 0, 0, 0, []), some ((.aload_n 0, 1), 0, 0, 0, []), some ((.getfield 9, 3), 10, 0, 0, []), none, none, some ((.iconst 4, 1), 0, 0, 4, []), some ((.iaload, 1), 0, 0, 0, []), some ((.istore_n 3, 1), 3, 0, 0, []), some ((.iload_n 3, 1), 3, 0, 0, []), some ((.bipush 9, 2), 0, 0, 9, []), none, some ((.if_icmp .ne 6, 3), 33, 0, 0, []), none, none, some ((.ldc 100, 2), 0, 0, (-1000000003), []), none],
  [some ((.ireturn, 1), 0, 0, 0, []), some ((.aload_n 0, 1), 0, 0, 0, []), some ((.getfield 9, 3), 10, 0, 0, []), none, none, some ((.iconst 4, 1), 0, 0, 4, []), some ((.dup2, 1), 0, 0, 0, []), some ((.iaload, 1), 0, 0, 0, []), some ((.iconst 1, 1), 0, 0, 1, []), some ((.iadd, 1), 0, 0, 0, []), some ((.iastore, 1), 0, 0, 0, []), some ((.aload_n 0, 1), 0, 0, 0, []), some ((.iload_n 3, 1), 3, 0, 0, []), some ((.iconst 0, 1), 0, 0, 0, []), some ((.iload_n 1, 1), 1, 0, 0, []), some ((.invokevirtual 138, 3), 129, 4, 0, [(0, 10)])],
  [none, none, some ((.aload_n 0, 1), 0, 0, 0, []), some ((.iload_n 3, 1), 3, 0, 0, []), some ((.iconst 1, 1), 0, 0, 1, []), some ((.iload_n 2, 1), 2, 0, 0, []), some ((.invokevirtual 138, 3), 129, 4, 0, [(0, 10)]), none, none, some ((.aload_n 0, 1), 0, 0, 0, []), some ((.iload_n 3, 1), 3, 0, 0, []), some ((.iconst 2, 1), 0, 0, 2, []), some ((.iconst 0, 1), 0, 0, 0, []), some ((.invokevirtual 138, 3), 129, 4, 0, [(0, 10)]), none, none],
  [some ((.aload_n 0, 1), 0, 0, 0, []), some ((.iload_n 3, 1), 3, 0, 0, []), some ((.iconst 3, 1), 0, 0, 3, []), some ((.iconst 0, 1), 0, 0, 0, []), some ((.invokevirtual 138, 3), 129, 4, 0, [(0, 10)]), none, none, some ((.iload_n 3, 1), 3, 0, 0, []), some ((.ireturn, 1), 0, 0, 0, [])]]
def T_X10_thereIn : Tab := [
  [some ((.iconst 0, 1), 0, 0, 0, []), some ((.istore_n 2, 1), 2, 0, 0, []), some ((.iconst 0, 1), 0, 0, 0, []), some ((.istore_n 3, 1), 3, 0, 0, []), some ((.iload_n 3, 1), 3, 0, 0, []), some ((.aload_n 0, 1), 0, 0, 0, []), some ((.getfield 9, 3), 10, 0, 0, []), none, none, some ((.iconst 4, 1), 0, 0, 4, []), some ((.iaload, 1), 0, 0, 0, []), some ((.if_icmp .ge 36, 3), 47, 0, 0, []), none, none, some ((.iload_n 2, 1), 2, 0, 0, []), some ((.aload_n 0, 1), 0, 0, 0, [])],
  [some ((.iload_n 3, 1), 3, 0, 0, []), some ((.iconst 0, 1), 0, 0, 0, []), some ((.invokevirtual 141, 3), 128, 3, 0, [(0, 10)]), none, none, some ((.iload_n 1, 1), 1, 0, 0, []), some ((.if_icmp .ne 16, 3), 38, 0, 0, []), none, none, some ((.aload_n 0, 1), 0, 0, 0, []), some ((.iload_n 3, 1), 3, 0, 0, []), some ((.iconst 3, 1), 0, 0, 3, []), some ((.invokevirtual 141, 3), 128, 3, 0, [(0, 10)]), none, none, some ((.ifCond .ne 7, 3), 38, 0, 0, [])],
  [none, none, some ((.iconst 1, 1), 0, 0, 1, []), some ((.goto 4, 3), 39, 0, 0, []), none, none, some ((.iconst 0, 1), 0, 0, 0, []), some ((.iadd, 1), 0, 0, 0, []), some ((.istore_n 2, 1), 2, 0, 0, []), some ((.iinc 3 1, 3), 3, 0, 1, []), none, none, some ((.goto (-40), 3), 4, 0, 0, []), none, none, some ((.iload_n 2, 1), 2, 0, 0, [])],
  [some ((.ireturn, 1), 0, 0, 0, [])]]
def T_X10_hoursGive : Tab := [
  [some ((.aload_n 0, 1), 0, 0, 0, []), some ((.iconst 0, 1), 0, 0, 0, []), some ((.invokevirtual 144, 3), 197, 2, 0, [(0, 10)]), none, none, some ((.istore_n 2, 1), 2, 0, 0, []), some ((.aload_n 0, 1), 0, 0, 0, []), some ((.aload_n 0, 1), 0, 0, 0, []), some ((.iload_n 1, 1), 1, 0, 0, []), some ((.iconst 0, 1), 0, 0, 0, []), some ((.invokevirtual 141, 3), 128, 3, 0, [(0, 10)]), none, none, some ((.invokevirtual 147, 3), 147, 2, 0, [(0, 10)]), none, none],
  [some ((.istore_n 3, 1), 3, 0, 0, []), some ((.aload_n 0, 1), 0, 0, 0, []), some ((.getfield 57, 3), 10, 26, 0, []), none, none, some ((.iconst 0, 1), 0, 0, 0, []), some ((.aload_n 0, 1), 0, 0, 0, []), some ((.iload_n 1, 1), 1, 0, 0, []), some ((.iconst 2, 1), 0, 0, 2, []), some ((.invokevirtual 141, 3), 128, 3, 0, [(0, 10)]), none, none, some ((.iastore, 1), 0, 0, 0, []), some ((.aload_n 0, 1), 0, 0, 0, []), some ((.getfield 57, 3), 10, 26, 0, []), none],
  [none, some ((.iconst 1, 1), 0, 0, 1, []), some ((.aload_n 0, 1), 0, 0, 0, []), some ((.getfield 9, 3), 10, 0, 0, []), none, none, some ((.iconst 2, 1), 0, 0, 2, []), some ((.iaload, 1), 0, 0, 0, []), some ((.iastore, 1), 0, 0, 0, []), some ((.aload_n 0, 1), 0, 0, 0, []), some ((.getfield 57, 3), 10, 26, 0, []), none, none, some ((.iconst 2, 1), 0, 0, 2, []), some ((.iload_n 3, 1), 3, 0, 0, []), some ((.iastore, 1), 0, 0, 0, [])],
  [some ((.iload_n 2, 1), 2, 0, 0, []), some ((.ifCond .ge 7, 3), 56, 0, 0, []), none, none, some ((.iconst 1, 1), 0, 0, 1, []), some ((.goto 14, 3), 67, 0, 0, []), none, none, some ((.aload_n 0, 1), 0, 0, 0, []), some ((.iload_n 2, 1), 2, 0, 0, []), some ((.invokevirtual 150, 3), 200, 2, 0, [(0, 10)]), none, none, some ((.iconst 0, 1), 0, 0, 0, []), some ((.bipush 9, 2), 0, 0, 9, []), none],
  [some ((.invokestatic 153, 3), 121, 3, 0, []), none, none, some ((.ireturn, 1), 0, 0, 0, [])]]
def T_X10_folk : Tab := [
  [some ((.aload_n 0, 1), 0, 0, 0, []), some ((.iload_n 1, 1), 1, 0, 0, []), some ((.invokevirtual 157, 3), 124, 2, 0, [(0, 10)]), none, none, some ((.ifCond .eq 12, 3), 17, 0, 0, []), none, none, some ((.iload_n 2, 1), 2, 0, 0, []), some ((.iconst 0, 1), 0, 0, 0, []), some ((.iconst 4, 1), 0, 0, 4, []), some ((.invokestatic 87, 3), 120, 3, 0, []), none, none, some ((.ifCond .ne 6, 3), 20, 0, 0, []), none],
  [none, some ((.ldc 99, 2), 0, 0, (-1000000001), []), none, some ((.ireturn, 1), 0, 0, 0, []), some ((.iload_n 2, 1), 2, 0, 0, []), some ((.iconst 4, 1), 0, 0, 4, []), some ((.if_icmp .ne 11, 3), 33, 0, 0, []), none, none, some ((.aload_n 0, 1), 0, 0, 0, []), some ((.iload_n 1, 1), 1, 0, 0, []), some ((.invokevirtual 160, 3), 148, 2, 0, [(0, 10)]), none, none, some ((.goto 9, 3), 39, 0, 0, []), none],
  [none, some ((.aload_n 0, 1), 0, 0, 0, []), some ((.iload_n 1, 1), 1, 0, 0, []), some ((.iload_n 2, 1), 2, 0, 0, []), some ((.invokevirtual 141, 3), 128, 3, 0, [(0, 10)]), none, none, some ((.ireturn, 1), 0, 0, 0, [])]]
def T_X10_sends : Tab := [
  [some ((.aload_n 0, 1), 0, 0, 0, []), some ((.iload_n 1, 1), 1, 0, 0, []), some ((.invokevirtual 157, 3), 124, 2, 0, [(0, 10)]), none, none, some ((.ifCond .eq 41, 3), 46, 0, 0, []), none, none, some ((.iload_n 2, 1), 2, 0, 0, []), some ((.iconst 0, 1), 0, 0, 0, []), some ((.iconst 3, 1), 0, 0, 3, []), some ((.invokestatic 87, 3), 120, 3, 0, []), none, none, some ((.ifCond .eq 32, 3), 46, 0, 0, []), none],
  [none, some ((.iload_n 3, 1), 3, 0, 0, []), some ((.iconst 0, 1), 0, 0, 0, []), some ((.iload_n 2, 1), 2, 0, 0, []), some ((.iconst 2, 1), 0, 0, 2, []), some ((.if_icmp .ge 8, 3), 29, 0, 0, []), none, none, some ((.bipush 7, 2), 0, 0, 7, []), none, some ((.goto 14, 3), 40, 0, 0, []), none, none, some ((.iload_n 2, 1), 2, 0, 0, []), some ((.iconst 2, 1), 0, 0, 2, []), some ((.if_icmp .ne 8, 3), 39, 0, 0, [])],
  [none, none, some ((.bipush 9, 2), 0, 0, 9, []), none, some ((.goto 4, 3), 40, 0, 0, []), none, none, some ((.iconst 1, 1), 0, 0, 1, []), some ((.invokestatic 87, 3), 120, 3, 0, []), none, none, some ((.ifCond .ne 6, 3), 49, 0, 0, []), none, none, some ((.ldc 99, 2), 0, 0, (-1000000001), []), none],
  [some ((.ireturn, 1), 0, 0, 0, []), some ((.aload_n 0, 1), 0, 0, 0, []), some ((.bipush 50, 2), 0, 0, 50, []), none, some ((.iconst 4, 1), 0, 0, 4, []), some ((.iload_n 1, 1), 1, 0, 0, []), some ((.imul, 1), 0, 0, 0, []), some ((.iadd, 1), 0, 0, 0, []), some ((.iload_n 2, 1), 2, 0, 0, []), some ((.iadd, 1), 0, 0, 0, []), some ((.iload_n 3, 1), 3, 0, 0, []), some ((.invokevirtual 130, 3), 130, 3, 0, [(0, 10)]), none, none, some ((.ireturn, 1), 0, 0, 0, [])]]
def T_X10_who : Tab := [
  [some ((.iload_n 1, 1), 1, 0, 0, []), some ((.invokestatic 95, 3), 125, 1, 0, []), none, none, some ((.ifCond .ne 6, 3), 10, 0, 0, []), none, none, some ((.ldc 99, 2), 0, 0, (-1000000001), []), none, some ((.ireturn, 1), 0, 0, 0, []), some ((.iconst 0, 1), 0, 0, 0, []), some ((.istore_n 2, 1), 2, 0, 0, []), some ((.iconst 0, 1), 0, 0, 0, []), some ((.istore_n 3, 1), 3, 0, 0, []), some ((.iload_n 3, 1), 3, 0, 0, []), some ((.aload_n 0, 1), 0, 0, 0, [])],
  [some ((.getfield 9, 3), 10, 0, 0, []), none, none, some ((.iconst 4, 1), 0, 0, 4, []), some ((.iaload, 1), 0, 0, 0, []), some ((.if_icmp .ge 29, 3), 50, 0, 0, []), none, none, some ((.iload_n 2, 1), 2, 0, 0, []), some ((.aload_n 0, 1), 0, 0, 0, []), some ((.iload_n 3, 1), 3, 0, 0, []), some ((.iconst 0, 1), 0, 0, 0, []), some ((.invokevirtual 141, 3), 128, 3, 0, [(0, 10)]), none, none, some ((.iload_n 1, 1), 1, 0, 0, [])],
  [some ((.if_icmp .ne 9, 3), 41, 0, 0, []), none, none, some ((.iconst 1, 1), 0, 0, 1, []), some ((.iload_n 3, 1), 3, 0, 0, []), some ((.ishl, 1), 0, 0, 0, []), some ((.goto 4, 3), 42, 0, 0, []), none, none, some ((.iconst 0, 1), 0, 0, 0, []), some ((.ior, 1), 0, 0, 0, []), some ((.istore_n 2, 1), 2, 0, 0, []), some ((.iinc 3 1, 3), 3, 0, 1, []), none, none, some ((.goto (-33), 3), 14, 0, 0, [])],
  [none, none, some ((.iload_n 2, 1), 2, 0, 0, []), some ((.ireturn, 1), 0, 0, 0, [])]]
def T_X10_manyOf : Tab := [
  [some ((.iconst 0, 1), 0, 0, 0, []), some ((.istore_n 1, 1), 1, 0, 0, []), some ((.iload_n 0, 1), 0, 0, 0, []), some ((.istore_n 2, 1), 2, 0, 0, []), some ((.iload_n 2, 1), 2, 0, 0, []), some ((.ifCond .eq 15, 3), 20, 0, 0, []), none, none, some ((.iinc 1 1, 3), 1, 0, 1, []), none, none, some ((.iload_n 2, 1), 2, 0, 0, []), some ((.iload_n 2, 1), 2, 0, 0, []), some ((.iconst 1, 1), 0, 0, 1, []), some ((.isub, 1), 0, 0, 0, []), some ((.iand, 1), 0, 0, 0, [])],
  [some ((.istore_n 2, 1), 2, 0, 0, []), some ((.goto (-13), 3), 4, 0, 0, []), none, none, some ((.iload_n 1, 1), 1, 0, 0, []), some ((.ireturn, 1), 0, 0, 0, [])]]
def T_X10_bedFor : Tab := [
  [some ((.aload_n 0, 1), 0, 0, 0, []), some ((.iload_n 1, 1), 1, 0, 0, []), some ((.invokevirtual 160, 3), 148, 2, 0, [(0, 10)]), none, none, some ((.ifCond .ne 5, 3), 10, 0, 0, []), none, none, some ((.iconst (-1), 1), 0, 0, (-1), []), some ((.ireturn, 1), 0, 0, 0, []), some ((.iconst 0, 1), 0, 0, 0, []), some ((.istore_n 2, 1), 2, 0, 0, []), some ((.iload_n 2, 1), 2, 0, 0, []), some ((.aload_n 0, 1), 0, 0, 0, []), some ((.getfield 9, 3), 10, 0, 0, []), none],
  [none, some ((.iconst 1, 1), 0, 0, 1, []), some ((.iaload, 1), 0, 0, 0, []), some ((.if_icmp .ge 43, 3), 62, 0, 0, []), none, none, some ((.aload_n 0, 1), 0, 0, 0, []), some ((.iload_n 2, 1), 2, 0, 0, []), some ((.iconst 1, 1), 0, 0, 1, []), some ((.invokevirtual 105, 3), 126, 3, 0, [(0, 10)]), none, none, some ((.aload_n 0, 1), 0, 0, 0, []), some ((.iload_n 1, 1), 1, 0, 0, []), some ((.iconst 0, 1), 0, 0, 0, []), some ((.invokevirtual 141, 3), 128, 3, 0, [(0, 10)])],
  [none, none, some ((.if_icmp .ne 22, 3), 56, 0, 0, []), none, none, some ((.aload_n 0, 1), 0, 0, 0, []), some ((.getfield 19, 3), 10, 4, 0, []), none, none, some ((.iload_n 2, 1), 2, 0, 0, []), some ((.iaload, 1), 0, 0, 0, []), some ((.invokestatic 163, 3), 152, 1, 0, []), none, none, some ((.aload_n 0, 1), 0, 0, 0, []), some ((.iload_n 2, 1), 2, 0, 0, [])],
  [some ((.invokevirtual 112, 3), 133, 2, 0, [(0, 10)]), none, none, some ((.if_icmp .ge 5, 3), 56, 0, 0, []), none, none, some ((.iload_n 2, 1), 2, 0, 0, []), some ((.ireturn, 1), 0, 0, 0, []), some ((.iinc 2 1, 3), 2, 0, 1, []), none, none, some ((.goto (-47), 3), 12, 0, 0, []), none, none, some ((.iconst (-1), 1), 0, 0, (-1), []), some ((.ireturn, 1), 0, 0, 0, [])]]
def T_X10_liesDown : Tab := [
  [some ((.aload_n 0, 1), 0, 0, 0, []), some ((.iload_n 1, 1), 1, 0, 0, []), some ((.invokevirtual 166, 3), 153, 2, 0, [(0, 10)]), none, none, some ((.istore_n 2, 1), 2, 0, 0, []), some ((.iload_n 2, 1), 2, 0, 0, []), some ((.ifCond .lt 18, 3), 25, 0, 0, []), none, none, some ((.aload_n 0, 1), 0, 0, 0, []), some ((.getfield 19, 3), 10, 4, 0, []), none, none, some ((.iload_n 2, 1), 2, 0, 0, []), some ((.dup2, 1), 0, 0, 0, [])],
  [some ((.iaload, 1), 0, 0, 0, []), some ((.iconst 1, 1), 0, 0, 1, []), some ((.iload_n 1, 1), 1, 0, 0, []), some ((.ishl, 1), 0, 0, 0, []), some ((.ior, 1), 0, 0, 0, []), some ((.iastore, 1), 0, 0, 0, []), some ((.goto 34, 3), 56, 0, 0, []), none, none, some ((.aload_n 0, 1), 0, 0, 0, []), some ((.getfield 9, 3), 10, 0, 0, []), none, none, some ((.bipush 6, 2), 0, 0, 6, []), none, some ((.dup2, 1), 0, 0, 0, [])],
  [some ((.iaload, 1), 0, 0, 0, []), some ((.iconst 1, 1), 0, 0, 1, []), some ((.iadd, 1), 0, 0, 0, []), some ((.iastore, 1), 0, 0, 0, []), some ((.aload_n 0, 1), 0, 0, 0, []), some ((.iload_n 1, 1), 1, 0, 0, []), some ((.iconst 2, 1), 0, 0, 2, []), some ((.aload_n 0, 1), 0, 0, 0, []), some ((.iload_n 1, 1), 1, 0, 0, []), some ((.iconst 2, 1), 0, 0, 2, []), some ((.invokevirtual 141, 3), 128, 3, 0, [(0, 10)]), none, none, some ((.iconst 1, 1), 0, 0, 1, []), some ((.iadd, 1), 0, 0, 0, []), some ((.iconst 0, 1), 0, 0, 0, [])],
  [some ((.bipush 9, 2), 0, 0, 9, []), none, some ((.invokestatic 153, 3), 121, 3, 0, []), none, none, some ((.invokevirtual 138, 3), 129, 4, 0, [(0, 10)]), none, none, some ((.return_, 1), 0, 0, 0, [])]]
def T_X10_wakes : Tab := [
  [some ((.aload_n 0, 1), 0, 0, 0, []), some ((.getfield 19, 3), 10, 4, 0, []), none, none, some ((.iload_n 1, 1), 1, 0, 0, []), some ((.iaload, 1), 0, 0, 0, []), some ((.invokestatic 163, 3), 152, 1, 0, []), none, none, some ((.istore_n 2, 1), 2, 0, 0, []), some ((.aload_n 0, 1), 0, 0, 0, []), some ((.iload_n 1, 1), 1, 0, 0, []), some ((.iload_n 2, 1), 2, 0, 0, []), some ((.invokevirtual 116, 3), 134, 3, 0, [(0, 10)]), none, none],
  [some ((.istore_n 3, 1), 3, 0, 0, []), some ((.aload_n 0, 1), 0, 0, 0, []), some ((.iload_n 1, 1), 1, 0, 0, []), some ((.iconst 0, 1), 0, 0, 0, []), some ((.invokevirtual 105, 3), 126, 3, 0, [(0, 10)]), none, none, some ((.iconst 5, 1), 0, 0, 5, []), some ((.if_icmp .ne 7, 3), 31, 0, 0, []), none, none, some ((.iconst 1, 1), 0, 0, 1, []), some ((.goto 4, 3), 32, 0, 0, []), none, none, some ((.iconst 0, 1), 0, 0, 0, [])],
  [some ((.istore 4, 2), 4, 0, 0, []), none, some ((.iconst 0, 1), 0, 0, 0, []), some ((.istore 5, 2), 5, 0, 0, []), none, some ((.iload 5, 2), 5, 0, 0, []), none, some ((.aload_n 0, 1), 0, 0, 0, []), some ((.getfield 9, 3), 10, 0, 0, []), none, none, some ((.iconst 4, 1), 0, 0, 4, []), some ((.iaload, 1), 0, 0, 0, []), some ((.if_icmp .ge 57, 3), 102, 0, 0, []), none, none],
  [some ((.aload_n 0, 1), 0, 0, 0, []), some ((.getfield 19, 3), 10, 4, 0, []), none, none, some ((.iload_n 1, 1), 1, 0, 0, []), some ((.iaload, 1), 0, 0, 0, []), some ((.iload 5, 2), 5, 0, 0, []), none, some ((.ishr, 1), 0, 0, 0, []), some ((.iconst 1, 1), 0, 0, 1, []), some ((.iand, 1), 0, 0, 0, []), some ((.iconst 1, 1), 0, 0, 1, []), some ((.if_icmp .ne 36, 3), 96, 0, 0, []), none, none, some ((.aload_n 0, 1), 0, 0, 0, [])],
  [some ((.iload 5, 2), 5, 0, 0, []), none, some ((.iconst 0, 1), 0, 0, 0, []), some ((.iload_n 3, 1), 3, 0, 0, []), some ((.invokevirtual 138, 3), 129, 4, 0, [(0, 10)]), none, none, some ((.aload_n 0, 1), 0, 0, 0, []), some ((.iload 5, 2), 5, 0, 0, []), none, some ((.iconst 2, 1), 0, 0, 2, []), some ((.iconst 0, 1), 0, 0, 0, []), some ((.invokevirtual 138, 3), 129, 4, 0, [(0, 10)]), none, none, some ((.aload_n 0, 1), 0, 0, 0, [])],
  [some ((.iload 5, 2), 5, 0, 0, []), none, some ((.iconst 3, 1), 0, 0, 3, []), some ((.iload 4, 2), 4, 0, 0, []), none, some ((.ifCond .eq 7, 3), 92, 0, 0, []), none, none, some ((.iconst 1, 1), 0, 0, 1, []), some ((.goto 4, 3), 93, 0, 0, []), none, none, some ((.iconst 0, 1), 0, 0, 0, []), some ((.invokevirtual 138, 3), 129, 4, 0, [(0, 10)]), none, none],
  [some ((.iinc 5 1, 3), 5, 0, 1, []), none, none, some ((.goto (-62), 3), 37, 0, 0, []), none, none, some ((.aload_n 0, 1), 0, 0, 0, []), some ((.getfield 9, 3), 10, 0, 0, []), none, none, some ((.iconst 5, 1), 0, 0, 5, []), some ((.dup2, 1), 0, 0, 0, []), some ((.iaload, 1), 0, 0, 0, []), some ((.iload_n 2, 1), 2, 0, 0, []), some ((.iadd, 1), 0, 0, 0, []), some ((.iastore, 1), 0, 0, 0, [])],
  [some ((.aload_n 0, 1), 0, 0, 0, []), some ((.getfield 9, 3), 10, 0, 0, []), none, none, some ((.bipush 7, 2), 0, 0, 7, []), none, some ((.dup2, 1), 0, 0, 0, []), some ((.iaload, 1), 0, 0, 0, []), some ((.iload 4, 2), 4, 0, 0, []), none, some ((.ifCond .eq 7, 3), 129, 0, 0, []), none, none, some ((.iload_n 2, 1), 2, 0, 0, []), some ((.goto 4, 3), 130, 0, 0, []), none],
  [none, some ((.iconst 0, 1), 0, 0, 0, []), some ((.iadd, 1), 0, 0, 0, []), some ((.iastore, 1), 0, 0, 0, []), some ((.iload_n 2, 1), 2, 0, 0, []), some ((.ifCond .le 41, 3), 174, 0, 0, []), none, none, some ((.aload_n 0, 1), 0, 0, 0, []), some ((.iload_n 1, 1), 1, 0, 0, []), some ((.iconst 0, 1), 0, 0, 0, []), some ((.invokevirtual 105, 3), 126, 3, 0, [(0, 10)]), none, none, some ((.iconst 3, 1), 0, 0, 3, []), some ((.if_icmp .ne 31, 3), 174, 0, 0, [])],
  [none, none, some ((.aload_n 0, 1), 0, 0, 0, []), some ((.iload_n 1, 1), 1, 0, 0, []), some ((.iconst 1, 1), 0, 0, 1, []), some ((.invokevirtual 105, 3), 126, 3, 0, [(0, 10)]), none, none, some ((.istore 5, 2), 5, 0, 0, []), none, some ((.aload_n 0, 1), 0, 0, 0, []), some ((.iload_n 1, 1), 1, 0, 0, []), some ((.iconst 1, 1), 0, 0, 1, []), some ((.aload_n 0, 1), 0, 0, 0, []), some ((.iload_n 1, 1), 1, 0, 0, []), some ((.iconst 2, 1), 0, 0, 2, [])],
  [some ((.invokevirtual 105, 3), 126, 3, 0, [(0, 10)]), none, none, some ((.invokevirtual 91, 3), 127, 4, 0, [(0, 10)]), none, none, some ((.aload_n 0, 1), 0, 0, 0, []), some ((.iload_n 1, 1), 1, 0, 0, []), some ((.iconst 2, 1), 0, 0, 2, []), some ((.iload 5, 2), 5, 0, 0, []), none, some ((.invokevirtual 91, 3), 127, 4, 0, [(0, 10)]), none, none, some ((.return_, 1), 0, 0, 0, [])]]
def T_X10_night : Tab := [
  [some ((.iconst 0, 1), 0, 0, 0, []), some ((.istore_n 1, 1), 1, 0, 0, []), some ((.iload_n 1, 1), 1, 0, 0, []), some ((.aload_n 0, 1), 0, 0, 0, []), some ((.getfield 9, 3), 10, 0, 0, []), none, none, some ((.iconst 1, 1), 0, 0, 1, []), some ((.iaload, 1), 0, 0, 0, []), some ((.if_icmp .ge 16, 3), 25, 0, 0, []), none, none, some ((.aload_n 0, 1), 0, 0, 0, []), some ((.getfield 19, 3), 10, 4, 0, []), none, none],
  [some ((.iload_n 1, 1), 1, 0, 0, []), some ((.iconst 0, 1), 0, 0, 0, []), some ((.iastore, 1), 0, 0, 0, []), some ((.iinc 1 1, 3), 1, 0, 1, []), none, none, some ((.goto (-20), 3), 2, 0, 0, []), none, none, some ((.iconst 0, 1), 0, 0, 0, []), some ((.istore_n 1, 1), 1, 0, 0, []), some ((.iload_n 1, 1), 1, 0, 0, []), some ((.aload_n 0, 1), 0, 0, 0, []), some ((.getfield 9, 3), 10, 0, 0, []), none, none],
  [some ((.iconst 4, 1), 0, 0, 4, []), some ((.iaload, 1), 0, 0, 0, []), some ((.if_icmp .ge 23, 3), 57, 0, 0, []), none, none, some ((.aload_n 0, 1), 0, 0, 0, []), some ((.iload_n 1, 1), 1, 0, 0, []), some ((.iconst 3, 1), 0, 0, 3, []), some ((.invokevirtual 141, 3), 128, 3, 0, [(0, 10)]), none, none, some ((.ifCond .ne 8, 3), 51, 0, 0, []), none, none, some ((.aload_n 0, 1), 0, 0, 0, []), some ((.iload_n 1, 1), 1, 0, 0, [])],
  [some ((.invokevirtual 169, 3), 154, 2, 0, [(0, 10)]), none, none, some ((.iinc 1 1, 3), 1, 0, 1, []), none, none, some ((.goto (-27), 3), 27, 0, 0, []), none, none, some ((.iconst 0, 1), 0, 0, 0, []), some ((.istore_n 1, 1), 1, 0, 0, []), some ((.iload_n 1, 1), 1, 0, 0, []), some ((.aload_n 0, 1), 0, 0, 0, []), some ((.getfield 9, 3), 10, 0, 0, []), none, none],
  [some ((.iconst 1, 1), 0, 0, 1, []), some ((.iaload, 1), 0, 0, 0, []), some ((.if_icmp .ge 14, 3), 80, 0, 0, []), none, none, some ((.aload_n 0, 1), 0, 0, 0, []), some ((.iload_n 1, 1), 1, 0, 0, []), some ((.invokevirtual 173, 3), 155, 2, 0, [(0, 10)]), none, none, some ((.iinc 1 1, 3), 1, 0, 1, []), none, none, some ((.goto (-18), 3), 59, 0, 0, []), none, none],
  [some ((.aload_n 0, 1), 0, 0, 0, []), some ((.invokevirtual 134, 3), 143, 1, 0, [(0, 10)]), none, none, some ((.bipush 100, 2), 0, 0, 100, []), none, some ((.irem, 1), 0, 0, 0, []), some ((.aload_n 0, 1), 0, 0, 0, []), some ((.getfield 9, 3), 10, 0, 0, []), none, none, some ((.iconst 3, 1), 0, 0, 3, []), some ((.iaload, 1), 0, 0, 0, []), some ((.if_icmp .ge 7, 3), 100, 0, 0, []), none, none],
  [some ((.iconst 1, 1), 0, 0, 1, []), some ((.goto 4, 3), 101, 0, 0, []), none, none, some ((.iconst 0, 1), 0, 0, 0, []), some ((.istore_n 1, 1), 1, 0, 0, []), some ((.iload_n 1, 1), 1, 0, 0, []), some ((.ifCond .eq 48, 3), 151, 0, 0, []), none, none, some ((.aload_n 0, 1), 0, 0, 0, []), some ((.getfield 9, 3), 10, 0, 0, []), none, none, some ((.iconst 1, 1), 0, 0, 1, []), some ((.iaload, 1), 0, 0, 0, [])],
  [some ((.ifCond .le 39, 3), 151, 0, 0, []), none, none, some ((.aload_n 0, 1), 0, 0, 0, []), some ((.invokevirtual 134, 3), 143, 1, 0, [(0, 10)]), none, none, some ((.aload_n 0, 1), 0, 0, 0, []), some ((.getfield 9, 3), 10, 0, 0, []), none, none, some ((.iconst 1, 1), 0, 0, 1, []), some ((.iaload, 1), 0, 0, 0, []), some ((.irem, 1), 0, 0, 0, []), some ((.istore_n 2, 1), 2, 0, 0, []), some ((.aload_n 0, 1), 0, 0, 0, [])],
  [some ((.iload_n 2, 1), 2, 0, 0, []), some ((.iconst 1, 1), 0, 0, 1, []), some ((.aload_n 0, 1), 0, 0, 0, []), some ((.invokevirtual 134, 3), 143, 1, 0, [(0, 10)]), none, none, some ((.bipush 8, 2), 0, 0, 8, []), none, some ((.irem, 1), 0, 0, 0, []), some ((.invokevirtual 91, 3), 127, 4, 0, [(0, 10)]), none, none, some ((.aload_n 0, 1), 0, 0, 0, []), some ((.getfield 9, 3), 10, 0, 0, []), none, none],
  [some ((.bipush 8, 2), 0, 0, 8, []), none, some ((.dup2, 1), 0, 0, 0, []), some ((.iaload, 1), 0, 0, 0, []), some ((.iconst 1, 1), 0, 0, 1, []), some ((.iadd, 1), 0, 0, 0, []), some ((.iastore, 1), 0, 0, 0, []), some ((.aload_n 0, 1), 0, 0, 0, []), some ((.getfield 9, 3), 10, 0, 0, []), none, none, some ((.iconst 2, 1), 0, 0, 2, []), some ((.dup2, 1), 0, 0, 0, []), some ((.iaload, 1), 0, 0, 0, []), some ((.iconst 1, 1), 0, 0, 1, []), some ((.iadd, 1), 0, 0, 0, [])],
  [some ((.iastore, 1), 0, 0, 0, []), some ((.return_, 1), 0, 0, 0, [])]]
def T_X10_goesOn : Tab := [
  [some ((.iconst 0, 1), 0, 0, 0, []), some ((.istore_n 2, 1), 2, 0, 0, []), some ((.iload_n 2, 1), 2, 0, 0, []), some ((.iload_n 1, 1), 1, 0, 0, []), some ((.if_icmp .ge 13, 3), 17, 0, 0, []), none, none, some ((.aload_n 0, 1), 0, 0, 0, []), some ((.invokevirtual 176, 3), 156, 1, 0, [(0, 10)]), none, none, some ((.iinc 2 1, 3), 2, 0, 1, []), none, none, some ((.goto (-12), 3), 2, 0, 0, []), none],
  [none, some ((.return_, 1), 0, 0, 0, [])]]
def T_X10_nights : Tab := [
  [some ((.iload_n 1, 1), 1, 0, 0, []), some ((.iconst 1, 1), 0, 0, 1, []), some ((.bipush 100, 2), 0, 0, 100, []), none, some ((.invokestatic 87, 3), 120, 3, 0, []), none, none, some ((.ifCond .ne 6, 3), 13, 0, 0, []), none, none, some ((.ldc 99, 2), 0, 0, (-1000000001), []), none, some ((.ireturn, 1), 0, 0, 0, []), some ((.aload_n 0, 1), 0, 0, 0, []), some ((.getfield 9, 3), 10, 0, 0, []), none],
  [none, some ((.iconst 5, 1), 0, 0, 5, []), some ((.iaload, 1), 0, 0, 0, []), some ((.istore_n 2, 1), 2, 0, 0, []), some ((.aload_n 0, 1), 0, 0, 0, []), some ((.sipush 9999, 3), 0, 0, 9999, []), none, none, some ((.aload_n 0, 1), 0, 0, 0, []), some ((.getfield 9, 3), 10, 0, 0, []), none, none, some ((.iconst 2, 1), 0, 0, 2, []), some ((.iaload, 1), 0, 0, 0, []), some ((.isub, 1), 0, 0, 0, []), some ((.iconst 0, 1), 0, 0, 0, [])],
  [some ((.iload_n 1, 1), 1, 0, 0, []), some ((.invokestatic 153, 3), 121, 3, 0, []), none, none, some ((.invokevirtual 179, 3), 157, 2, 0, [(0, 10)]), none, none, some ((.aload_n 0, 1), 0, 0, 0, []), some ((.getfield 9, 3), 10, 0, 0, []), none, none, some ((.iconst 5, 1), 0, 0, 5, []), some ((.iaload, 1), 0, 0, 0, []), some ((.iload_n 2, 1), 2, 0, 0, []), some ((.isub, 1), 0, 0, 0, []), some ((.ireturn, 1), 0, 0, 0, [])]]
def T_X10_isHome : Tab := [
  [some ((.aload_n 0, 1), 0, 0, 0, []), some ((.iload_n 1, 1), 1, 0, 0, []), some ((.iconst 0, 1), 0, 0, 0, []), some ((.invokevirtual 141, 3), 128, 3, 0, [(0, 10)]), none, none, some ((.aload_n 0, 1), 0, 0, 0, []), some ((.iload_n 1, 1), 1, 0, 0, []), some ((.iconst 1, 1), 0, 0, 1, []), some ((.invokevirtual 141, 3), 128, 3, 0, [(0, 10)]), none, none, some ((.if_icmp .ne 7, 3), 19, 0, 0, []), none, none, some ((.iconst 1, 1), 0, 0, 1, [])],
  [some ((.goto 4, 3), 20, 0, 0, []), none, none, some ((.iconst 0, 1), 0, 0, 0, []), some ((.ireturn, 1), 0, 0, 0, [])]]
def T_X10_atHome : Tab := [
  [some ((.iconst 0, 1), 0, 0, 0, []), some ((.istore_n 1, 1), 1, 0, 0, []), some ((.iconst 0, 1), 0, 0, 0, []), some ((.istore_n 2, 1), 2, 0, 0, []), some ((.iload_n 2, 1), 2, 0, 0, []), some ((.aload_n 0, 1), 0, 0, 0, []), some ((.getfield 9, 3), 10, 0, 0, []), none, none, some ((.iconst 4, 1), 0, 0, 4, []), some ((.iaload, 1), 0, 0, 0, []), some ((.if_icmp .ge 27, 3), 38, 0, 0, []), none, none, some ((.iload_n 1, 1), 1, 0, 0, []), some ((.aload_n 0, 1), 0, 0, 0, [])],
  [some ((.iload_n 2, 1), 2, 0, 0, []), some ((.invokevirtual 182, 3), 159, 2, 0, [(0, 10)]), none, none, some ((.ifCond .eq 9, 3), 29, 0, 0, []), none, none, some ((.iconst 1, 1), 0, 0, 1, []), some ((.iload_n 2, 1), 2, 0, 0, []), some ((.ishl, 1), 0, 0, 0, []), some ((.goto 4, 3), 30, 0, 0, []), none, none, some ((.iconst 0, 1), 0, 0, 0, []), some ((.ior, 1), 0, 0, 0, []), some ((.istore_n 1, 1), 1, 0, 0, [])],
  [some ((.iinc 2 1, 3), 2, 0, 1, []), none, none, some ((.goto (-31), 3), 4, 0, 0, []), none, none, some ((.iload_n 1, 1), 1, 0, 0, []), some ((.ireturn, 1), 0, 0, 0, [])]]
def T_X10_gone : Tab := [
  [some ((.iconst 0, 1), 0, 0, 0, []), some ((.istore_n 1, 1), 1, 0, 0, []), some ((.iconst 0, 1), 0, 0, 0, []), some ((.istore_n 2, 1), 2, 0, 0, []), some ((.iload_n 2, 1), 2, 0, 0, []), some ((.aload_n 0, 1), 0, 0, 0, []), some ((.getfield 9, 3), 10, 0, 0, []), none, none, some ((.iconst 4, 1), 0, 0, 4, []), some ((.iaload, 1), 0, 0, 0, []), some ((.if_icmp .ge 20, 3), 31, 0, 0, []), none, none, some ((.iload_n 1, 1), 1, 0, 0, []), some ((.aload_n 0, 1), 0, 0, 0, [])],
  [some ((.iload_n 2, 1), 2, 0, 0, []), some ((.iconst 3, 1), 0, 0, 3, []), some ((.invokevirtual 141, 3), 128, 3, 0, [(0, 10)]), none, none, some ((.iload_n 2, 1), 2, 0, 0, []), some ((.ishl, 1), 0, 0, 0, []), some ((.ior, 1), 0, 0, 0, []), some ((.istore_n 1, 1), 1, 0, 0, []), some ((.iinc 2 1, 3), 2, 0, 1, []), none, none, some ((.goto (-24), 3), 4, 0, 0, []), none, none, some ((.iload_n 1, 1), 1, 0, 0, [])],
  [some ((.ireturn, 1), 0, 0, 0, [])]]
def T_X10_land : Tab := [
  [some ((.iload_n 1, 1), 1, 0, 0, []), some ((.tableswitch 69 0 6 #[43, 43, 43, 43, 52, 57, 62], 43), 70, 0, 0, [(0, 44), (1, 44), (2, 44), (3, 44), (4, 53), (5, 58), (6, 63)]), none, none, none, none, none, none, none, none, none, none, none, none, none, none],
  [none, none, none, none, none, none, none, none, none, none, none, none, none, none, none, none],
  [none, none, none, none, none, none, none, none, none, none, none, none, some ((.aload_n 0, 1), 0, 0, 0, []), some ((.getfield 9, 3), 10, 0, 0, []), none, none],
  [some ((.iconst 5, 1), 0, 0, 5, []), some ((.iload_n 1, 1), 1, 0, 0, []), some ((.iadd, 1), 0, 0, 0, []), some ((.iaload, 1), 0, 0, 0, []), some ((.ireturn, 1), 0, 0, 0, []), some ((.aload_n 0, 1), 0, 0, 0, []), some ((.invokevirtual 185, 3), 160, 1, 0, [(0, 10)]), none, none, some ((.ireturn, 1), 0, 0, 0, []), some ((.aload_n 0, 1), 0, 0, 0, []), some ((.invokevirtual 188, 3), 161, 1, 0, [(0, 10)]), none, none, some ((.ireturn, 1), 0, 0, 0, []), some ((.aload_n 0, 1), 0, 0, 0, [])],
  [some ((.getfield 9, 3), 10, 0, 0, []), none, none, some ((.iconst 4, 1), 0, 0, 4, []), some ((.iaload, 1), 0, 0, 0, []), some ((.ireturn, 1), 0, 0, 0, []), some ((.ldc 99, 2), 0, 0, (-1000000001), []), none, some ((.ireturn, 1), 0, 0, 0, [])]]
def T_X10_looksAround : Tab := [
  [some ((.iconst 0, 1), 0, 0, 0, []), some ((.istore_n 2, 1), 2, 0, 0, []), some ((.iload_n 2, 1), 2, 0, 0, []), some ((.bipush 8, 2), 0, 0, 8, []), none, some ((.if_icmp .ge 25, 3), 30, 0, 0, []), none, none, some ((.aload_n 0, 1), 0, 0, 0, []), some ((.getfield 22, 3), 10, 5, 0, []), none, none, some ((.iload_n 2, 1), 2, 0, 0, []), some ((.iconst 0, 1), 0, 0, 0, []), some ((.iastore, 1), 0, 0, 0, []), some ((.aload_n 0, 1), 0, 0, 0, [])],
  [some ((.getfield 25, 3), 10, 6, 0, []), none, none, some ((.iload_n 2, 1), 2, 0, 0, []), some ((.iconst 1, 1), 0, 0, 1, []), some ((.iload_n 2, 1), 2, 0, 0, []), some ((.ishl, 1), 0, 0, 0, []), some ((.iastore, 1), 0, 0, 0, []), some ((.iinc 2 1, 3), 2, 0, 1, []), none, none, some ((.goto (-25), 3), 2, 0, 0, []), none, none, some ((.iconst 0, 1), 0, 0, 0, []), some ((.istore_n 2, 1), 2, 0, 0, [])],
  [some ((.iload_n 2, 1), 2, 0, 0, []), some ((.aload_n 0, 1), 0, 0, 0, []), some ((.getfield 9, 3), 10, 0, 0, []), none, none, some ((.iconst 1, 1), 0, 0, 1, []), some ((.iaload, 1), 0, 0, 0, []), some ((.if_icmp .ge 37, 3), 76, 0, 0, []), none, none, some ((.aload_n 0, 1), 0, 0, 0, []), some ((.getfield 22, 3), 10, 5, 0, []), none, none, some ((.aload_n 0, 1), 0, 0, 0, []), some ((.iload_n 2, 1), 2, 0, 0, [])],
  [some ((.iconst 1, 1), 0, 0, 1, []), some ((.invokevirtual 105, 3), 126, 3, 0, [(0, 10)]), none, none, some ((.dup2, 1), 0, 0, 0, []), some ((.iaload, 1), 0, 0, 0, []), some ((.iload_n 2, 1), 2, 0, 0, []), some ((.iload_n 1, 1), 1, 0, 0, []), some ((.if_icmp .ne 7, 3), 63, 0, 0, []), none, none, some ((.iconst 0, 1), 0, 0, 0, []), some ((.goto 8, 3), 68, 0, 0, []), none, none, some ((.aload_n 0, 1), 0, 0, 0, [])],
  [some ((.iload_n 2, 1), 2, 0, 0, []), some ((.invokevirtual 119, 3), 135, 2, 0, [(0, 10)]), none, none, some ((.ior, 1), 0, 0, 0, []), some ((.iastore, 1), 0, 0, 0, []), some ((.iinc 2 1, 3), 2, 0, 1, []), none, none, some ((.goto (-41), 3), 32, 0, 0, []), none, none, some ((.iconst 0, 1), 0, 0, 0, []), some ((.istore_n 2, 1), 2, 0, 0, []), some ((.iload_n 2, 1), 2, 0, 0, []), some ((.bipush 8, 2), 0, 0, 8, [])],
  [none, some ((.if_icmp .ge 39, 3), 120, 0, 0, []), none, none, some ((.iconst 0, 1), 0, 0, 0, []), some ((.istore_n 3, 1), 3, 0, 0, []), some ((.iload_n 3, 1), 3, 0, 0, []), some ((.bipush 8, 2), 0, 0, 8, []), none, some ((.if_icmp .ge 25, 3), 114, 0, 0, []), none, none, some ((.aload_n 0, 1), 0, 0, 0, []), some ((.getfield 25, 3), 10, 6, 0, []), none, none],
  [some ((.iload_n 3, 1), 3, 0, 0, []), some ((.aload_n 0, 1), 0, 0, 0, []), some ((.aload_n 0, 1), 0, 0, 0, []), some ((.getfield 25, 3), 10, 6, 0, []), none, none, some ((.iload_n 3, 1), 3, 0, 0, []), some ((.iaload, 1), 0, 0, 0, []), some ((.invokevirtual 191, 3), 164, 2, 0, [(0, 10)]), none, none, some ((.iastore, 1), 0, 0, 0, []), some ((.iinc 3 1, 3), 3, 0, 1, []), none, none, some ((.goto (-25), 3), 86, 0, 0, [])],
  [none, none, some ((.iinc 2 1, 3), 2, 0, 1, []), none, none, some ((.goto (-39), 3), 78, 0, 0, []), none, none, some ((.return_, 1), 0, 0, 0, [])]]
def T_X10_onward : Tab := [
  [some ((.iload_n 1, 1), 1, 0, 0, []), some ((.istore_n 2, 1), 2, 0, 0, []), some ((.iconst 0, 1), 0, 0, 0, []), some ((.istore_n 3, 1), 3, 0, 0, []), some ((.iload_n 3, 1), 3, 0, 0, []), some ((.bipush 8, 2), 0, 0, 8, []), none, some ((.if_icmp .ge 31, 3), 38, 0, 0, []), none, none, some ((.iload_n 2, 1), 2, 0, 0, []), some ((.iload_n 1, 1), 1, 0, 0, []), some ((.iload_n 3, 1), 3, 0, 0, []), some ((.ishr, 1), 0, 0, 0, []), some ((.iconst 1, 1), 0, 0, 1, []), some ((.iand, 1), 0, 0, 0, [])],
  [some ((.iconst 1, 1), 0, 0, 1, []), some ((.if_icmp .ne 12, 3), 29, 0, 0, []), none, none, some ((.aload_n 0, 1), 0, 0, 0, []), some ((.getfield 22, 3), 10, 5, 0, []), none, none, some ((.iload_n 3, 1), 3, 0, 0, []), some ((.iaload, 1), 0, 0, 0, []), some ((.goto 4, 3), 30, 0, 0, []), none, none, some ((.iconst 0, 1), 0, 0, 0, []), some ((.ior, 1), 0, 0, 0, []), some ((.istore_n 2, 1), 2, 0, 0, [])],
  [some ((.iinc 3 1, 3), 3, 0, 1, []), none, none, some ((.goto (-31), 3), 4, 0, 0, []), none, none, some ((.iload_n 2, 1), 2, 0, 0, []), some ((.ireturn, 1), 0, 0, 0, [])]]
def T_X10_reach : Tab := [
  [some ((.iload_n 1, 1), 1, 0, 0, []), some ((.invokestatic 95, 3), 125, 1, 0, []), none, none, some ((.ifCond .ne 6, 3), 10, 0, 0, []), none, none, some ((.ldc 99, 2), 0, 0, (-1000000001), []), none, some ((.ireturn, 1), 0, 0, 0, []), some ((.aload_n 0, 1), 0, 0, 0, []), some ((.iconst (-1), 1), 0, 0, (-1), []), some ((.invokevirtual 194, 3), 163, 2, 0, [(0, 10)]), none, none, some ((.aload_n 0, 1), 0, 0, 0, [])],
  [some ((.getfield 25, 3), 10, 6, 0, []), none, none, some ((.iload_n 1, 1), 1, 0, 0, []), some ((.iaload, 1), 0, 0, 0, []), some ((.ireturn, 1), 0, 0, 0, [])]]
def T_X10_way : Tab := [
  [some ((.iload_n 1, 1), 1, 0, 0, []), some ((.invokestatic 95, 3), 125, 1, 0, []), none, none, some ((.ifCond .eq 10, 3), 14, 0, 0, []), none, none, some ((.iload_n 2, 1), 2, 0, 0, []), some ((.invokestatic 95, 3), 125, 1, 0, []), none, none, some ((.ifCond .ne 6, 3), 17, 0, 0, []), none, none, some ((.ldc 99, 2), 0, 0, (-1000000001), []), none],
  [some ((.ireturn, 1), 0, 0, 0, []), some ((.aload_n 0, 1), 0, 0, 0, []), some ((.iconst (-1), 1), 0, 0, (-1), []), some ((.invokevirtual 194, 3), 163, 2, 0, [(0, 10)]), none, none, some ((.iconst 1, 1), 0, 0, 1, []), some ((.iload_n 1, 1), 1, 0, 0, []), some ((.ishl, 1), 0, 0, 0, []), some ((.istore_n 3, 1), 3, 0, 0, []), some ((.iconst 0, 1), 0, 0, 0, []), some ((.istore 4, 2), 4, 0, 0, []), none, some ((.iload 4, 2), 4, 0, 0, []), none, some ((.bipush 8, 2), 0, 0, 8, [])],
  [none, some ((.if_icmp .ge 27, 3), 60, 0, 0, []), none, none, some ((.iload_n 3, 1), 3, 0, 0, []), some ((.iload_n 2, 1), 2, 0, 0, []), some ((.ishr, 1), 0, 0, 0, []), some ((.iconst 1, 1), 0, 0, 1, []), some ((.iand, 1), 0, 0, 0, []), some ((.iconst 1, 1), 0, 0, 1, []), some ((.if_icmp .ne 6, 3), 48, 0, 0, []), none, none, some ((.iload 4, 2), 4, 0, 0, []), none, some ((.ireturn, 1), 0, 0, 0, [])],
  [some ((.aload_n 0, 1), 0, 0, 0, []), some ((.iload_n 3, 1), 3, 0, 0, []), some ((.invokevirtual 191, 3), 164, 2, 0, [(0, 10)]), none, none, some ((.istore_n 3, 1), 3, 0, 0, []), some ((.iinc 4 1, 3), 4, 0, 1, []), none, none, some ((.goto (-28), 3), 29, 0, 0, []), none, none, some ((.ldc 197, 2), 0, 0, (-1000000005), []), none, some ((.ireturn, 1), 0, 0, 0, [])]]
def T_X10_lacks : Tab := [
  [some ((.aload_n 0, 1), 0, 0, 0, []), some ((.iconst (-1), 1), 0, 0, (-1), []), some ((.invokevirtual 194, 3), 163, 2, 0, [(0, 10)]), none, none, some ((.iconst 0, 1), 0, 0, 0, []), some ((.istore_n 1, 1), 1, 0, 0, []), some ((.iconst 0, 1), 0, 0, 0, []), some ((.istore_n 2, 1), 2, 0, 0, []), some ((.iconst 0, 1), 0, 0, 0, []), some ((.istore_n 3, 1), 3, 0, 0, []), some ((.iconst 0, 1), 0, 0, 0, []), some ((.istore 4, 2), 4, 0, 0, []), none, some ((.iload 4, 2), 4, 0, 0, []), none],
  [some ((.bipush 8, 2), 0, 0, 8, []), none, some ((.if_icmp .ge 142, 3), 160, 0, 0, []), none, none, some ((.iconst 0, 1), 0, 0, 0, []), some ((.istore 5, 2), 5, 0, 0, []), none, some ((.iconst 0, 1), 0, 0, 0, []), some ((.istore 6, 2), 6, 0, 0, []), none, some ((.iload 6, 2), 6, 0, 0, []), none, some ((.bipush 8, 2), 0, 0, 8, []), none, some ((.if_icmp .ge 29, 3), 60, 0, 0, [])],
  [none, none, some ((.iload 5, 2), 5, 0, 0, []), none, some ((.aload_n 0, 1), 0, 0, 0, []), some ((.getfield 25, 3), 10, 6, 0, []), none, none, some ((.iload 6, 2), 6, 0, 0, []), none, some ((.iaload, 1), 0, 0, 0, []), some ((.iload 4, 2), 4, 0, 0, []), none, some ((.ishr, 1), 0, 0, 0, []), some ((.iconst 1, 1), 0, 0, 1, []), some ((.iand, 1), 0, 0, 0, [])],
  [some ((.iload 6, 2), 6, 0, 0, []), none, some ((.ishl, 1), 0, 0, 0, []), some ((.ior, 1), 0, 0, 0, []), some ((.istore 5, 2), 5, 0, 0, []), none, some ((.iinc 6 1, 3), 6, 0, 1, []), none, none, some ((.goto (-30), 3), 27, 0, 0, []), none, none, some ((.iload 5, 2), 5, 0, 0, []), none, some ((.aload_n 0, 1), 0, 0, 0, []), some ((.getfield 25, 3), 10, 6, 0, [])],
  [none, none, some ((.iload 4, 2), 4, 0, 0, []), none, some ((.iaload, 1), 0, 0, 0, []), some ((.iand, 1), 0, 0, 0, []), some ((.istore 6, 2), 6, 0, 0, []), none, some ((.iload_n 3, 1), 3, 0, 0, []), some ((.ifCond .ne 11, 3), 84, 0, 0, []), none, none, some ((.iload 6, 2), 6, 0, 0, []), none, some ((.sipush 255, 3), 0, 0, 255, []), none],
  [none, some ((.if_icmp .ne 7, 3), 88, 0, 0, []), none, none, some ((.iconst 1, 1), 0, 0, 1, []), some ((.goto 4, 3), 89, 0, 0, []), none, none, some ((.iconst 0, 1), 0, 0, 0, []), some ((.istore_n 3, 1), 3, 0, 0, []), some ((.iload 6, 2), 6, 0, 0, []), none, some ((.iconst 1, 1), 0, 0, 1, []), some ((.iload 4, 2), 4, 0, 0, []), none, some ((.ishl, 1), 0, 0, 0, [])],
  [some ((.iconst 1, 1), 0, 0, 1, []), some ((.isub, 1), 0, 0, 0, []), some ((.iand, 1), 0, 0, 0, []), some ((.ifCond .ne 7, 3), 106, 0, 0, []), none, none, some ((.iconst 1, 1), 0, 0, 1, []), some ((.goto 4, 3), 107, 0, 0, []), none, none, some ((.iconst 0, 1), 0, 0, 0, []), some ((.istore 7, 2), 7, 0, 0, []), none, some ((.iload_n 1, 1), 1, 0, 0, []), some ((.iload 7, 2), 7, 0, 0, []), none],
  [some ((.ifCond .eq 14, 3), 126, 0, 0, []), none, none, some ((.iload 5, 2), 5, 0, 0, []), none, some ((.iload 6, 2), 6, 0, 0, []), none, some ((.if_icmp .ne 7, 3), 126, 0, 0, []), none, none, some ((.iconst 1, 1), 0, 0, 1, []), some ((.goto 4, 3), 127, 0, 0, []), none, none, some ((.iconst 0, 1), 0, 0, 0, []), some ((.iadd, 1), 0, 0, 0, [])],
  [some ((.istore_n 1, 1), 1, 0, 0, []), some ((.iload_n 2, 1), 2, 0, 0, []), some ((.iload 7, 2), 7, 0, 0, []), none, some ((.ifCond .eq 19, 3), 151, 0, 0, []), none, none, some ((.aload_n 0, 1), 0, 0, 0, []), some ((.getfield 25, 3), 10, 6, 0, []), none, none, some ((.iload 4, 2), 4, 0, 0, []), none, some ((.iaload, 1), 0, 0, 0, []), some ((.iload 6, 2), 6, 0, 0, []), none],
  [some ((.if_icmp .ne 7, 3), 151, 0, 0, []), none, none, some ((.iconst 1, 1), 0, 0, 1, []), some ((.goto 4, 3), 152, 0, 0, []), none, none, some ((.iconst 0, 1), 0, 0, 0, []), some ((.iadd, 1), 0, 0, 0, []), some ((.istore_n 2, 1), 2, 0, 0, []), some ((.iinc 4 1, 3), 4, 0, 1, []), none, none, some ((.goto (-143), 3), 14, 0, 0, []), none, none],
  [some ((.iload_n 3, 1), 3, 0, 0, []), some ((.ifCond .eq 7, 3), 168, 0, 0, []), none, none, some ((.iconst 0, 1), 0, 0, 0, []), some ((.goto 13, 3), 178, 0, 0, []), none, none, some ((.iload_n 1, 1), 1, 0, 0, []), some ((.iload_n 2, 1), 2, 0, 0, []), some ((.if_icmp .le 7, 3), 177, 0, 0, []), none, none, some ((.iload_n 1, 1), 1, 0, 0, []), some ((.goto 4, 3), 178, 0, 0, []), none],
  [none, some ((.iload_n 2, 1), 2, 0, 0, []), some ((.ireturn, 1), 0, 0, 0, [])]]
def T_X10_reachedInAll : Tab := [
  [some ((.aload_n 0, 1), 0, 0, 0, []), some ((.iload_n 1, 1), 1, 0, 0, []), some ((.invokevirtual 194, 3), 163, 2, 0, [(0, 10)]), none, none, some ((.iconst 0, 1), 0, 0, 0, []), some ((.istore_n 2, 1), 2, 0, 0, []), some ((.iconst 0, 1), 0, 0, 0, []), some ((.istore_n 3, 1), 3, 0, 0, []), some ((.iload_n 3, 1), 3, 0, 0, []), some ((.bipush 8, 2), 0, 0, 8, []), none, some ((.if_icmp .ge 21, 3), 33, 0, 0, []), none, none, some ((.iload_n 2, 1), 2, 0, 0, [])],
  [some ((.aload_n 0, 1), 0, 0, 0, []), some ((.getfield 25, 3), 10, 6, 0, []), none, none, some ((.iload_n 3, 1), 3, 0, 0, []), some ((.iaload, 1), 0, 0, 0, []), some ((.invokestatic 163, 3), 152, 1, 0, []), none, none, some ((.iadd, 1), 0, 0, 0, []), some ((.istore_n 2, 1), 2, 0, 0, []), some ((.iinc 3 1, 3), 3, 0, 1, []), none, none, some ((.goto (-21), 3), 9, 0, 0, []), none],
  [none, some ((.iload_n 2, 1), 2, 0, 0, []), some ((.ireturn, 1), 0, 0, 0, [])]]
def T_X10_missed : Tab := [
  [some ((.iload_n 1, 1), 1, 0, 0, []), some ((.iconst 0, 1), 0, 0, 0, []), some ((.iconst 1, 1), 0, 0, 1, []), some ((.invokestatic 87, 3), 120, 3, 0, []), none, none, some ((.ifCond .ne 6, 3), 12, 0, 0, []), none, none, some ((.ldc 99, 2), 0, 0, (-1000000001), []), none, some ((.ireturn, 1), 0, 0, 0, []), some ((.iconst (-1), 1), 0, 0, (-1), []), some ((.istore_n 2, 1), 2, 0, 0, []), some ((.iconst 0, 1), 0, 0, 0, []), some ((.istore_n 3, 1), 3, 0, 0, [])],
  [some ((.iconst 0, 1), 0, 0, 0, []), some ((.istore 4, 2), 4, 0, 0, []), none, some ((.iload 4, 2), 4, 0, 0, []), none, some ((.aload_n 0, 1), 0, 0, 0, []), some ((.getfield 9, 3), 10, 0, 0, []), none, none, some ((.iconst 1, 1), 0, 0, 1, []), some ((.iaload, 1), 0, 0, 0, []), some ((.if_icmp .ge 33, 3), 60, 0, 0, []), none, none, some ((.aload_n 0, 1), 0, 0, 0, []), some ((.iload 4, 2), 4, 0, 0, [])],
  [none, some ((.invokevirtual 198, 3), 168, 2, 0, [(0, 10)]), none, none, some ((.istore 5, 2), 5, 0, 0, []), none, some ((.iload_n 2, 1), 2, 0, 0, []), some ((.ifCond .lt 9, 3), 48, 0, 0, []), none, none, some ((.iload 5, 2), 5, 0, 0, []), none, some ((.iload_n 3, 1), 3, 0, 0, []), some ((.if_icmp .ge 9, 3), 54, 0, 0, []), none, none],
  [some ((.iload 4, 2), 4, 0, 0, []), none, some ((.istore_n 2, 1), 2, 0, 0, []), some ((.iload 5, 2), 5, 0, 0, []), none, some ((.istore_n 3, 1), 3, 0, 0, []), some ((.iinc 4 1, 3), 4, 0, 1, []), none, none, some ((.goto (-38), 3), 19, 0, 0, []), none, none, some ((.iload_n 2, 1), 2, 0, 0, []), some ((.ifCond .ge 8, 3), 69, 0, 0, []), none, none],
  [some ((.ldc 197, 2), 0, 0, (-1000000005), []), none, some ((.goto 12, 3), 78, 0, 0, []), none, none, some ((.iload_n 1, 1), 1, 0, 0, []), some ((.ifCond .ne 7, 3), 77, 0, 0, []), none, none, some ((.iload_n 2, 1), 2, 0, 0, []), some ((.goto 4, 3), 78, 0, 0, []), none, none, some ((.iload_n 3, 1), 3, 0, 0, []), some ((.ireturn, 1), 0, 0, 0, [])]]
def T_X10_thinks : Tab := [
  [some ((.iconst 0, 1), 0, 0, 0, []), some ((.istore_n 1, 1), 1, 0, 0, []), some ((.iload_n 1, 1), 1, 0, 0, []), some ((.bipush 86, 2), 0, 0, 86, []), none, some ((.if_icmp .ge 21, 3), 26, 0, 0, []), none, none, some ((.aload_n 0, 1), 0, 0, 0, []), some ((.getfield 28, 3), 10, 7, 0, []), none, none, some ((.iload_n 1, 1), 1, 0, 0, []), some ((.aload_n 0, 1), 0, 0, 0, []), some ((.getfield 9, 3), 10, 0, 0, []), none],
  [none, some ((.iload_n 1, 1), 1, 0, 0, []), some ((.iaload, 1), 0, 0, 0, []), some ((.iastore, 1), 0, 0, 0, []), some ((.iinc 1 1, 3), 1, 0, 1, []), none, none, some ((.goto (-21), 3), 2, 0, 0, []), none, none, some ((.return_, 1), 0, 0, 0, [])]]
def T_X10_putsBack : Tab := [
  [some ((.iconst 0, 1), 0, 0, 0, []), some ((.istore_n 1, 1), 1, 0, 0, []), some ((.iload_n 1, 1), 1, 0, 0, []), some ((.bipush 86, 2), 0, 0, 86, []), none, some ((.if_icmp .ge 21, 3), 26, 0, 0, []), none, none, some ((.aload_n 0, 1), 0, 0, 0, []), some ((.getfield 9, 3), 10, 0, 0, []), none, none, some ((.iload_n 1, 1), 1, 0, 0, []), some ((.aload_n 0, 1), 0, 0, 0, []), some ((.getfield 28, 3), 10, 7, 0, []), none],
  [none, some ((.iload_n 1, 1), 1, 0, 0, []), some ((.iaload, 1), 0, 0, 0, []), some ((.iastore, 1), 0, 0, 0, []), some ((.iinc 1 1, 3), 1, 0, 1, []), none, none, some ((.goto (-21), 3), 2, 0, 0, []), none, none, some ((.return_, 1), 0, 0, 0, [])]]
def T_X10_behind : Tab := [
  [some ((.iload_n 1, 1), 1, 0, 0, []), some ((.iconst 0, 1), 0, 0, 0, []), some ((.bipush 100, 2), 0, 0, 100, []), none, some ((.invokestatic 87, 3), 120, 3, 0, []), none, none, some ((.ifCond .eq 22, 3), 29, 0, 0, []), none, none, some ((.iload_n 2, 1), 2, 0, 0, []), some ((.ifCond .lt 18, 3), 29, 0, 0, []), none, none, some ((.iload_n 2, 1), 2, 0, 0, []), some ((.iconst 2, 1), 0, 0, 2, [])],
  [some ((.if_icmp .le 16, 3), 32, 0, 0, []), none, none, some ((.aload_n 0, 1), 0, 0, 0, []), some ((.iload_n 2, 1), 2, 0, 0, []), some ((.iconst 3, 1), 0, 0, 3, []), some ((.isub, 1), 0, 0, 0, []), some ((.invokevirtual 157, 3), 124, 2, 0, [(0, 10)]), none, none, some ((.ifCond .ne 6, 3), 32, 0, 0, []), none, none, some ((.ldc 99, 2), 0, 0, (-1000000001), []), none, some ((.ireturn, 1), 0, 0, 0, [])],
  [some ((.aload_n 0, 1), 0, 0, 0, []), some ((.invokevirtual 201, 3), 170, 1, 0, [(0, 10)]), none, none, some ((.aload_n 0, 1), 0, 0, 0, []), some ((.iload_n 1, 1), 1, 0, 0, []), some ((.invokevirtual 179, 3), 157, 2, 0, [(0, 10)]), none, none, some ((.iload_n 2, 1), 2, 0, 0, []), some ((.ifCond .ne 12, 3), 54, 0, 0, []), none, none, some ((.aload_n 0, 1), 0, 0, 0, []), some ((.getfield 9, 3), 10, 0, 0, []), none],
  [none, some ((.iconst 5, 1), 0, 0, 5, []), some ((.iaload, 1), 0, 0, 0, []), some ((.goto 38, 3), 89, 0, 0, []), none, none, some ((.iload_n 2, 1), 2, 0, 0, []), some ((.iconst 1, 1), 0, 0, 1, []), some ((.if_icmp .ne 13, 3), 69, 0, 0, []), none, none, some ((.aload_n 0, 1), 0, 0, 0, []), some ((.getfield 9, 3), 10, 0, 0, []), none, none, some ((.bipush 6, 2), 0, 0, 6, [])],
  [none, some ((.iaload, 1), 0, 0, 0, []), some ((.goto 23, 3), 89, 0, 0, []), none, none, some ((.iload_n 2, 1), 2, 0, 0, []), some ((.iconst 2, 1), 0, 0, 2, []), some ((.if_icmp .ne 10, 3), 81, 0, 0, []), none, none, some ((.aload_n 0, 1), 0, 0, 0, []), some ((.invokevirtual 185, 3), 160, 1, 0, [(0, 10)]), none, none, some ((.goto 11, 3), 89, 0, 0, []), none],
  [none, some ((.aload_n 0, 1), 0, 0, 0, []), some ((.iload_n 2, 1), 2, 0, 0, []), some ((.iconst 3, 1), 0, 0, 3, []), some ((.isub, 1), 0, 0, 0, []), some ((.iconst 0, 1), 0, 0, 0, []), some ((.invokevirtual 141, 3), 128, 3, 0, [(0, 10)]), none, none, some ((.istore_n 3, 1), 3, 0, 0, []), some ((.aload_n 0, 1), 0, 0, 0, []), some ((.invokevirtual 204, 3), 171, 1, 0, [(0, 10)]), none, none, some ((.iload_n 3, 1), 3, 0, 0, []), some ((.ireturn, 1), 0, 0, 0, [])]]
def T_X10_homeBy : Tab := [
  [some ((.iconst 0, 1), 0, 0, 0, []), some ((.istore_n 3, 1), 3, 0, 0, []), some ((.iload_n 3, 1), 3, 0, 0, []), some ((.iload_n 2, 1), 2, 0, 0, []), some ((.if_icmp .gt 21, 3), 25, 0, 0, []), none, none, some ((.aload_n 0, 1), 0, 0, 0, []), some ((.iload_n 1, 1), 1, 0, 0, []), some ((.invokevirtual 182, 3), 159, 2, 0, [(0, 10)]), none, none, some ((.ifCond .ne 13, 3), 25, 0, 0, []), none, none, some ((.aload_n 0, 1), 0, 0, 0, [])],
  [some ((.invokevirtual 176, 3), 156, 1, 0, [(0, 10)]), none, none, some ((.iinc 3 1, 3), 3, 0, 1, []), none, none, some ((.goto (-20), 3), 2, 0, 0, []), none, none, some ((.aload_n 0, 1), 0, 0, 0, []), some ((.invokevirtual 204, 3), 171, 1, 0, [(0, 10)]), none, none, some ((.iload_n 3, 1), 3, 0, 0, []), some ((.ireturn, 1), 0, 0, 0, [])]]
def T_X10_home : Tab := [
  [some ((.aload_n 0, 1), 0, 0, 0, []), some ((.iload_n 1, 1), 1, 0, 0, []), some ((.invokevirtual 157, 3), 124, 2, 0, [(0, 10)]), none, none, some ((.ifCond .ne 6, 3), 11, 0, 0, []), none, none, some ((.ldc 99, 2), 0, 0, (-1000000001), []), none, some ((.ireturn, 1), 0, 0, 0, []), some ((.aload_n 0, 1), 0, 0, 0, []), some ((.invokevirtual 201, 3), 170, 1, 0, [(0, 10)]), none, none, some ((.aload_n 0, 1), 0, 0, 0, [])],
  [some ((.iload_n 1, 1), 1, 0, 0, []), some ((.sipush 200, 3), 0, 0, 200, []), none, none, some ((.invokevirtual 207, 3), 173, 3, 0, [(0, 10)]), none, none, some ((.istore_n 2, 1), 2, 0, 0, []), some ((.iload_n 2, 1), 2, 0, 0, []), some ((.sipush 200, 3), 0, 0, 200, []), none, none, some ((.if_icmp .le 8, 3), 36, 0, 0, []), none, none, some ((.ldc 197, 2), 0, 0, (-1000000005), [])],
  [none, some ((.goto 4, 3), 37, 0, 0, []), none, none, some ((.iload_n 2, 1), 2, 0, 0, []), some ((.ireturn, 1), 0, 0, 0, [])]]
def T_X10_brought : Tab := [
  [some ((.aload_n 0, 1), 0, 0, 0, []), some ((.iload_n 1, 1), 1, 0, 0, []), some ((.invokevirtual 157, 3), 124, 2, 0, [(0, 10)]), none, none, some ((.ifCond .eq 12, 3), 17, 0, 0, []), none, none, some ((.iload_n 2, 1), 2, 0, 0, []), some ((.iconst 0, 1), 0, 0, 0, []), some ((.iconst 2, 1), 0, 0, 2, []), some ((.invokestatic 87, 3), 120, 3, 0, []), none, none, some ((.ifCond .ne 6, 3), 20, 0, 0, []), none],
  [none, some ((.ldc 99, 2), 0, 0, (-1000000001), []), none, some ((.ireturn, 1), 0, 0, 0, []), some ((.aload_n 0, 1), 0, 0, 0, []), some ((.invokevirtual 201, 3), 170, 1, 0, [(0, 10)]), none, none, some ((.iconst (-1), 1), 0, 0, (-1), []), some ((.istore_n 3, 1), 3, 0, 0, []), some ((.bipush 31, 2), 0, 0, 31, []), none, some ((.istore 4, 2), 4, 0, 0, []), none, some ((.iconst 0, 1), 0, 0, 0, []), some ((.istore 5, 2), 5, 0, 0, [])],
  [none, some ((.iload 5, 2), 5, 0, 0, []), none, some ((.bipush 8, 2), 0, 0, 8, []), none, some ((.aload_n 0, 1), 0, 0, 0, []), some ((.getfield 9, 3), 10, 0, 0, []), none, none, some ((.iconst 1, 1), 0, 0, 1, []), some ((.iaload, 1), 0, 0, 0, []), some ((.imul, 1), 0, 0, 0, []), some ((.if_icmp .ge 47, 3), 91, 0, 0, []), none, none, some ((.aload_n 0, 1), 0, 0, 0, [])],
  [some ((.iload 5, 2), 5, 0, 0, []), none, some ((.bipush 8, 2), 0, 0, 8, []), none, some ((.idiv, 1), 0, 0, 0, []), some ((.iconst 1, 1), 0, 0, 1, []), some ((.iload 5, 2), 5, 0, 0, []), none, some ((.bipush 8, 2), 0, 0, 8, []), none, some ((.irem, 1), 0, 0, 0, []), some ((.invokevirtual 91, 3), 127, 4, 0, [(0, 10)]), none, none, some ((.aload_n 0, 1), 0, 0, 0, []), some ((.iload_n 1, 1), 1, 0, 0, [])],
  [some ((.bipush 30, 2), 0, 0, 30, []), none, some ((.invokevirtual 207, 3), 173, 3, 0, [(0, 10)]), none, none, some ((.istore 6, 2), 6, 0, 0, []), none, some ((.iload 6, 2), 6, 0, 0, []), none, some ((.iload 4, 2), 4, 0, 0, []), none, some ((.if_icmp .ge 10, 3), 85, 0, 0, []), none, none, some ((.iload 5, 2), 5, 0, 0, []), none],
  [some ((.istore_n 3, 1), 3, 0, 0, []), some ((.iload 6, 2), 6, 0, 0, []), none, some ((.istore 4, 2), 4, 0, 0, []), none, some ((.iinc 5 1, 3), 5, 0, 1, []), none, none, some ((.goto (-55), 3), 33, 0, 0, []), none, none, some ((.iload_n 3, 1), 3, 0, 0, []), some ((.ifCond .ge 8, 3), 100, 0, 0, []), none, none, some ((.ldc 197, 2), 0, 0, (-1000000005), [])],
  [none, some ((.goto 28, 3), 125, 0, 0, []), none, none, some ((.iload_n 2, 1), 2, 0, 0, []), some ((.ifCond .ne 10, 3), 111, 0, 0, []), none, none, some ((.iload_n 3, 1), 3, 0, 0, []), some ((.bipush 8, 2), 0, 0, 8, []), none, some ((.idiv, 1), 0, 0, 0, []), some ((.goto 17, 3), 125, 0, 0, []), none, none, some ((.iload_n 2, 1), 2, 0, 0, [])],
  [some ((.iconst 1, 1), 0, 0, 1, []), some ((.if_icmp .ne 10, 3), 123, 0, 0, []), none, none, some ((.iload_n 3, 1), 3, 0, 0, []), some ((.bipush 8, 2), 0, 0, 8, []), none, some ((.irem, 1), 0, 0, 0, []), some ((.goto 5, 3), 125, 0, 0, []), none, none, some ((.iload 4, 2), 4, 0, 0, []), none, some ((.ireturn, 1), 0, 0, 0, [])]]
def T_X10_mostBy : Tab := [
  [some ((.aload_n 0, 1), 0, 0, 0, []), some ((.invokevirtual 201, 3), 170, 1, 0, [(0, 10)]), none, none, some ((.iconst (-1), 1), 0, 0, (-1), []), some ((.istore 5, 2), 5, 0, 0, []), none, some ((.iconst 0, 1), 0, 0, 0, []), some ((.istore 6, 2), 6, 0, 0, []), none, some ((.iconst 0, 1), 0, 0, 0, []), some ((.istore 7, 2), 7, 0, 0, []), none, some ((.iload 7, 2), 7, 0, 0, []), none, some ((.iload_n 2, 1), 2, 0, 0, [])],
  [some ((.if_icmp .ge 55, 3), 71, 0, 0, []), none, none, some ((.aload_n 0, 1), 0, 0, 0, []), some ((.getfield 9, 3), 10, 0, 0, []), none, none, some ((.iload_n 1, 1), 1, 0, 0, []), some ((.iload 7, 2), 7, 0, 0, []), none, some ((.iastore, 1), 0, 0, 0, []), some ((.aload_n 0, 1), 0, 0, 0, []), some ((.iload_n 3, 1), 3, 0, 0, []), some ((.invokevirtual 179, 3), 157, 2, 0, [(0, 10)]), none, none],
  [some ((.aload_n 0, 1), 0, 0, 0, []), some ((.invokevirtual 185, 3), 160, 1, 0, [(0, 10)]), none, none, some ((.invokestatic 163, 3), 152, 1, 0, []), none, none, some ((.istore 8, 2), 8, 0, 0, []), none, some ((.aload_n 0, 1), 0, 0, 0, []), some ((.invokevirtual 204, 3), 171, 1, 0, [(0, 10)]), none, none, some ((.iload 5, 2), 5, 0, 0, []), none, some ((.ifCond .lt 10, 3), 57, 0, 0, [])],
  [none, none, some ((.iload 8, 2), 8, 0, 0, []), none, some ((.iload 6, 2), 6, 0, 0, []), none, some ((.if_icmp .le 11, 3), 65, 0, 0, []), none, none, some ((.iload 7, 2), 7, 0, 0, []), none, some ((.istore 5, 2), 5, 0, 0, []), none, some ((.iload 8, 2), 8, 0, 0, []), none, some ((.istore 6, 2), 6, 0, 0, [])],
  [none, some ((.iinc 7 1, 3), 7, 0, 1, []), none, none, some ((.goto (-55), 3), 13, 0, 0, []), none, none, some ((.iload 4, 2), 4, 0, 0, []), none, some ((.ifCond .ne 8, 3), 81, 0, 0, []), none, none, some ((.iload 5, 2), 5, 0, 0, []), none, some ((.goto 5, 3), 83, 0, 0, []), none],
  [none, some ((.iload 6, 2), 6, 0, 0, []), none, some ((.ireturn, 1), 0, 0, 0, [])]]
def T_X10_belongs : Tab := [
  [some ((.aload_n 0, 1), 0, 0, 0, []), some ((.iload_n 1, 1), 1, 0, 0, []), some ((.invokevirtual 109, 3), 123, 2, 0, [(0, 10)]), none, none, some ((.ifCond .eq 41, 3), 46, 0, 0, []), none, none, some ((.iload_n 2, 1), 2, 0, 0, []), some ((.iconst 1, 1), 0, 0, 1, []), some ((.bipush 60, 2), 0, 0, 60, []), none, some ((.invokestatic 87, 3), 120, 3, 0, []), none, none, some ((.ifCond .eq 31, 3), 46, 0, 0, [])],
  [none, none, some ((.iload_n 3, 1), 3, 0, 0, []), some ((.iconst 0, 1), 0, 0, 0, []), some ((.iconst 1, 1), 0, 0, 1, []), some ((.invokestatic 87, 3), 120, 3, 0, []), none, none, some ((.ifCond .eq 22, 3), 46, 0, 0, []), none, none, some ((.aload_n 0, 1), 0, 0, 0, []), some ((.bipush 10, 2), 0, 0, 10, []), none, some ((.iconst 4, 1), 0, 0, 4, []), some ((.iload_n 1, 1), 1, 0, 0, [])],
  [some ((.imul, 1), 0, 0, 0, []), some ((.iadd, 1), 0, 0, 0, []), some ((.iconst 2, 1), 0, 0, 2, []), some ((.iadd, 1), 0, 0, 0, []), some ((.bipush 8, 2), 0, 0, 8, []), none, some ((.iload_n 2, 1), 2, 0, 0, []), some ((.iload_n 3, 1), 3, 0, 0, []), some ((.invokevirtual 210, 3), 176, 5, 0, [(0, 10)]), none, none, some ((.goto 5, 3), 48, 0, 0, []), none, none, some ((.ldc 99, 2), 0, 0, (-1000000001), []), none],
  [some ((.ireturn, 1), 0, 0, 0, [])]]
def T_X10_becomes : Tab := [
  [some ((.aload_n 0, 1), 0, 0, 0, []), some ((.iload_n 1, 1), 1, 0, 0, []), some ((.invokevirtual 109, 3), 123, 2, 0, [(0, 10)]), none, none, some ((.ifCond .eq 39, 3), 44, 0, 0, []), none, none, some ((.iload_n 2, 1), 2, 0, 0, []), some ((.iconst 1, 1), 0, 0, 1, []), some ((.bipush 60, 2), 0, 0, 60, []), none, some ((.invokestatic 87, 3), 120, 3, 0, []), none, none, some ((.ifCond .eq 29, 3), 44, 0, 0, [])],
  [none, none, some ((.iload_n 3, 1), 3, 0, 0, []), some ((.iconst 0, 1), 0, 0, 0, []), some ((.iconst 1, 1), 0, 0, 1, []), some ((.invokestatic 87, 3), 120, 3, 0, []), none, none, some ((.ifCond .eq 20, 3), 44, 0, 0, []), none, none, some ((.aload_n 0, 1), 0, 0, 0, []), some ((.bipush 10, 2), 0, 0, 10, []), none, some ((.iconst 4, 1), 0, 0, 4, []), some ((.iload_n 1, 1), 1, 0, 0, [])],
  [some ((.imul, 1), 0, 0, 0, []), some ((.iadd, 1), 0, 0, 0, []), some ((.bipush 6, 2), 0, 0, 6, []), none, some ((.iload_n 2, 1), 2, 0, 0, []), some ((.iload_n 3, 1), 3, 0, 0, []), some ((.invokevirtual 210, 3), 176, 5, 0, [(0, 10)]), none, none, some ((.goto 5, 3), 46, 0, 0, []), none, none, some ((.ldc 99, 2), 0, 0, (-1000000001), []), none, some ((.ireturn, 1), 0, 0, 0, [])]]
def T_X10_whose : Tab := [
  [some ((.iload_n 1, 1), 1, 0, 0, []), some ((.invokestatic 213, 3), 201, 1, 0, []), none, none, some ((.ifCond .eq 12, 3), 16, 0, 0, []), none, none, some ((.iload_n 2, 1), 2, 0, 0, []), some ((.iconst 0, 1), 0, 0, 0, []), some ((.iconst 1, 1), 0, 0, 1, []), some ((.invokestatic 87, 3), 120, 3, 0, []), none, none, some ((.ifCond .ne 6, 3), 19, 0, 0, []), none, none],
  [some ((.ldc 99, 2), 0, 0, (-1000000001), []), none, some ((.ireturn, 1), 0, 0, 0, []), some ((.aload_n 0, 1), 0, 0, 0, []), some ((.getfield 60, 3), 10, 27, 0, []), none, none, some ((.iload_n 1, 1), 1, 0, 0, []), some ((.iaload, 1), 0, 0, 0, []), some ((.ifCond .ge 6, 3), 31, 0, 0, []), none, none, some ((.ldc 216, 2), 0, 0, (-1000000011), []), none, some ((.ireturn, 1), 0, 0, 0, []), some ((.aload_n 0, 1), 0, 0, 0, [])],
  [some ((.invokevirtual 201, 3), 170, 1, 0, [(0, 10)]), none, none, some ((.aload_n 0, 1), 0, 0, 0, []), some ((.getfield 9, 3), 10, 0, 0, []), none, none, some ((.iconst 4, 1), 0, 0, 4, []), some ((.iaload, 1), 0, 0, 0, []), some ((.istore_n 3, 1), 3, 0, 0, []), some ((.iconst 0, 1), 0, 0, 0, []), some ((.istore 4, 2), 4, 0, 0, []), none, some ((.iload 4, 2), 4, 0, 0, []), none, some ((.iload_n 3, 1), 3, 0, 0, [])],
  [some ((.if_icmp .ge 17, 3), 65, 0, 0, []), none, none, some ((.aload_n 0, 1), 0, 0, 0, []), some ((.getfield 31, 3), 10, 8, 0, []), none, none, some ((.iload 4, 2), 4, 0, 0, []), none, some ((.iconst 0, 1), 0, 0, 0, []), some ((.iastore, 1), 0, 0, 0, []), some ((.iinc 4 1, 3), 4, 0, 1, []), none, none, some ((.goto (-17), 3), 45, 0, 0, []), none],
  [none, some ((.iconst 0, 1), 0, 0, 0, []), some ((.istore 4, 2), 4, 0, 0, []), none, some ((.iload 4, 2), 4, 0, 0, []), none, some ((.aload_n 0, 1), 0, 0, 0, []), some ((.getfield 63, 3), 10, 28, 0, []), none, none, some ((.iload_n 1, 1), 1, 0, 0, []), some ((.iaload, 1), 0, 0, 0, []), some ((.if_icmp .ge 69, 3), 145, 0, 0, []), none, none, some ((.aload_n 0, 1), 0, 0, 0, [])],
  [some ((.getfield 66, 3), 10, 29, 0, []), none, none, some ((.bipush 24, 2), 0, 0, 24, []), none, some ((.iload_n 1, 1), 1, 0, 0, []), some ((.imul, 1), 0, 0, 0, []), some ((.iload 4, 2), 4, 0, 0, []), none, some ((.iadd, 1), 0, 0, 0, []), some ((.iaload, 1), 0, 0, 0, []), some ((.istore 5, 2), 5, 0, 0, []), none, some ((.iconst 0, 1), 0, 0, 0, []), some ((.istore 6, 2), 6, 0, 0, []), none],
  [some ((.iload 6, 2), 6, 0, 0, []), none, some ((.iload_n 3, 1), 3, 0, 0, []), some ((.if_icmp .ge 36, 3), 135, 0, 0, []), none, none, some ((.aload_n 0, 1), 0, 0, 0, []), some ((.getfield 31, 3), 10, 8, 0, []), none, none, some ((.iload 6, 2), 6, 0, 0, []), none, some ((.dup2, 1), 0, 0, 0, []), some ((.iaload, 1), 0, 0, 0, []), some ((.iload 5, 2), 5, 0, 0, []), none],
  [some ((.aload_n 0, 1), 0, 0, 0, []), some ((.iload 6, 2), 6, 0, 0, []), none, some ((.iconst 0, 1), 0, 0, 0, []), some ((.invokevirtual 141, 3), 128, 3, 0, [(0, 10)]), none, none, some ((.if_icmp .ne 7, 3), 126, 0, 0, []), none, none, some ((.iconst 1, 1), 0, 0, 1, []), some ((.goto 4, 3), 127, 0, 0, []), none, none, some ((.iconst 0, 1), 0, 0, 0, []), some ((.iadd, 1), 0, 0, 0, [])],
  [some ((.iastore, 1), 0, 0, 0, []), some ((.iinc 6 1, 3), 6, 0, 1, []), none, none, some ((.goto (-36), 3), 96, 0, 0, []), none, none, some ((.aload_n 0, 1), 0, 0, 0, []), some ((.invokevirtual 176, 3), 156, 1, 0, [(0, 10)]), none, none, some ((.iinc 4 1, 3), 4, 0, 1, []), none, none, some ((.goto (-74), 3), 68, 0, 0, []), none],
  [none, some ((.aload_n 0, 1), 0, 0, 0, []), some ((.invokevirtual 204, 3), 171, 1, 0, [(0, 10)]), none, none, some ((.iconst 0, 1), 0, 0, 0, []), some ((.istore 4, 2), 4, 0, 0, []), none, some ((.iconst 1, 1), 0, 0, 1, []), some ((.istore 5, 2), 5, 0, 0, []), none, some ((.iload 5, 2), 5, 0, 0, []), none, some ((.iload_n 3, 1), 3, 0, 0, []), some ((.if_icmp .ge 35, 3), 193, 0, 0, []), none],
  [none, some ((.aload_n 0, 1), 0, 0, 0, []), some ((.getfield 31, 3), 10, 8, 0, []), none, none, some ((.iload 5, 2), 5, 0, 0, []), none, some ((.iaload, 1), 0, 0, 0, []), some ((.aload_n 0, 1), 0, 0, 0, []), some ((.getfield 31, 3), 10, 8, 0, []), none, none, some ((.iload 4, 2), 4, 0, 0, []), none, some ((.iaload, 1), 0, 0, 0, []), some ((.if_icmp .le 8, 3), 183, 0, 0, [])],
  [none, none, some ((.iload 5, 2), 5, 0, 0, []), none, some ((.goto 5, 3), 185, 0, 0, []), none, none, some ((.iload 4, 2), 4, 0, 0, []), none, some ((.istore 4, 2), 4, 0, 0, []), none, some ((.iinc 5 1, 3), 5, 0, 1, []), none, none, some ((.goto (-35), 3), 155, 0, 0, []), none],
  [none, some ((.iload_n 3, 1), 3, 0, 0, []), some ((.ifCond .ne 8, 3), 202, 0, 0, []), none, none, some ((.ldc 197, 2), 0, 0, (-1000000005), []), none, some ((.goto 19, 3), 218, 0, 0, []), none, none, some ((.iload_n 2, 1), 2, 0, 0, []), some ((.ifCond .ne 8, 3), 211, 0, 0, []), none, none, some ((.iload 4, 2), 4, 0, 0, []), none],
  [some ((.goto 10, 3), 218, 0, 0, []), none, none, some ((.aload_n 0, 1), 0, 0, 0, []), some ((.getfield 31, 3), 10, 8, 0, []), none, none, some ((.iload 4, 2), 4, 0, 0, []), none, some ((.iaload, 1), 0, 0, 0, []), some ((.ireturn, 1), 0, 0, 0, [])]]
def T_X10_fee : Tab := [
  [some ((.aload_n 0, 1), 0, 0, 0, []), some ((.iconst 1, 1), 0, 0, 1, []), some ((.invokevirtual 144, 3), 197, 2, 0, [(0, 10)]), none, none, some ((.istore_n 1, 1), 1, 0, 0, []), some ((.aload_n 0, 1), 0, 0, 0, []), some ((.getfield 57, 3), 10, 26, 0, []), none, none, some ((.iconst 0, 1), 0, 0, 0, []), some ((.aload_n 0, 1), 0, 0, 0, []), some ((.getfield 9, 3), 10, 0, 0, []), none, none, some ((.iconst 5, 1), 0, 0, 5, [])],
  [some ((.iaload, 1), 0, 0, 0, []), some ((.iastore, 1), 0, 0, 0, []), some ((.aload_n 0, 1), 0, 0, 0, []), some ((.getfield 57, 3), 10, 26, 0, []), none, none, some ((.iconst 1, 1), 0, 0, 1, []), some ((.aload_n 0, 1), 0, 0, 0, []), some ((.getfield 9, 3), 10, 0, 0, []), none, none, some ((.bipush 6, 2), 0, 0, 6, []), none, some ((.iaload, 1), 0, 0, 0, []), some ((.iastore, 1), 0, 0, 0, []), some ((.iload_n 1, 1), 1, 0, 0, [])],
  [some ((.ifCond .ge 12, 3), 44, 0, 0, []), none, none, some ((.aload_n 0, 1), 0, 0, 0, []), some ((.getfield 9, 3), 10, 0, 0, []), none, none, some ((.iconst 5, 1), 0, 0, 5, []), some ((.iaload, 1), 0, 0, 0, []), some ((.goto 8, 3), 49, 0, 0, []), none, none, some ((.aload_n 0, 1), 0, 0, 0, []), some ((.iload_n 1, 1), 1, 0, 0, []), some ((.invokevirtual 150, 3), 200, 2, 0, [(0, 10)]), none],
  [none, some ((.ireturn, 1), 0, 0, 0, [])]]
def T_X10_fine : Tab := [
  [some ((.aload_n 0, 1), 0, 0, 0, []), some ((.iload_n 1, 1), 1, 0, 0, []), some ((.invokevirtual 109, 3), 123, 2, 0, [(0, 10)]), none, none, some ((.ifCond .ne 6, 3), 11, 0, 0, []), none, none, some ((.ldc 99, 2), 0, 0, (-1000000001), []), none, some ((.ireturn, 1), 0, 0, 0, []), some ((.aload_n 0, 1), 0, 0, 0, []), some ((.iconst 2, 1), 0, 0, 2, []), some ((.invokevirtual 144, 3), 197, 2, 0, [(0, 10)]), none, none],
  [some ((.istore_n 2, 1), 2, 0, 0, []), some ((.aload_n 0, 1), 0, 0, 0, []), some ((.getfield 57, 3), 10, 26, 0, []), none, none, some ((.iconst 0, 1), 0, 0, 0, []), some ((.aload_n 0, 1), 0, 0, 0, []), some ((.iload_n 1, 1), 1, 0, 0, []), some ((.iconst 1, 1), 0, 0, 1, []), some ((.invokevirtual 105, 3), 126, 3, 0, [(0, 10)]), none, none, some ((.iastore, 1), 0, 0, 0, []), some ((.aload_n 0, 1), 0, 0, 0, []), some ((.getfield 57, 3), 10, 26, 0, []), none],
  [none, some ((.iconst 1, 1), 0, 0, 1, []), some ((.aload_n 0, 1), 0, 0, 0, []), some ((.iload_n 1, 1), 1, 0, 0, []), some ((.iconst 2, 1), 0, 0, 2, []), some ((.invokevirtual 105, 3), 126, 3, 0, [(0, 10)]), none, none, some ((.iastore, 1), 0, 0, 0, []), some ((.iload_n 2, 1), 2, 0, 0, []), some ((.ifCond .ge 12, 3), 54, 0, 0, []), none, none, some ((.aload_n 0, 1), 0, 0, 0, []), some ((.iload_n 1, 1), 1, 0, 0, []), some ((.iconst 2, 1), 0, 0, 2, [])],
  [some ((.invokevirtual 105, 3), 126, 3, 0, [(0, 10)]), none, none, some ((.goto 8, 3), 59, 0, 0, []), none, none, some ((.aload_n 0, 1), 0, 0, 0, []), some ((.iload_n 2, 1), 2, 0, 0, []), some ((.invokevirtual 150, 3), 200, 2, 0, [(0, 10)]), none, none, some ((.ireturn, 1), 0, 0, 0, [])]]
def T_X10_feed : Tab := [
  [some ((.aload_n 0, 1), 0, 0, 0, []), some ((.getfield 217, 3), 10, 10, 0, []), none, none, some ((.bipush 12, 2), 0, 0, 12, []), none, some ((.iadd, 1), 0, 0, 0, []), some ((.bipush 96, 2), 0, 0, 96, []), none, some ((.if_icmp .le 6, 3), 15, 0, 0, []), none, none, some ((.ldc 100, 2), 0, 0, (-1000000003), []), none, some ((.ireturn, 1), 0, 0, 0, []), some ((.iconst 0, 1), 0, 0, 0, [])],
  [some ((.istore 4, 2), 4, 0, 0, []), none, some ((.iload 4, 2), 4, 0, 0, []), none, some ((.bipush 12, 2), 0, 0, 12, []), none, some ((.if_icmp .ge 62, 3), 84, 0, 0, []), none, none, some ((.iload 4, 2), 4, 0, 0, []), none, some ((.iconst 4, 1), 0, 0, 4, []), some ((.if_icmp .ge 7, 3), 35, 0, 0, []), none, none, some ((.iload_n 1, 1), 1, 0, 0, [])],
  [some ((.goto 15, 3), 47, 0, 0, []), none, none, some ((.iload 4, 2), 4, 0, 0, []), none, some ((.bipush 8, 2), 0, 0, 8, []), none, some ((.if_icmp .ge 7, 3), 46, 0, 0, []), none, none, some ((.iload_n 2, 1), 2, 0, 0, []), some ((.goto 4, 3), 47, 0, 0, []), none, none, some ((.iload_n 3, 1), 3, 0, 0, []), some ((.istore 5, 2), 5, 0, 0, [])],
  [none, some ((.aload_n 0, 1), 0, 0, 0, []), some ((.getfield 34, 3), 10, 9, 0, []), none, none, some ((.aload_n 0, 1), 0, 0, 0, []), some ((.getfield 217, 3), 10, 10, 0, []), none, none, some ((.iload 4, 2), 4, 0, 0, []), none, some ((.iadd, 1), 0, 0, 0, []), some ((.iload 5, 2), 5, 0, 0, []), none, some ((.bipush 24, 2), 0, 0, 24, []), none],
  [some ((.bipush 8, 2), 0, 0, 8, []), none, some ((.iload 4, 2), 4, 0, 0, []), none, some ((.iconst 4, 1), 0, 0, 4, []), some ((.irem, 1), 0, 0, 0, []), some ((.imul, 1), 0, 0, 0, []), some ((.isub, 1), 0, 0, 0, []), some ((.ishr, 1), 0, 0, 0, []), some ((.sipush 255, 3), 0, 0, 255, []), none, none, some ((.iand, 1), 0, 0, 0, []), some ((.iastore, 1), 0, 0, 0, []), some ((.iinc 4 1, 3), 4, 0, 1, []), none],
  [none, some ((.goto (-63), 3), 18, 0, 0, []), none, none, some ((.aload_n 0, 1), 0, 0, 0, []), some ((.dup, 1), 0, 0, 0, []), some ((.getfield 217, 3), 10, 10, 0, []), none, none, some ((.bipush 12, 2), 0, 0, 12, []), none, some ((.iadd, 1), 0, 0, 0, []), some ((.putfield 217, 3), 10, 10, 0, []), none, none, some ((.aload_n 0, 1), 0, 0, 0, [])],
  [some ((.getfield 217, 3), 10, 10, 0, []), none, none, some ((.ireturn, 1), 0, 0, 0, [])]]
def T_X10_trim : Tab := [
  [some ((.iload_n 1, 1), 1, 0, 0, []), some ((.iconst 0, 1), 0, 0, 0, []), some ((.aload_n 0, 1), 0, 0, 0, []), some ((.getfield 217, 3), 10, 10, 0, []), none, none, some ((.invokestatic 87, 3), 120, 3, 0, []), none, none, some ((.ifCond .ne 6, 3), 15, 0, 0, []), none, none, some ((.ldc 99, 2), 0, 0, (-1000000001), []), none, some ((.ireturn, 1), 0, 0, 0, []), some ((.aload_n 0, 1), 0, 0, 0, [])],
  [some ((.iload_n 1, 1), 1, 0, 0, []), some ((.putfield 217, 3), 10, 10, 0, []), none, none, some ((.iload_n 1, 1), 1, 0, 0, []), some ((.ireturn, 1), 0, 0, 0, [])]]
def T_X10_isLetter : Tab := [
  [some ((.iload_n 1, 1), 1, 0, 0, []), some ((.aload_n 0, 1), 0, 0, 0, []), some ((.getfield 217, 3), 10, 10, 0, []), none, none, some ((.if_icmp .ge 29, 3), 34, 0, 0, []), none, none, some ((.aload_n 0, 1), 0, 0, 0, []), some ((.getfield 34, 3), 10, 9, 0, []), none, none, some ((.iload_n 1, 1), 1, 0, 0, []), some ((.iaload, 1), 0, 0, 0, []), some ((.bipush 97, 2), 0, 0, 97, []), none],
  [some ((.if_icmp .lt 18, 3), 34, 0, 0, []), none, none, some ((.aload_n 0, 1), 0, 0, 0, []), some ((.getfield 34, 3), 10, 9, 0, []), none, none, some ((.iload_n 1, 1), 1, 0, 0, []), some ((.iaload, 1), 0, 0, 0, []), some ((.bipush 122, 2), 0, 0, 122, []), none, some ((.if_icmp .gt 7, 3), 34, 0, 0, []), none, none, some ((.iconst 1, 1), 0, 0, 1, []), some ((.goto 4, 3), 35, 0, 0, [])],
  [none, none, some ((.iconst 0, 1), 0, 0, 0, []), some ((.ireturn, 1), 0, 0, 0, [])]]
def T_X10_isFigure : Tab := [
  [some ((.iload_n 1, 1), 1, 0, 0, []), some ((.aload_n 0, 1), 0, 0, 0, []), some ((.getfield 217, 3), 10, 10, 0, []), none, none, some ((.if_icmp .ge 29, 3), 34, 0, 0, []), none, none, some ((.aload_n 0, 1), 0, 0, 0, []), some ((.getfield 34, 3), 10, 9, 0, []), none, none, some ((.iload_n 1, 1), 1, 0, 0, []), some ((.iaload, 1), 0, 0, 0, []), some ((.bipush 48, 2), 0, 0, 48, []), none],
  [some ((.if_icmp .lt 18, 3), 34, 0, 0, []), none, none, some ((.aload_n 0, 1), 0, 0, 0, []), some ((.getfield 34, 3), 10, 9, 0, []), none, none, some ((.iload_n 1, 1), 1, 0, 0, []), some ((.iaload, 1), 0, 0, 0, []), some ((.bipush 57, 2), 0, 0, 57, []), none, some ((.if_icmp .gt 7, 3), 34, 0, 0, []), none, none, some ((.iconst 1, 1), 0, 0, 1, []), some ((.goto 4, 3), 35, 0, 0, [])],
  [none, none, some ((.iconst 0, 1), 0, 0, 0, []), some ((.ireturn, 1), 0, 0, 0, [])]]
def T_X10_go : Tab := [
  [some ((.aload_n 0, 1), 0, 0, 0, []), some ((.getfield 221, 3), 10, 11, 0, []), none, none, some ((.aload_n 0, 1), 0, 0, 0, []), some ((.getfield 217, 3), 10, 10, 0, []), none, none, some ((.if_icmp .ge 30, 3), 38, 0, 0, []), none, none, some ((.aload_n 0, 1), 0, 0, 0, []), some ((.getfield 34, 3), 10, 9, 0, []), none, none, some ((.aload_n 0, 1), 0, 0, 0, [])],
  [some ((.getfield 221, 3), 10, 11, 0, []), none, none, some ((.iaload, 1), 0, 0, 0, []), some ((.bipush 32, 2), 0, 0, 32, []), none, some ((.if_icmp .ne 16, 3), 38, 0, 0, []), none, none, some ((.aload_n 0, 1), 0, 0, 0, []), some ((.dup, 1), 0, 0, 0, []), some ((.getfield 221, 3), 10, 11, 0, []), none, none, some ((.iconst 1, 1), 0, 0, 1, []), some ((.iadd, 1), 0, 0, 0, [])],
  [some ((.putfield 221, 3), 10, 11, 0, []), none, none, some ((.goto (-35), 3), 0, 0, 0, []), none, none, some ((.aload_n 0, 1), 0, 0, 0, []), some ((.aload_n 0, 1), 0, 0, 0, []), some ((.getfield 221, 3), 10, 11, 0, []), none, none, some ((.putfield 224, 3), 10, 12, 0, []), none, none, some ((.aload_n 0, 1), 0, 0, 0, []), some ((.getfield 224, 3), 10, 12, 0, [])],
  [none, none, some ((.aload_n 0, 1), 0, 0, 0, []), some ((.getfield 227, 3), 10, 15, 0, []), none, none, some ((.if_icmp .ne 7, 3), 61, 0, 0, []), none, none, some ((.iconst 1, 1), 0, 0, 1, []), some ((.goto 4, 3), 62, 0, 0, []), none, none, some ((.iconst 0, 1), 0, 0, 0, []), some ((.istore_n 1, 1), 1, 0, 0, []), some ((.aload_n 0, 1), 0, 0, 0, [])],
  [some ((.getfield 224, 3), 10, 12, 0, []), none, none, some ((.aload_n 0, 1), 0, 0, 0, []), some ((.getfield 217, 3), 10, 10, 0, []), none, none, some ((.if_icmp .ne 11, 3), 82, 0, 0, []), none, none, some ((.aload_n 0, 1), 0, 0, 0, []), some ((.iconst 0, 1), 0, 0, 0, []), some ((.putfield 230, 3), 10, 13, 0, []), none, none, some ((.goto 224, 3), 303, 0, 0, [])],
  [none, none, some ((.aload_n 0, 1), 0, 0, 0, []), some ((.aload_n 0, 1), 0, 0, 0, []), some ((.getfield 224, 3), 10, 12, 0, []), none, none, some ((.invokevirtual 233, 3), 184, 2, 0, [(0, 10)]), none, none, some ((.ifCond .eq 64, 3), 154, 0, 0, []), none, none, some ((.aload_n 0, 1), 0, 0, 0, []), some ((.aload_n 0, 1), 0, 0, 0, []), some ((.getfield 221, 3), 10, 11, 0, [])],
  [none, none, some ((.invokevirtual 233, 3), 184, 2, 0, [(0, 10)]), none, none, some ((.ifCond .eq 16, 3), 117, 0, 0, []), none, none, some ((.aload_n 0, 1), 0, 0, 0, []), some ((.dup, 1), 0, 0, 0, []), some ((.getfield 221, 3), 10, 11, 0, []), none, none, some ((.iconst 1, 1), 0, 0, 1, []), some ((.iadd, 1), 0, 0, 0, []), some ((.putfield 221, 3), 10, 11, 0, [])],
  [none, none, some ((.goto (-21), 3), 93, 0, 0, []), none, none, some ((.aload_n 0, 1), 0, 0, 0, []), some ((.iload_n 1, 1), 1, 0, 0, []), some ((.ifCond .eq 7, 3), 126, 0, 0, []), none, none, some ((.iconst 4, 1), 0, 0, 4, []), some ((.goto 4, 3), 127, 0, 0, []), none, none, some ((.iconst 1, 1), 0, 0, 1, []), some ((.putfield 230, 3), 10, 13, 0, [])],
  [none, none, some ((.aload_n 0, 1), 0, 0, 0, []), some ((.aload_n 0, 1), 0, 0, 0, []), some ((.getfield 34, 3), 10, 9, 0, []), none, none, some ((.aload_n 0, 1), 0, 0, 0, []), some ((.getfield 224, 3), 10, 12, 0, []), none, none, some ((.iaload, 1), 0, 0, 0, []), some ((.putfield 236, 3), 10, 14, 0, []), none, none, some ((.aload_n 0, 1), 0, 0, 0, [])],
  [some ((.aload_n 0, 1), 0, 0, 0, []), some ((.getfield 221, 3), 10, 11, 0, []), none, none, some ((.putfield 227, 3), 10, 15, 0, []), none, none, some ((.goto 152, 3), 303, 0, 0, []), none, none, some ((.aload_n 0, 1), 0, 0, 0, []), some ((.aload_n 0, 1), 0, 0, 0, []), some ((.getfield 224, 3), 10, 12, 0, []), none, none, some ((.invokevirtual 239, 3), 185, 2, 0, [(0, 10)])],
  [none, none, some ((.ifCond .eq 113, 3), 275, 0, 0, []), none, none, some ((.aload_n 0, 1), 0, 0, 0, []), some ((.iconst 0, 1), 0, 0, 0, []), some ((.putfield 236, 3), 10, 14, 0, []), none, none, some ((.aload_n 0, 1), 0, 0, 0, []), some ((.aload_n 0, 1), 0, 0, 0, []), some ((.getfield 221, 3), 10, 11, 0, []), none, none, some ((.invokevirtual 239, 3), 185, 2, 0, [(0, 10)])],
  [none, none, some ((.ifCond .eq 60, 3), 238, 0, 0, []), none, none, some ((.aload_n 0, 1), 0, 0, 0, []), some ((.aload_n 0, 1), 0, 0, 0, []), some ((.getfield 221, 3), 10, 11, 0, []), none, none, some ((.aload_n 0, 1), 0, 0, 0, []), some ((.getfield 224, 3), 10, 12, 0, []), none, none, some ((.isub, 1), 0, 0, 0, []), some ((.iconst 4, 1), 0, 0, 4, [])],
  [some ((.if_icmp .ge 26, 3), 218, 0, 0, []), none, none, some ((.bipush 10, 2), 0, 0, 10, []), none, some ((.aload_n 0, 1), 0, 0, 0, []), some ((.getfield 236, 3), 10, 14, 0, []), none, none, some ((.imul, 1), 0, 0, 0, []), some ((.aload_n 0, 1), 0, 0, 0, []), some ((.getfield 34, 3), 10, 9, 0, []), none, none, some ((.aload_n 0, 1), 0, 0, 0, []), some ((.getfield 221, 3), 10, 11, 0, [])],
  [none, none, some ((.iaload, 1), 0, 0, 0, []), some ((.iadd, 1), 0, 0, 0, []), some ((.bipush 48, 2), 0, 0, 48, []), none, some ((.isub, 1), 0, 0, 0, []), some ((.goto 7, 3), 222, 0, 0, []), none, none, some ((.aload_n 0, 1), 0, 0, 0, []), some ((.getfield 236, 3), 10, 14, 0, []), none, none, some ((.putfield 236, 3), 10, 14, 0, []), none],
  [none, some ((.aload_n 0, 1), 0, 0, 0, []), some ((.dup, 1), 0, 0, 0, []), some ((.getfield 221, 3), 10, 11, 0, []), none, none, some ((.iconst 1, 1), 0, 0, 1, []), some ((.iadd, 1), 0, 0, 0, []), some ((.putfield 221, 3), 10, 11, 0, []), none, none, some ((.goto (-65), 3), 170, 0, 0, []), none, none, some ((.aload_n 0, 1), 0, 0, 0, []), some ((.iload_n 1, 1), 1, 0, 0, [])],
  [some ((.ifCond .ne 16, 3), 256, 0, 0, []), none, none, some ((.aload_n 0, 1), 0, 0, 0, []), some ((.getfield 221, 3), 10, 11, 0, []), none, none, some ((.aload_n 0, 1), 0, 0, 0, []), some ((.getfield 224, 3), 10, 12, 0, []), none, none, some ((.isub, 1), 0, 0, 0, []), some ((.iconst 4, 1), 0, 0, 4, []), some ((.if_icmp .le 7, 3), 260, 0, 0, []), none, none],
  [some ((.iconst 4, 1), 0, 0, 4, []), some ((.goto 4, 3), 261, 0, 0, []), none, none, some ((.iconst 2, 1), 0, 0, 2, []), some ((.putfield 230, 3), 10, 13, 0, []), none, none, some ((.aload_n 0, 1), 0, 0, 0, []), some ((.aload_n 0, 1), 0, 0, 0, []), some ((.getfield 221, 3), 10, 11, 0, []), none, none, some ((.putfield 227, 3), 10, 15, 0, []), none, none],
  [some ((.goto 31, 3), 303, 0, 0, []), none, none, some ((.aload_n 0, 1), 0, 0, 0, []), some ((.iconst 3, 1), 0, 0, 3, []), some ((.putfield 230, 3), 10, 13, 0, []), none, none, some ((.aload_n 0, 1), 0, 0, 0, []), some ((.aload_n 0, 1), 0, 0, 0, []), some ((.getfield 34, 3), 10, 9, 0, []), none, none, some ((.aload_n 0, 1), 0, 0, 0, []), some ((.getfield 224, 3), 10, 12, 0, []), none],
  [none, some ((.iaload, 1), 0, 0, 0, []), some ((.putfield 236, 3), 10, 14, 0, []), none, none, some ((.aload_n 0, 1), 0, 0, 0, []), some ((.dup, 1), 0, 0, 0, []), some ((.getfield 221, 3), 10, 11, 0, []), none, none, some ((.iconst 1, 1), 0, 0, 1, []), some ((.iadd, 1), 0, 0, 0, []), some ((.putfield 221, 3), 10, 11, 0, []), none, none, some ((.return_, 1), 0, 0, 0, [])]]
def T_X10_takesKey : Tab := [
  [some ((.aload_n 0, 1), 0, 0, 0, []), some ((.getfield 230, 3), 10, 13, 0, []), none, none, some ((.iconst 1, 1), 0, 0, 1, []), some ((.if_icmp .eq 5, 3), 10, 0, 0, []), none, none, some ((.iconst 0, 1), 0, 0, 0, []), some ((.ireturn, 1), 0, 0, 0, []), some ((.iconst 0, 1), 0, 0, 0, []), some ((.istore_n 1, 1), 1, 0, 0, []), some ((.iload_n 1, 1), 1, 0, 0, []), some ((.iconst 3, 1), 0, 0, 3, []), some ((.if_icmp .ge 113, 3), 127, 0, 0, []), none],
  [none, some ((.aload_n 0, 1), 0, 0, 0, []), some ((.getfield 41, 3), 10, 18, 0, []), none, none, some ((.iload_n 1, 1), 1, 0, 0, []), some ((.iconst 1, 1), 0, 0, 1, []), some ((.iadd, 1), 0, 0, 0, []), some ((.iaload, 1), 0, 0, 0, []), some ((.aload_n 0, 1), 0, 0, 0, []), some ((.getfield 41, 3), 10, 18, 0, []), none, none, some ((.iload_n 1, 1), 1, 0, 0, []), some ((.iaload, 1), 0, 0, 0, []), some ((.isub, 1), 0, 0, 0, [])],
  [some ((.istore_n 2, 1), 2, 0, 0, []), some ((.iload_n 2, 1), 2, 0, 0, []), some ((.aload_n 0, 1), 0, 0, 0, []), some ((.getfield 221, 3), 10, 11, 0, []), none, none, some ((.aload_n 0, 1), 0, 0, 0, []), some ((.getfield 224, 3), 10, 12, 0, []), none, none, some ((.isub, 1), 0, 0, 0, []), some ((.if_icmp .ne 7, 3), 50, 0, 0, []), none, none, some ((.iconst 1, 1), 0, 0, 1, []), some ((.goto 4, 3), 51, 0, 0, [])],
  [none, none, some ((.iconst 0, 1), 0, 0, 0, []), some ((.istore_n 3, 1), 3, 0, 0, []), some ((.iconst 0, 1), 0, 0, 0, []), some ((.istore 4, 2), 4, 0, 0, []), none, some ((.iload 4, 2), 4, 0, 0, []), none, some ((.iload_n 2, 1), 2, 0, 0, []), some ((.if_icmp .ge 48, 3), 106, 0, 0, []), none, none, some ((.iload_n 3, 1), 3, 0, 0, []), some ((.ifCond .eq 44, 3), 106, 0, 0, []), none],
  [none, some ((.aload_n 0, 1), 0, 0, 0, []), some ((.getfield 34, 3), 10, 9, 0, []), none, none, some ((.aload_n 0, 1), 0, 0, 0, []), some ((.getfield 224, 3), 10, 12, 0, []), none, none, some ((.iload 4, 2), 4, 0, 0, []), none, some ((.iadd, 1), 0, 0, 0, []), some ((.iaload, 1), 0, 0, 0, []), some ((.aload_n 0, 1), 0, 0, 0, []), some ((.getfield 37, 3), 10, 17, 0, []), none],
  [none, some ((.aload_n 0, 1), 0, 0, 0, []), some ((.getfield 41, 3), 10, 18, 0, []), none, none, some ((.iload_n 1, 1), 1, 0, 0, []), some ((.iaload, 1), 0, 0, 0, []), some ((.iload 4, 2), 4, 0, 0, []), none, some ((.iadd, 1), 0, 0, 0, []), some ((.caload, 1), 0, 0, 0, []), some ((.if_icmp .ne 7, 3), 98, 0, 0, []), none, none, some ((.iconst 1, 1), 0, 0, 1, []), some ((.goto 4, 3), 99, 0, 0, [])],
  [none, none, some ((.iconst 0, 1), 0, 0, 0, []), some ((.istore_n 3, 1), 3, 0, 0, []), some ((.iinc 4 1, 3), 4, 0, 1, []), none, none, some ((.goto (-48), 3), 55, 0, 0, []), none, none, some ((.iload_n 3, 1), 3, 0, 0, []), some ((.ifCond .eq 14, 3), 121, 0, 0, []), none, none, some ((.aload_n 0, 1), 0, 0, 0, []), some ((.iload_n 1, 1), 1, 0, 0, [])],
  [some ((.putfield 242, 3), 10, 16, 0, []), none, none, some ((.aload_n 0, 1), 0, 0, 0, []), some ((.invokevirtual 245, 3), 186, 1, 0, [(0, 10)]), none, none, some ((.iconst 1, 1), 0, 0, 1, []), some ((.ireturn, 1), 0, 0, 0, []), some ((.iinc 1 1, 3), 1, 0, 1, []), none, none, some ((.goto (-112), 3), 12, 0, 0, []), none, none, some ((.iconst 0, 1), 0, 0, 0, [])],
  [some ((.ireturn, 1), 0, 0, 0, [])]]
def T_X10_nameOf : Tab := [
  [some ((.aload_n 0, 1), 0, 0, 0, []), some ((.getfield 242, 3), 10, 16, 0, []), none, none, some ((.lookupswitch 82 #[(0, 28), (1, 60)], 28), 86, 0, 0, [(0, 32), (1, 64)]), none, none, none, none, none, none, none, none, none, none, none],
  [none, none, none, none, none, none, none, none, none, none, none, none, none, none, none, none],
  [some ((.iload_n 1, 1), 1, 0, 0, []), some ((.bipush 116, 2), 0, 0, 116, []), none, some ((.if_icmp .ne 7, 3), 42, 0, 0, []), none, none, some ((.iconst 0, 1), 0, 0, 0, []), some ((.goto 24, 3), 63, 0, 0, []), none, none, some ((.iload_n 1, 1), 1, 0, 0, []), some ((.bipush 110, 2), 0, 0, 110, []), none, some ((.if_icmp .ne 7, 3), 52, 0, 0, []), none, none],
  [some ((.iconst 1, 1), 0, 0, 1, []), some ((.goto 14, 3), 63, 0, 0, []), none, none, some ((.iload_n 1, 1), 1, 0, 0, []), some ((.bipush 119, 2), 0, 0, 119, []), none, some ((.if_icmp .ne 7, 3), 62, 0, 0, []), none, none, some ((.iconst 2, 1), 0, 0, 2, []), some ((.goto 4, 3), 63, 0, 0, []), none, none, some ((.iconst (-1), 1), 0, 0, (-1), []), some ((.ireturn, 1), 0, 0, 0, [])],
  [some ((.iload_n 1, 1), 1, 0, 0, []), some ((.bipush 115, 2), 0, 0, 115, []), none, some ((.if_icmp .ne 7, 3), 74, 0, 0, []), none, none, some ((.iconst 0, 1), 0, 0, 0, []), some ((.goto 14, 3), 85, 0, 0, []), none, none, some ((.iload_n 1, 1), 1, 0, 0, []), some ((.bipush 97, 2), 0, 0, 97, []), none, some ((.if_icmp .ne 7, 3), 84, 0, 0, []), none, none],
  [some ((.iconst 1, 1), 0, 0, 1, []), some ((.goto 4, 3), 85, 0, 0, []), none, none, some ((.iconst (-1), 1), 0, 0, (-1), []), some ((.ireturn, 1), 0, 0, 0, []), some ((.iload_n 1, 1), 1, 0, 0, []), some ((.bipush 102, 2), 0, 0, 102, []), none, some ((.if_icmp .ne 7, 3), 96, 0, 0, []), none, none, some ((.iconst 0, 1), 0, 0, 0, []), some ((.goto 14, 3), 107, 0, 0, []), none, none],
  [some ((.iload_n 1, 1), 1, 0, 0, []), some ((.bipush 111, 2), 0, 0, 111, []), none, some ((.if_icmp .ne 7, 3), 106, 0, 0, []), none, none, some ((.iconst 1, 1), 0, 0, 1, []), some ((.goto 4, 3), 107, 0, 0, []), none, none, some ((.iconst (-1), 1), 0, 0, (-1), []), some ((.ireturn, 1), 0, 0, 0, [])]]
def T_X10_rank : Tab := [
  [some ((.iload_n 0, 1), 0, 0, 0, []), some ((.iconst (-1), 1), 0, 0, (-1), []), some ((.if_icmp .ne 7, 3), 9, 0, 0, []), none, none, some ((.iconst 1, 1), 0, 0, 1, []), some ((.goto 45, 3), 51, 0, 0, []), none, none, some ((.iload_n 0, 1), 0, 0, 0, []), some ((.bipush (-2), 2), 0, 0, (-2), []), none, some ((.if_icmp .ne 7, 3), 19, 0, 0, []), none, none, some ((.iconst 2, 1), 0, 0, 2, [])],
  [some ((.goto 35, 3), 51, 0, 0, []), none, none, some ((.iload_n 0, 1), 0, 0, 0, []), some ((.bipush (-5), 2), 0, 0, (-5), []), none, some ((.if_icmp .lt 7, 3), 29, 0, 0, []), none, none, some ((.iconst 3, 1), 0, 0, 3, []), some ((.goto 25, 3), 51, 0, 0, []), none, none, some ((.iload_n 0, 1), 0, 0, 0, []), some ((.bipush (-7), 2), 0, 0, (-7), []), none],
  [some ((.if_icmp .lt 7, 3), 39, 0, 0, []), none, none, some ((.iconst 4, 1), 0, 0, 4, []), some ((.goto 15, 3), 51, 0, 0, []), none, none, some ((.iload_n 0, 1), 0, 0, 0, []), some ((.bipush (-9), 2), 0, 0, (-9), []), none, some ((.if_icmp .lt 7, 3), 49, 0, 0, []), none, none, some ((.iconst 5, 1), 0, 0, 5, []), some ((.goto 5, 3), 51, 0, 0, []), none],
  [none, some ((.bipush 6, 2), 0, 0, 6, []), none, some ((.ireturn, 1), 0, 0, 0, [])]]
def T_X10_settle : Tab := [
  [some ((.aload_n 0, 1), 0, 0, 0, []), some ((.getfield 248, 3), 10, 23, 0, []), none, none, some ((.ifCond .le 78, 3), 82, 0, 0, []), none, none, some ((.aload_n 0, 1), 0, 0, 0, []), some ((.getfield 47, 3), 10, 22, 0, []), none, none, some ((.aload_n 0, 1), 0, 0, 0, []), some ((.getfield 248, 3), 10, 23, 0, []), none, none, some ((.iconst 1, 1), 0, 0, 1, [])],
  [some ((.isub, 1), 0, 0, 0, []), some ((.iaload, 1), 0, 0, 0, []), some ((.bipush (-11), 2), 0, 0, (-11), []), none, some ((.if_icmp .eq 62, 3), 82, 0, 0, []), none, none, some ((.aload_n 0, 1), 0, 0, 0, []), some ((.getfield 47, 3), 10, 22, 0, []), none, none, some ((.aload_n 0, 1), 0, 0, 0, []), some ((.getfield 248, 3), 10, 23, 0, []), none, none, some ((.iconst 1, 1), 0, 0, 1, [])],
  [some ((.isub, 1), 0, 0, 0, []), some ((.iaload, 1), 0, 0, 0, []), some ((.invokestatic 251, 3), 189, 1, 0, []), none, none, some ((.iload_n 1, 1), 1, 0, 0, []), some ((.if_icmp .lt 44, 3), 82, 0, 0, []), none, none, some ((.aload_n 0, 1), 0, 0, 0, []), some ((.dup, 1), 0, 0, 0, []), some ((.getfield 248, 3), 10, 23, 0, []), none, none, some ((.iconst 1, 1), 0, 0, 1, []), some ((.isub, 1), 0, 0, 0, [])],
  [some ((.putfield 248, 3), 10, 23, 0, []), none, none, some ((.aload_n 0, 1), 0, 0, 0, []), some ((.getfield 44, 3), 10, 19, 0, []), none, none, some ((.aload_n 0, 1), 0, 0, 0, []), some ((.getfield 254, 3), 10, 20, 0, []), none, none, some ((.aload_n 0, 1), 0, 0, 0, []), some ((.getfield 47, 3), 10, 22, 0, []), none, none, some ((.aload_n 0, 1), 0, 0, 0, [])],
  [some ((.getfield 248, 3), 10, 23, 0, []), none, none, some ((.iaload, 1), 0, 0, 0, []), some ((.iastore, 1), 0, 0, 0, []), some ((.aload_n 0, 1), 0, 0, 0, []), some ((.dup, 1), 0, 0, 0, []), some ((.getfield 254, 3), 10, 20, 0, []), none, none, some ((.iconst 1, 1), 0, 0, 1, []), some ((.iadd, 1), 0, 0, 0, []), some ((.putfield 254, 3), 10, 20, 0, []), none, none, some ((.goto (-79), 3), 0, 0, 0, [])],
  [none, none, some ((.return_, 1), 0, 0, 0, [])]]
def T_X10_signHere : Tab := [
  [some ((.aload_n 0, 1), 0, 0, 0, []), some ((.getfield 230, 3), 10, 13, 0, []), none, none, some ((.iconst 3, 1), 0, 0, 3, []), some ((.if_icmp .eq 5, 3), 10, 0, 0, []), none, none, some ((.iconst 0, 1), 0, 0, 0, []), some ((.ireturn, 1), 0, 0, 0, []), some ((.aload_n 0, 1), 0, 0, 0, []), some ((.getfield 236, 3), 10, 14, 0, []), none, none, some ((.lookupswitch 108 #[(38, 84), (42, 102), (43, 96), (45, 99), (47, 105), (60, 87), (61, 90), (62, 93), (124, 82)], 82), 122, 0, 0, [(38, 98), (42, 116), (43, 110), (45, 113), (47, 119), (60, 101), (61, 104), (62, 107), (124, 96)]), none],
  [none, none, none, none, none, none, none, none, none, none, none, none, none, none, none, none],
  [none, none, none, none, none, none, none, none, none, none, none, none, none, none, none, none],
  [none, none, none, none, none, none, none, none, none, none, none, none, none, none, none, none],
  [none, none, none, none, none, none, none, none, none, none, none, none, none, none, none, none],
  [none, none, none, none, none, none, none, none, none, none, none, none, none, none, none, none],
  [some ((.iconst (-1), 1), 0, 0, (-1), []), some ((.ireturn, 1), 0, 0, 0, []), some ((.bipush (-2), 2), 0, 0, (-2), []), none, some ((.ireturn, 1), 0, 0, 0, []), some ((.bipush (-3), 2), 0, 0, (-3), []), none, some ((.ireturn, 1), 0, 0, 0, []), some ((.bipush (-4), 2), 0, 0, (-4), []), none, some ((.ireturn, 1), 0, 0, 0, []), some ((.bipush (-5), 2), 0, 0, (-5), []), none, some ((.ireturn, 1), 0, 0, 0, []), some ((.bipush (-6), 2), 0, 0, (-6), []), none],
  [some ((.ireturn, 1), 0, 0, 0, []), some ((.bipush (-7), 2), 0, 0, (-7), []), none, some ((.ireturn, 1), 0, 0, 0, []), some ((.bipush (-8), 2), 0, 0, (-8), []), none, some ((.ireturn, 1), 0, 0, 0, []), some ((.bipush (-9), 2), 0, 0, (-9), []), none, some ((.ireturn, 1), 0, 0, 0, []), some ((.iconst 0, 1), 0, 0, 0, []), some ((.ireturn, 1), 0, 0, 0, [])]]
def T_X10_takesPart : Tab := [
  [some ((.aload_n 0, 1), 0, 0, 0, []), some ((.getfield 230, 3), 10, 13, 0, []), none, none, some ((.iconst 1, 1), 0, 0, 1, []), some ((.if_icmp .ne 31, 3), 36, 0, 0, []), none, none, some ((.aload_n 0, 1), 0, 0, 0, []), some ((.getfield 221, 3), 10, 11, 0, []), none, none, some ((.aload_n 0, 1), 0, 0, 0, []), some ((.getfield 224, 3), 10, 12, 0, []), none, none],
  [some ((.isub, 1), 0, 0, 0, []), some ((.iconst 1, 1), 0, 0, 1, []), some ((.if_icmp .ne 18, 3), 36, 0, 0, []), none, none, some ((.aload_n 0, 1), 0, 0, 0, []), some ((.aload_n 0, 1), 0, 0, 0, []), some ((.getfield 236, 3), 10, 14, 0, []), none, none, some ((.invokevirtual 257, 3), 188, 2, 0, [(0, 10)]), none, none, some ((.ifCond .lt 7, 3), 36, 0, 0, []), none, none],
  [some ((.iconst 1, 1), 0, 0, 1, []), some ((.goto 4, 3), 37, 0, 0, []), none, none, some ((.iconst 0, 1), 0, 0, 0, []), some ((.istore_n 1, 1), 1, 0, 0, []), some ((.aload_n 0, 1), 0, 0, 0, []), some ((.getfield 230, 3), 10, 13, 0, []), none, none, some ((.iconst 2, 1), 0, 0, 2, []), some ((.if_icmp .eq 9, 3), 52, 0, 0, []), none, none, some ((.iload_n 1, 1), 1, 0, 0, []), some ((.ifCond .ne 5, 3), 52, 0, 0, [])],
  [none, none, some ((.iconst 0, 1), 0, 0, 0, []), some ((.ireturn, 1), 0, 0, 0, []), some ((.aload_n 0, 1), 0, 0, 0, []), some ((.getfield 44, 3), 10, 19, 0, []), none, none, some ((.aload_n 0, 1), 0, 0, 0, []), some ((.getfield 254, 3), 10, 20, 0, []), none, none, some ((.aload_n 0, 1), 0, 0, 0, []), some ((.getfield 230, 3), 10, 13, 0, []), none, none],
  [some ((.iconst 2, 1), 0, 0, 2, []), some ((.if_icmp .ne 10, 3), 75, 0, 0, []), none, none, some ((.aload_n 0, 1), 0, 0, 0, []), some ((.getfield 236, 3), 10, 14, 0, []), none, none, some ((.goto 15, 3), 87, 0, 0, []), none, none, some ((.sipush 10000, 3), 0, 0, 10000, []), none, none, some ((.aload_n 0, 1), 0, 0, 0, []), some ((.aload_n 0, 1), 0, 0, 0, [])],
  [some ((.getfield 236, 3), 10, 14, 0, []), none, none, some ((.invokevirtual 257, 3), 188, 2, 0, [(0, 10)]), none, none, some ((.iadd, 1), 0, 0, 0, []), some ((.iastore, 1), 0, 0, 0, []), some ((.aload_n 0, 1), 0, 0, 0, []), some ((.dup, 1), 0, 0, 0, []), some ((.getfield 254, 3), 10, 20, 0, []), none, none, some ((.iconst 1, 1), 0, 0, 1, []), some ((.iadd, 1), 0, 0, 0, []), some ((.putfield 254, 3), 10, 20, 0, [])],
  [none, none, some ((.aload_n 0, 1), 0, 0, 0, []), some ((.dup, 1), 0, 0, 0, []), some ((.getfield 260, 3), 10, 21, 0, []), none, none, some ((.iconst 1, 1), 0, 0, 1, []), some ((.iadd, 1), 0, 0, 0, []), some ((.putfield 260, 3), 10, 21, 0, []), none, none, some ((.aload_n 0, 1), 0, 0, 0, []), some ((.bipush 6, 2), 0, 0, 6, []), none, some ((.invokevirtual 263, 3), 190, 2, 0, [(0, 10)])],
  [none, none, some ((.aload_n 0, 1), 0, 0, 0, []), some ((.invokevirtual 245, 3), 186, 1, 0, [(0, 10)]), none, none, some ((.iconst 1, 1), 0, 0, 1, []), some ((.ireturn, 1), 0, 0, 0, [])]]
def T_X10_takesE : Tab := [
  [some ((.iconst 0, 1), 0, 0, 0, []), some ((.istore_n 1, 1), 1, 0, 0, []), some ((.iconst 0, 1), 0, 0, 0, []), some ((.istore_n 2, 1), 2, 0, 0, []), some ((.iconst 1, 1), 0, 0, 1, []), some ((.istore_n 3, 1), 3, 0, 0, []), some ((.aload_n 0, 1), 0, 0, 0, []), some ((.iconst 0, 1), 0, 0, 0, []), some ((.putfield 254, 3), 10, 20, 0, []), none, none, some ((.aload_n 0, 1), 0, 0, 0, []), some ((.iconst 0, 1), 0, 0, 0, []), some ((.putfield 260, 3), 10, 21, 0, []), none, none],
  [some ((.aload_n 0, 1), 0, 0, 0, []), some ((.iconst 0, 1), 0, 0, 0, []), some ((.putfield 248, 3), 10, 23, 0, []), none, none, some ((.aload_n 0, 1), 0, 0, 0, []), some ((.getfield 50, 3), 10, 24, 0, []), none, none, some ((.iconst 0, 1), 0, 0, 0, []), some ((.iconst 0, 1), 0, 0, 0, []), some ((.bastore, 1), 0, 0, 0, []), some ((.iload_n 3, 1), 3, 0, 0, []), some ((.ifCond .ne 10, 3), 39, 0, 0, []), none, none],
  [some ((.aload_n 0, 1), 0, 0, 0, []), some ((.getfield 230, 3), 10, 13, 0, []), none, none, some ((.ifCond .eq 309, 3), 345, 0, 0, []), none, none, some ((.iload_n 3, 1), 3, 0, 0, []), some ((.ifCond .eq 140, 3), 180, 0, 0, []), none, none, some ((.aload_n 0, 1), 0, 0, 0, []), some ((.getfield 230, 3), 10, 13, 0, []), none, none, some ((.iconst 3, 1), 0, 0, 3, [])],
  [some ((.if_icmp .ne 49, 3), 97, 0, 0, []), none, none, some ((.aload_n 0, 1), 0, 0, 0, []), some ((.getfield 236, 3), 10, 14, 0, []), none, none, some ((.bipush 33, 2), 0, 0, 33, []), none, some ((.if_icmp .ne 40, 3), 97, 0, 0, []), none, none, some ((.iload_n 2, 1), 2, 0, 0, []), some ((.bipush 8, 2), 0, 0, 8, []), none, some ((.if_icmp .ge 34, 3), 97, 0, 0, [])],
  [none, none, some ((.aload_n 0, 1), 0, 0, 0, []), some ((.getfield 47, 3), 10, 22, 0, []), none, none, some ((.aload_n 0, 1), 0, 0, 0, []), some ((.getfield 248, 3), 10, 23, 0, []), none, none, some ((.bipush (-10), 2), 0, 0, (-10), []), none, some ((.iastore, 1), 0, 0, 0, []), some ((.aload_n 0, 1), 0, 0, 0, []), some ((.dup, 1), 0, 0, 0, []), some ((.getfield 248, 3), 10, 23, 0, [])],
  [none, none, some ((.iconst 1, 1), 0, 0, 1, []), some ((.iadd, 1), 0, 0, 0, []), some ((.putfield 248, 3), 10, 23, 0, []), none, none, some ((.iinc 2 1, 3), 2, 0, 1, []), none, none, some ((.aload_n 0, 1), 0, 0, 0, []), some ((.invokevirtual 245, 3), 186, 1, 0, [(0, 10)]), none, none, some ((.goto 78, 3), 172, 0, 0, []), none],
  [none, some ((.aload_n 0, 1), 0, 0, 0, []), some ((.getfield 230, 3), 10, 13, 0, []), none, none, some ((.iconst 3, 1), 0, 0, 3, []), some ((.if_icmp .ne 56, 3), 158, 0, 0, []), none, none, some ((.aload_n 0, 1), 0, 0, 0, []), some ((.getfield 236, 3), 10, 14, 0, []), none, none, some ((.bipush 40, 2), 0, 0, 40, []), none, some ((.if_icmp .ne 47, 3), 158, 0, 0, [])],
  [none, none, some ((.iload_n 1, 1), 1, 0, 0, []), some ((.bipush 8, 2), 0, 0, 8, []), none, some ((.if_icmp .ge 41, 3), 158, 0, 0, []), none, none, some ((.aload_n 0, 1), 0, 0, 0, []), some ((.getfield 47, 3), 10, 22, 0, []), none, none, some ((.aload_n 0, 1), 0, 0, 0, []), some ((.getfield 248, 3), 10, 23, 0, []), none, none],
  [some ((.bipush (-11), 2), 0, 0, (-11), []), none, some ((.iastore, 1), 0, 0, 0, []), some ((.aload_n 0, 1), 0, 0, 0, []), some ((.dup, 1), 0, 0, 0, []), some ((.getfield 248, 3), 10, 23, 0, []), none, none, some ((.iconst 1, 1), 0, 0, 1, []), some ((.iadd, 1), 0, 0, 0, []), some ((.putfield 248, 3), 10, 23, 0, []), none, none, some ((.iinc 1 1, 3), 1, 0, 1, []), none, none],
  [some ((.aload_n 0, 1), 0, 0, 0, []), some ((.getfield 50, 3), 10, 24, 0, []), none, none, some ((.iload_n 1, 1), 1, 0, 0, []), some ((.iconst 0, 1), 0, 0, 0, []), some ((.bastore, 1), 0, 0, 0, []), some ((.aload_n 0, 1), 0, 0, 0, []), some ((.invokevirtual 245, 3), 186, 1, 0, [(0, 10)]), none, none, some ((.goto 17, 3), 172, 0, 0, []), none, none, some ((.aload_n 0, 1), 0, 0, 0, []), some ((.invokevirtual 266, 3), 192, 1, 0, [(0, 10)])],
  [none, none, some ((.ifCond .eq 8, 3), 170, 0, 0, []), none, none, some ((.iconst 0, 1), 0, 0, 0, []), some ((.istore_n 3, 1), 3, 0, 0, []), some ((.goto 5, 3), 172, 0, 0, []), none, none, some ((.iconst 0, 1), 0, 0, 0, []), some ((.ireturn, 1), 0, 0, 0, []), some ((.aload_n 0, 1), 0, 0, 0, []), some ((.invokevirtual 270, 3), 194, 1, 0, [(0, 10)]), none, none],
  [some ((.istore_n 2, 1), 2, 0, 0, []), some ((.goto (-149), 3), 28, 0, 0, []), none, none, some ((.aload_n 0, 1), 0, 0, 0, []), some ((.getfield 230, 3), 10, 13, 0, []), none, none, some ((.iconst 3, 1), 0, 0, 3, []), some ((.if_icmp .ne 52, 3), 237, 0, 0, []), none, none, some ((.aload_n 0, 1), 0, 0, 0, []), some ((.getfield 236, 3), 10, 14, 0, []), none, none],
  [some ((.bipush 41, 2), 0, 0, 41, []), none, some ((.if_icmp .ne 43, 3), 237, 0, 0, []), none, none, some ((.iload_n 1, 1), 1, 0, 0, []), some ((.ifCond .le 39, 3), 237, 0, 0, []), none, none, some ((.aload_n 0, 1), 0, 0, 0, []), some ((.iconst 0, 1), 0, 0, 0, []), some ((.invokevirtual 263, 3), 190, 2, 0, [(0, 10)]), none, none, some ((.aload_n 0, 1), 0, 0, 0, []), some ((.dup, 1), 0, 0, 0, [])],
  [some ((.getfield 248, 3), 10, 23, 0, []), none, none, some ((.iconst 1, 1), 0, 0, 1, []), some ((.isub, 1), 0, 0, 0, []), some ((.putfield 248, 3), 10, 23, 0, []), none, none, some ((.iinc 1 (-1), 3), 1, 0, (-1), []), none, none, some ((.aload_n 0, 1), 0, 0, 0, []), some ((.bipush 6, 2), 0, 0, 6, []), none, some ((.invokevirtual 263, 3), 190, 2, 0, [(0, 10)]), none],
  [none, some ((.aload_n 0, 1), 0, 0, 0, []), some ((.invokevirtual 270, 3), 194, 1, 0, [(0, 10)]), none, none, some ((.istore_n 2, 1), 2, 0, 0, []), some ((.aload_n 0, 1), 0, 0, 0, []), some ((.invokevirtual 245, 3), 186, 1, 0, [(0, 10)]), none, none, some ((.goto (-206), 3), 28, 0, 0, []), none, none, some ((.aload_n 0, 1), 0, 0, 0, []), some ((.invokevirtual 273, 3), 191, 1, 0, [(0, 10)]), none],
  [none, some ((.istore 4, 2), 4, 0, 0, []), none, some ((.iload 4, 2), 4, 0, 0, []), none, some ((.ifCond .eq 21, 3), 266, 0, 0, []), none, none, some ((.iload 4, 2), 4, 0, 0, []), none, some ((.invokestatic 251, 3), 189, 1, 0, []), none, none, some ((.iconst 3, 1), 0, 0, 3, []), some ((.if_icmp .ne 14, 3), 268, 0, 0, []), none],
  [none, some ((.aload_n 0, 1), 0, 0, 0, []), some ((.getfield 50, 3), 10, 24, 0, []), none, none, some ((.iload_n 1, 1), 1, 0, 0, []), some ((.baload, 1), 0, 0, 0, []), some ((.ifCond .eq 5, 3), 268, 0, 0, []), none, none, some ((.iconst 0, 1), 0, 0, 0, []), some ((.ireturn, 1), 0, 0, 0, []), some ((.aload_n 0, 1), 0, 0, 0, []), some ((.getfield 50, 3), 10, 24, 0, []), none, none],
  [some ((.iload_n 1, 1), 1, 0, 0, []), some ((.iload 4, 2), 4, 0, 0, []), none, some ((.invokestatic 251, 3), 189, 1, 0, []), none, none, some ((.iconst 3, 1), 0, 0, 3, []), some ((.if_icmp .eq 21, 3), 300, 0, 0, []), none, none, some ((.iload 4, 2), 4, 0, 0, []), none, some ((.invokestatic 251, 3), 189, 1, 0, []), none, none, some ((.iconst 3, 1), 0, 0, 3, [])],
  [some ((.if_icmp .le 16, 3), 304, 0, 0, []), none, none, some ((.aload_n 0, 1), 0, 0, 0, []), some ((.getfield 50, 3), 10, 24, 0, []), none, none, some ((.iload_n 1, 1), 1, 0, 0, []), some ((.baload, 1), 0, 0, 0, []), some ((.ifCond .eq 7, 3), 304, 0, 0, []), none, none, some ((.iconst 1, 1), 0, 0, 1, []), some ((.goto 4, 3), 305, 0, 0, []), none, none],
  [some ((.iconst 0, 1), 0, 0, 0, []), some ((.bastore, 1), 0, 0, 0, []), some ((.aload_n 0, 1), 0, 0, 0, []), some ((.iload 4, 2), 4, 0, 0, []), none, some ((.invokestatic 251, 3), 189, 1, 0, []), none, none, some ((.invokevirtual 263, 3), 190, 2, 0, [(0, 10)]), none, none, some ((.aload_n 0, 1), 0, 0, 0, []), some ((.getfield 47, 3), 10, 22, 0, []), none, none, some ((.aload_n 0, 1), 0, 0, 0, [])],
  [some ((.getfield 248, 3), 10, 23, 0, []), none, none, some ((.iload 4, 2), 4, 0, 0, []), none, some ((.iastore, 1), 0, 0, 0, []), some ((.aload_n 0, 1), 0, 0, 0, []), some ((.dup, 1), 0, 0, 0, []), some ((.getfield 248, 3), 10, 23, 0, []), none, none, some ((.iconst 1, 1), 0, 0, 1, []), some ((.iadd, 1), 0, 0, 0, []), some ((.putfield 248, 3), 10, 23, 0, []), none, none],
  [some ((.iconst 1, 1), 0, 0, 1, []), some ((.istore_n 3, 1), 3, 0, 0, []), some ((.aload_n 0, 1), 0, 0, 0, []), some ((.invokevirtual 245, 3), 186, 1, 0, [(0, 10)]), none, none, some ((.goto (-314), 3), 28, 0, 0, []), none, none, some ((.aload_n 0, 1), 0, 0, 0, []), some ((.iconst 0, 1), 0, 0, 0, []), some ((.invokevirtual 263, 3), 190, 2, 0, [(0, 10)]), none, none, some ((.iload_n 1, 1), 1, 0, 0, []), some ((.ifCond .ne 7, 3), 358, 0, 0, [])],
  [none, none, some ((.iconst 1, 1), 0, 0, 1, []), some ((.goto 4, 3), 359, 0, 0, []), none, none, some ((.iconst 0, 1), 0, 0, 0, []), some ((.ireturn, 1), 0, 0, 0, [])]]
def T_X10_notsOpen : Tab := [
  [some ((.iconst 0, 1), 0, 0, 0, []), some ((.istore_n 1, 1), 1, 0, 0, []), some ((.iconst 0, 1), 0, 0, 0, []), some ((.istore_n 2, 1), 2, 0, 0, []), some ((.iload_n 2, 1), 2, 0, 0, []), some ((.aload_n 0, 1), 0, 0, 0, []), some ((.getfield 248, 3), 10, 23, 0, []), none, none, some ((.if_icmp .ge 28, 3), 37, 0, 0, []), none, none, some ((.iload_n 1, 1), 1, 0, 0, []), some ((.aload_n 0, 1), 0, 0, 0, []), some ((.getfield 47, 3), 10, 22, 0, []), none],
  [none, some ((.iload_n 2, 1), 2, 0, 0, []), some ((.iaload, 1), 0, 0, 0, []), some ((.bipush (-10), 2), 0, 0, (-10), []), none, some ((.if_icmp .ne 7, 3), 28, 0, 0, []), none, none, some ((.iconst 1, 1), 0, 0, 1, []), some ((.goto 4, 3), 29, 0, 0, []), none, none, some ((.iconst 0, 1), 0, 0, 0, []), some ((.iadd, 1), 0, 0, 0, []), some ((.istore_n 1, 1), 1, 0, 0, []), some ((.iinc 2 1, 3), 2, 0, 1, [])],
  [none, none, some ((.goto (-30), 3), 4, 0, 0, []), none, none, some ((.iload_n 1, 1), 1, 0, 0, []), some ((.ireturn, 1), 0, 0, 0, [])]]
def T_X10_text : Tab := [
  [some ((.aload_n 0, 1), 0, 0, 0, []), some ((.iconst 0, 1), 0, 0, 0, []), some ((.putfield 221, 3), 10, 11, 0, []), none, none, some ((.aload_n 0, 1), 0, 0, 0, []), some ((.iconst (-1), 1), 0, 0, (-1), []), some ((.putfield 227, 3), 10, 15, 0, []), none, none, some ((.aload_n 0, 1), 0, 0, 0, []), some ((.invokevirtual 245, 3), 186, 1, 0, [(0, 10)]), none, none, some ((.aload_n 0, 1), 0, 0, 0, []), some ((.invokevirtual 276, 3), 187, 1, 0, [(0, 10)])],
  [none, none, some ((.ifCond .eq 14, 3), 32, 0, 0, []), none, none, some ((.aload_n 0, 1), 0, 0, 0, []), some ((.invokevirtual 279, 3), 193, 1, 0, [(0, 10)]), none, none, some ((.ifCond .eq 7, 3), 32, 0, 0, []), none, none, some ((.iconst 1, 1), 0, 0, 1, []), some ((.goto 4, 3), 33, 0, 0, []), none, none],
  [some ((.iconst 0, 1), 0, 0, 0, []), some ((.istore_n 1, 1), 1, 0, 0, []), some ((.aload_n 0, 1), 0, 0, 0, []), some ((.iconst 0, 1), 0, 0, 0, []), some ((.putfield 217, 3), 10, 10, 0, []), none, none, some ((.iload_n 1, 1), 1, 0, 0, []), some ((.ifCond .ne 11, 3), 51, 0, 0, []), none, none, some ((.bipush (-100), 2), 0, 0, (-100), []), none, some ((.aload_n 0, 1), 0, 0, 0, []), some ((.getfield 224, 3), 10, 12, 0, []), none],
  [none, some ((.isub, 1), 0, 0, 0, []), some ((.ireturn, 1), 0, 0, 0, []), some ((.aload_n 0, 1), 0, 0, 0, []), some ((.getfield 9, 3), 10, 0, 0, []), none, none, some ((.bipush 9, 2), 0, 0, 9, []), none, some ((.iaload, 1), 0, 0, 0, []), some ((.bipush 14, 2), 0, 0, 14, []), none, some ((.if_icmp .ne 6, 3), 66, 0, 0, []), none, none, some ((.ldc 100, 2), 0, 0, (-1000000003), [])],
  [none, some ((.ireturn, 1), 0, 0, 0, []), some ((.aload_n 0, 1), 0, 0, 0, []), some ((.getfield 9, 3), 10, 0, 0, []), none, none, some ((.bipush 9, 2), 0, 0, 9, []), none, some ((.iaload, 1), 0, 0, 0, []), some ((.istore_n 2, 1), 2, 0, 0, []), some ((.aload_n 0, 1), 0, 0, 0, []), some ((.getfield 9, 3), 10, 0, 0, []), none, none, some ((.bipush 86, 2), 0, 0, 86, []), none],
  [some ((.iconst 2, 1), 0, 0, 2, []), some ((.iload_n 2, 1), 2, 0, 0, []), some ((.imul, 1), 0, 0, 0, []), some ((.iadd, 1), 0, 0, 0, []), some ((.sipush 1000, 3), 0, 0, 1000, []), none, none, some ((.aload_n 0, 1), 0, 0, 0, []), some ((.getfield 242, 3), 10, 16, 0, []), none, none, some ((.imul, 1), 0, 0, 0, []), some ((.aload_n 0, 1), 0, 0, 0, []), some ((.getfield 254, 3), 10, 20, 0, []), none, none],
  [some ((.iadd, 1), 0, 0, 0, []), some ((.iastore, 1), 0, 0, 0, []), some ((.aload_n 0, 1), 0, 0, 0, []), some ((.getfield 9, 3), 10, 0, 0, []), none, none, some ((.bipush 86, 2), 0, 0, 86, []), none, some ((.iconst 2, 1), 0, 0, 2, []), some ((.iload_n 2, 1), 2, 0, 0, []), some ((.imul, 1), 0, 0, 0, []), some ((.iadd, 1), 0, 0, 0, []), some ((.iconst 1, 1), 0, 0, 1, []), some ((.iadd, 1), 0, 0, 0, []), some ((.aload_n 0, 1), 0, 0, 0, []), some ((.getfield 260, 3), 10, 21, 0, [])],
  [none, none, some ((.iastore, 1), 0, 0, 0, []), some ((.iconst 0, 1), 0, 0, 0, []), some ((.istore_n 3, 1), 3, 0, 0, []), some ((.iload_n 3, 1), 3, 0, 0, []), some ((.aload_n 0, 1), 0, 0, 0, []), some ((.getfield 254, 3), 10, 20, 0, []), none, none, some ((.if_icmp .ge 29, 3), 151, 0, 0, []), none, none, some ((.aload_n 0, 1), 0, 0, 0, []), some ((.getfield 9, 3), 10, 0, 0, []), none],
  [none, some ((.bipush 114, 2), 0, 0, 114, []), none, some ((.bipush 96, 2), 0, 0, 96, []), none, some ((.iload_n 2, 1), 2, 0, 0, []), some ((.imul, 1), 0, 0, 0, []), some ((.iadd, 1), 0, 0, 0, []), some ((.iload_n 3, 1), 3, 0, 0, []), some ((.iadd, 1), 0, 0, 0, []), some ((.aload_n 0, 1), 0, 0, 0, []), some ((.getfield 44, 3), 10, 19, 0, []), none, none, some ((.iload_n 3, 1), 3, 0, 0, []), some ((.iaload, 1), 0, 0, 0, [])],
  [some ((.iastore, 1), 0, 0, 0, []), some ((.iinc 3 1, 3), 3, 0, 1, []), none, none, some ((.goto (-31), 3), 117, 0, 0, []), none, none, some ((.aload_n 0, 1), 0, 0, 0, []), some ((.getfield 9, 3), 10, 0, 0, []), none, none, some ((.bipush 9, 2), 0, 0, 9, []), none, some ((.dup2, 1), 0, 0, 0, []), some ((.iaload, 1), 0, 0, 0, []), some ((.iconst 1, 1), 0, 0, 1, [])],
  [some ((.iadd, 1), 0, 0, 0, []), some ((.iastore, 1), 0, 0, 0, []), some ((.iload_n 2, 1), 2, 0, 0, []), some ((.ireturn, 1), 0, 0, 0, [])]]
def T_X10_textTold : Tab := [
  [some ((.iload_n 1, 1), 1, 0, 0, []), some ((.iconst 0, 1), 0, 0, 0, []), some ((.aload_n 0, 1), 0, 0, 0, []), some ((.getfield 9, 3), 10, 0, 0, []), none, none, some ((.bipush 9, 2), 0, 0, 9, []), none, some ((.iaload, 1), 0, 0, 0, []), some ((.iconst 1, 1), 0, 0, 1, []), some ((.isub, 1), 0, 0, 0, []), some ((.invokestatic 87, 3), 120, 3, 0, []), none, none, some ((.ifCond .eq 12, 3), 26, 0, 0, []), none],
  [none, some ((.iload_n 2, 1), 2, 0, 0, []), some ((.iconst 0, 1), 0, 0, 0, []), some ((.iconst 1, 1), 0, 0, 1, []), some ((.invokestatic 87, 3), 120, 3, 0, []), none, none, some ((.ifCond .ne 6, 3), 29, 0, 0, []), none, none, some ((.ldc 99, 2), 0, 0, (-1000000001), []), none, some ((.ireturn, 1), 0, 0, 0, []), some ((.iload_n 2, 1), 2, 0, 0, []), some ((.ifCond .ne 21, 3), 51, 0, 0, []), none],
  [none, some ((.aload_n 0, 1), 0, 0, 0, []), some ((.getfield 9, 3), 10, 0, 0, []), none, none, some ((.bipush 86, 2), 0, 0, 86, []), none, some ((.iconst 2, 1), 0, 0, 2, []), some ((.iload_n 1, 1), 1, 0, 0, []), some ((.imul, 1), 0, 0, 0, []), some ((.iadd, 1), 0, 0, 0, []), some ((.iaload, 1), 0, 0, 0, []), some ((.sipush 1000, 3), 0, 0, 1000, []), none, none, some ((.idiv, 1), 0, 0, 0, [])],
  [some ((.goto 16, 3), 64, 0, 0, []), none, none, some ((.aload_n 0, 1), 0, 0, 0, []), some ((.getfield 9, 3), 10, 0, 0, []), none, none, some ((.bipush 86, 2), 0, 0, 86, []), none, some ((.iconst 2, 1), 0, 0, 2, []), some ((.iload_n 1, 1), 1, 0, 0, []), some ((.imul, 1), 0, 0, 0, []), some ((.iadd, 1), 0, 0, 0, []), some ((.iconst 1, 1), 0, 0, 1, []), some ((.iadd, 1), 0, 0, 0, []), some ((.iaload, 1), 0, 0, 0, [])],
  [some ((.ireturn, 1), 0, 0, 0, [])]]
def T_X10_counts : Tab := [
  [some ((.aload_n 0, 1), 0, 0, 0, []), some ((.getfield 9, 3), 10, 0, 0, []), none, none, some ((.bipush 9, 2), 0, 0, 9, []), none, some ((.iaload, 1), 0, 0, 0, []), some ((.iconst 1, 1), 0, 0, 1, []), some ((.isub, 1), 0, 0, 0, []), some ((.istore_n 2, 1), 2, 0, 0, []), some ((.iload_n 2, 1), 2, 0, 0, []), some ((.ifCond .lt 30, 3), 41, 0, 0, []), none, none, some ((.aload_n 0, 1), 0, 0, 0, []), some ((.getfield 9, 3), 10, 0, 0, [])],
  [none, none, some ((.bipush 86, 2), 0, 0, 86, []), none, some ((.iconst 2, 1), 0, 0, 2, []), some ((.iload_n 2, 1), 2, 0, 0, []), some ((.imul, 1), 0, 0, 0, []), some ((.iadd, 1), 0, 0, 0, []), some ((.iaload, 1), 0, 0, 0, []), some ((.sipush 1000, 3), 0, 0, 1000, []), none, none, some ((.idiv, 1), 0, 0, 0, []), some ((.iload_n 1, 1), 1, 0, 0, []), some ((.if_icmp .ne 5, 3), 35, 0, 0, []), none],
  [none, some ((.iload_n 2, 1), 2, 0, 0, []), some ((.ireturn, 1), 0, 0, 0, []), some ((.iinc 2 (-1), 3), 2, 0, (-1), []), none, none, some ((.goto (-28), 3), 10, 0, 0, []), none, none, some ((.iconst (-1), 1), 0, 0, (-1), []), some ((.ireturn, 1), 0, 0, 0, [])]]
def T_X10_why : Tab := [
  [some ((.iload_n 1, 1), 1, 0, 0, []), some ((.iconst 0, 1), 0, 0, 0, []), some ((.iconst 2, 1), 0, 0, 2, []), some ((.invokestatic 87, 3), 120, 3, 0, []), none, none, some ((.ifCond .ne 6, 3), 12, 0, 0, []), none, none, some ((.ldc 99, 2), 0, 0, (-1000000001), []), none, some ((.ireturn, 1), 0, 0, 0, []), some ((.aload_n 0, 1), 0, 0, 0, []), some ((.iload_n 1, 1), 1, 0, 0, []), some ((.invokevirtual 144, 3), 197, 2, 0, [(0, 10)]), none],
  [none, some ((.istore_n 2, 1), 2, 0, 0, []), some ((.iload_n 2, 1), 2, 0, 0, []), some ((.ifCond .ge 8, 3), 27, 0, 0, []), none, none, some ((.ldc 197, 2), 0, 0, (-1000000005), []), none, some ((.goto 4, 3), 28, 0, 0, []), none, none, some ((.iload_n 2, 1), 2, 0, 0, []), some ((.ireturn, 1), 0, 0, 0, [])]]
def T_X10_two : Tab := [
  [some ((.iload_n 0, 1), 0, 0, 0, []), some ((.tableswitch 120 (-8) (-1) #[116, 112, 108, 97, 86, 75, 61, 47], 47), 121, 0, 0, [((-8), 117), ((-7), 113), ((-6), 109), ((-5), 98), ((-4), 87), ((-3), 76), ((-2), 62), ((-1), 48)]), none, none, none, none, none, none, none, none, none, none, none, none, none, none],
  [none, none, none, none, none, none, none, none, none, none, none, none, none, none, none, none],
  [none, none, none, none, none, none, none, none, none, none, none, none, none, none, none, none],
  [some ((.iload_n 1, 1), 1, 0, 0, []), some ((.ifCond .ne 7, 3), 56, 0, 0, []), none, none, some ((.iload_n 2, 1), 2, 0, 0, []), some ((.ifCond .eq 7, 3), 60, 0, 0, []), none, none, some ((.iconst 1, 1), 0, 0, 1, []), some ((.goto 4, 3), 61, 0, 0, []), none, none, some ((.iconst 0, 1), 0, 0, 0, []), some ((.ireturn, 1), 0, 0, 0, []), some ((.iload_n 1, 1), 1, 0, 0, []), some ((.ifCond .eq 11, 3), 74, 0, 0, [])],
  [none, none, some ((.iload_n 2, 1), 2, 0, 0, []), some ((.ifCond .eq 7, 3), 74, 0, 0, []), none, none, some ((.iconst 1, 1), 0, 0, 1, []), some ((.goto 4, 3), 75, 0, 0, []), none, none, some ((.iconst 0, 1), 0, 0, 0, []), some ((.ireturn, 1), 0, 0, 0, []), some ((.iload_n 1, 1), 1, 0, 0, []), some ((.iload_n 2, 1), 2, 0, 0, []), some ((.if_icmp .ge 7, 3), 85, 0, 0, []), none],
  [none, some ((.iconst 1, 1), 0, 0, 1, []), some ((.goto 4, 3), 86, 0, 0, []), none, none, some ((.iconst 0, 1), 0, 0, 0, []), some ((.ireturn, 1), 0, 0, 0, []), some ((.iload_n 1, 1), 1, 0, 0, []), some ((.iload_n 2, 1), 2, 0, 0, []), some ((.if_icmp .ne 7, 3), 96, 0, 0, []), none, none, some ((.iconst 1, 1), 0, 0, 1, []), some ((.goto 4, 3), 97, 0, 0, []), none, none],
  [some ((.iconst 0, 1), 0, 0, 0, []), some ((.ireturn, 1), 0, 0, 0, []), some ((.iload_n 1, 1), 1, 0, 0, []), some ((.iload_n 2, 1), 2, 0, 0, []), some ((.if_icmp .le 7, 3), 107, 0, 0, []), none, none, some ((.iconst 1, 1), 0, 0, 1, []), some ((.goto 4, 3), 108, 0, 0, []), none, none, some ((.iconst 0, 1), 0, 0, 0, []), some ((.ireturn, 1), 0, 0, 0, []), some ((.iload_n 1, 1), 1, 0, 0, []), some ((.iload_n 2, 1), 2, 0, 0, []), some ((.iadd, 1), 0, 0, 0, [])],
  [some ((.ireturn, 1), 0, 0, 0, []), some ((.iload_n 1, 1), 1, 0, 0, []), some ((.iload_n 2, 1), 2, 0, 0, []), some ((.isub, 1), 0, 0, 0, []), some ((.ireturn, 1), 0, 0, 0, []), some ((.iload_n 1, 1), 1, 0, 0, []), some ((.iload_n 2, 1), 2, 0, 0, []), some ((.imul, 1), 0, 0, 0, []), some ((.ireturn, 1), 0, 0, 0, []), some ((.iload_n 2, 1), 2, 0, 0, []), some ((.ifCond .ne 7, 3), 129, 0, 0, []), none, none, some ((.iconst 0, 1), 0, 0, 0, []), some ((.goto 6, 3), 132, 0, 0, []), none],
  [none, some ((.iload_n 1, 1), 1, 0, 0, []), some ((.iload_n 2, 1), 2, 0, 0, []), some ((.idiv, 1), 0, 0, 0, []), some ((.ireturn, 1), 0, 0, 0, [])]]
def T_X10_worksOut : Tab := [
  [some ((.iconst 0, 1), 0, 0, 0, []), some ((.istore_n 2, 1), 2, 0, 0, []), some ((.aload_n 0, 1), 0, 0, 0, []), some ((.getfield 9, 3), 10, 0, 0, []), none, none, some ((.bipush 86, 2), 0, 0, 86, []), none, some ((.iconst 2, 1), 0, 0, 2, []), some ((.iload_n 1, 1), 1, 0, 0, []), some ((.imul, 1), 0, 0, 0, []), some ((.iadd, 1), 0, 0, 0, []), some ((.iaload, 1), 0, 0, 0, []), some ((.sipush 1000, 3), 0, 0, 1000, []), none, none],
  [some ((.irem, 1), 0, 0, 0, []), some ((.istore_n 3, 1), 3, 0, 0, []), some ((.iconst 0, 1), 0, 0, 0, []), some ((.istore 4, 2), 4, 0, 0, []), none, some ((.iload 4, 2), 4, 0, 0, []), none, some ((.iload_n 3, 1), 3, 0, 0, []), some ((.if_icmp .ge 131, 3), 155, 0, 0, []), none, none, some ((.aload_n 0, 1), 0, 0, 0, []), some ((.getfield 9, 3), 10, 0, 0, []), none, none, some ((.bipush 114, 2), 0, 0, 114, [])],
  [none, some ((.bipush 96, 2), 0, 0, 96, []), none, some ((.iload_n 1, 1), 1, 0, 0, []), some ((.imul, 1), 0, 0, 0, []), some ((.iadd, 1), 0, 0, 0, []), some ((.iload 4, 2), 4, 0, 0, []), none, some ((.iadd, 1), 0, 0, 0, []), some ((.iaload, 1), 0, 0, 0, []), some ((.istore 5, 2), 5, 0, 0, []), none, some ((.iload 5, 2), 5, 0, 0, []), none, some ((.ifCond .lt 39, 3), 85, 0, 0, []), none],
  [none, some ((.aload_n 0, 1), 0, 0, 0, []), some ((.getfield 54, 3), 10, 25, 0, []), none, none, some ((.iload_n 2, 1), 2, 0, 0, []), some ((.iload 5, 2), 5, 0, 0, []), none, some ((.sipush 10000, 3), 0, 0, 10000, []), none, none, some ((.if_icmp .ge 8, 3), 67, 0, 0, []), none, none, some ((.iload 5, 2), 5, 0, 0, []), none],
  [some ((.goto 14, 3), 78, 0, 0, []), none, none, some ((.aload_n 0, 1), 0, 0, 0, []), some ((.getfield 57, 3), 10, 26, 0, []), none, none, some ((.iload 5, 2), 5, 0, 0, []), none, some ((.sipush 10000, 3), 0, 0, 10000, []), none, none, some ((.isub, 1), 0, 0, 0, []), some ((.iaload, 1), 0, 0, 0, []), some ((.iastore, 1), 0, 0, 0, []), some ((.iinc 2 1, 3), 2, 0, 1, [])],
  [none, none, some ((.goto 67, 3), 149, 0, 0, []), none, none, some ((.iload 5, 2), 5, 0, 0, []), none, some ((.bipush (-10), 2), 0, 0, (-10), []), none, some ((.if_icmp .ne 30, 3), 119, 0, 0, []), none, none, some ((.aload_n 0, 1), 0, 0, 0, []), some ((.getfield 54, 3), 10, 25, 0, []), none, none],
  [some ((.iload_n 2, 1), 2, 0, 0, []), some ((.iconst 1, 1), 0, 0, 1, []), some ((.isub, 1), 0, 0, 0, []), some ((.aload_n 0, 1), 0, 0, 0, []), some ((.getfield 54, 3), 10, 25, 0, []), none, none, some ((.iload_n 2, 1), 2, 0, 0, []), some ((.iconst 1, 1), 0, 0, 1, []), some ((.isub, 1), 0, 0, 0, []), some ((.iaload, 1), 0, 0, 0, []), some ((.ifCond .ne 7, 3), 114, 0, 0, []), none, none, some ((.iconst 1, 1), 0, 0, 1, []), some ((.goto 4, 3), 115, 0, 0, [])],
  [none, none, some ((.iconst 0, 1), 0, 0, 0, []), some ((.iastore, 1), 0, 0, 0, []), some ((.goto 33, 3), 149, 0, 0, []), none, none, some ((.iinc 2 (-1), 3), 2, 0, (-1), []), none, none, some ((.aload_n 0, 1), 0, 0, 0, []), some ((.getfield 54, 3), 10, 25, 0, []), none, none, some ((.iload_n 2, 1), 2, 0, 0, []), some ((.iconst 1, 1), 0, 0, 1, [])],
  [some ((.isub, 1), 0, 0, 0, []), some ((.iload 5, 2), 5, 0, 0, []), none, some ((.aload_n 0, 1), 0, 0, 0, []), some ((.getfield 54, 3), 10, 25, 0, []), none, none, some ((.iload_n 2, 1), 2, 0, 0, []), some ((.iconst 1, 1), 0, 0, 1, []), some ((.isub, 1), 0, 0, 0, []), some ((.iaload, 1), 0, 0, 0, []), some ((.aload_n 0, 1), 0, 0, 0, []), some ((.getfield 54, 3), 10, 25, 0, []), none, none, some ((.iload_n 2, 1), 2, 0, 0, [])],
  [some ((.iaload, 1), 0, 0, 0, []), some ((.invokestatic 282, 3), 199, 3, 0, []), none, none, some ((.iastore, 1), 0, 0, 0, []), some ((.iinc 4 1, 3), 4, 0, 1, []), none, none, some ((.goto (-131), 3), 21, 0, 0, []), none, none, some ((.aload_n 0, 1), 0, 0, 0, []), some ((.getfield 54, 3), 10, 25, 0, []), none, none, some ((.iconst 0, 1), 0, 0, 0, [])],
  [some ((.iaload, 1), 0, 0, 0, []), some ((.ireturn, 1), 0, 0, 0, [])]]
def T_X10_isSheet : Tab := [
  [some ((.iload_n 0, 1), 0, 0, 0, []), some ((.iconst 0, 1), 0, 0, 0, []), some ((.iconst 3, 1), 0, 0, 3, []), some ((.invokestatic 87, 3), 120, 3, 0, []), none, none, some ((.ireturn, 1), 0, 0, 0, [])]]
def T_X10_isSlot : Tab := [
  [some ((.iload_n 0, 1), 0, 0, 0, []), some ((.iconst 0, 1), 0, 0, 0, []), some ((.iconst 4, 1), 0, 0, 4, []), some ((.invokestatic 87, 3), 120, 3, 0, []), none, none, some ((.ireturn, 1), 0, 0, 0, [])]]
def T_X10_sheet : Tab := [
  [some ((.iload_n 1, 1), 1, 0, 0, []), some ((.invokestatic 213, 3), 201, 1, 0, []), none, none, some ((.ifCond .eq 22, 3), 26, 0, 0, []), none, none, some ((.iload_n 2, 1), 2, 0, 0, []), some ((.iconst (-1), 1), 0, 0, (-1), []), some ((.iconst 1, 1), 0, 0, 1, []), some ((.invokestatic 87, 3), 120, 3, 0, []), none, none, some ((.ifCond .eq 13, 3), 26, 0, 0, []), none, none],
  [some ((.iload_n 2, 1), 2, 0, 0, []), some ((.ifCond .lt 12, 3), 29, 0, 0, []), none, none, some ((.iload_n 3, 1), 3, 0, 0, []), some ((.bipush 24, 2), 0, 0, 24, []), none, some ((.if_icmp .le 6, 3), 29, 0, 0, []), none, none, some ((.ldc 99, 2), 0, 0, (-1000000001), []), none, some ((.ireturn, 1), 0, 0, 0, []), some ((.iload_n 2, 1), 2, 0, 0, []), some ((.ifCond .lt 11, 3), 41, 0, 0, []), none],
  [none, some ((.iload_n 3, 1), 3, 0, 0, []), some ((.ifCond .ge 7, 3), 41, 0, 0, []), none, none, some ((.ldc_w 285, 3), 0, 0, (-1000000014), []), none, none, some ((.ireturn, 1), 0, 0, 0, []), some ((.aload_n 0, 1), 0, 0, 0, []), some ((.getfield 60, 3), 10, 27, 0, []), none, none, some ((.iload_n 1, 1), 1, 0, 0, []), some ((.iload_n 2, 1), 2, 0, 0, []), some ((.iastore, 1), 0, 0, 0, [])],
  [some ((.aload_n 0, 1), 0, 0, 0, []), some ((.getfield 63, 3), 10, 28, 0, []), none, none, some ((.iload_n 1, 1), 1, 0, 0, []), some ((.iload_n 2, 1), 2, 0, 0, []), some ((.ifCond .ge 7, 3), 61, 0, 0, []), none, none, some ((.iconst 0, 1), 0, 0, 0, []), some ((.goto 4, 3), 62, 0, 0, []), none, none, some ((.iload_n 3, 1), 3, 0, 0, []), some ((.iastore, 1), 0, 0, 0, []), some ((.iconst 0, 1), 0, 0, 0, [])],
  [some ((.istore 4, 2), 4, 0, 0, []), none, some ((.iload 4, 2), 4, 0, 0, []), none, some ((.bipush 24, 2), 0, 0, 24, []), none, some ((.if_icmp .ge 22, 3), 92, 0, 0, []), none, none, some ((.aload_n 0, 1), 0, 0, 0, []), some ((.getfield 66, 3), 10, 29, 0, []), none, none, some ((.bipush 24, 2), 0, 0, 24, []), none, some ((.iload_n 1, 1), 1, 0, 0, [])],
  [some ((.imul, 1), 0, 0, 0, []), some ((.iload 4, 2), 4, 0, 0, []), none, some ((.iadd, 1), 0, 0, 0, []), some ((.iconst 0, 1), 0, 0, 0, []), some ((.iastore, 1), 0, 0, 0, []), some ((.iinc 4 1, 3), 4, 0, 1, []), none, none, some ((.goto (-23), 3), 66, 0, 0, []), none, none, some ((.aload_n 0, 1), 0, 0, 0, []), some ((.getfield 63, 3), 10, 28, 0, []), none, none],
  [some ((.iload_n 1, 1), 1, 0, 0, []), some ((.iaload, 1), 0, 0, 0, []), some ((.ireturn, 1), 0, 0, 0, [])]]
def T_X10_mark : Tab := [
  [some ((.iload_n 1, 1), 1, 0, 0, []), some ((.invokestatic 213, 3), 201, 1, 0, []), none, none, some ((.ifCond .ne 6, 3), 10, 0, 0, []), none, none, some ((.ldc 99, 2), 0, 0, (-1000000001), []), none, some ((.ireturn, 1), 0, 0, 0, []), some ((.aload_n 0, 1), 0, 0, 0, []), some ((.getfield 60, 3), 10, 27, 0, []), none, none, some ((.iload_n 1, 1), 1, 0, 0, []), some ((.iaload, 1), 0, 0, 0, [])],
  [some ((.ifCond .ge 6, 3), 22, 0, 0, []), none, none, some ((.ldc 216, 2), 0, 0, (-1000000011), []), none, some ((.ireturn, 1), 0, 0, 0, []), some ((.iload_n 2, 1), 2, 0, 0, []), some ((.iconst 0, 1), 0, 0, 0, []), some ((.aload_n 0, 1), 0, 0, 0, []), some ((.getfield 63, 3), 10, 28, 0, []), none, none, some ((.iload_n 1, 1), 1, 0, 0, []), some ((.iaload, 1), 0, 0, 0, []), some ((.iconst 1, 1), 0, 0, 1, []), some ((.isub, 1), 0, 0, 0, [])],
  [some ((.invokestatic 87, 3), 120, 3, 0, []), none, none, some ((.ifCond .ne 7, 3), 42, 0, 0, []), none, none, some ((.ldc_w 286, 3), 0, 0, (-1000000013), []), none, none, some ((.ireturn, 1), 0, 0, 0, []), some ((.aload_n 0, 1), 0, 0, 0, []), some ((.getfield 60, 3), 10, 27, 0, []), none, none, some ((.iload_n 1, 1), 1, 0, 0, []), some ((.iaload, 1), 0, 0, 0, [])],
  [some ((.ifCond .ne 12, 3), 60, 0, 0, []), none, none, some ((.iload_n 3, 1), 3, 0, 0, []), some ((.ldc 197, 2), 0, 0, (-1000000005), []), none, some ((.if_icmp .ne 6, 3), 60, 0, 0, []), none, none, some ((.ldc 129, 2), 0, 0, (-1000000012), []), none, some ((.ireturn, 1), 0, 0, 0, []), some ((.aload_n 0, 1), 0, 0, 0, []), some ((.getfield 60, 3), 10, 27, 0, []), none, none],
  [some ((.iload_n 1, 1), 1, 0, 0, []), some ((.iaload, 1), 0, 0, 0, []), some ((.iconst 1, 1), 0, 0, 1, []), some ((.if_icmp .ne 25, 3), 92, 0, 0, []), none, none, some ((.iload_n 3, 1), 3, 0, 0, []), some ((.ldc 197, 2), 0, 0, (-1000000005), []), none, some ((.if_icmp .eq 19, 3), 92, 0, 0, []), none, none, some ((.iload_n 3, 1), 3, 0, 0, []), some ((.ldc_w 287, 3), 0, 0, (-99999), []), none, none],
  [some ((.ldc_w 288, 3), 0, 0, 99999, []), none, none, some ((.invokestatic 87, 3), 120, 3, 0, []), none, none, some ((.ifCond .ne 6, 3), 92, 0, 0, []), none, none, some ((.ldc 99, 2), 0, 0, (-1000000001), []), none, some ((.ireturn, 1), 0, 0, 0, []), some ((.aload_n 0, 1), 0, 0, 0, []), some ((.getfield 66, 3), 10, 29, 0, []), none, none],
  [some ((.bipush 24, 2), 0, 0, 24, []), none, some ((.iload_n 1, 1), 1, 0, 0, []), some ((.imul, 1), 0, 0, 0, []), some ((.iload_n 2, 1), 2, 0, 0, []), some ((.iadd, 1), 0, 0, 0, []), some ((.aload_n 0, 1), 0, 0, 0, []), some ((.getfield 60, 3), 10, 27, 0, []), none, none, some ((.iload_n 1, 1), 1, 0, 0, []), some ((.iaload, 1), 0, 0, 0, []), some ((.ifCond .ne 8, 3), 116, 0, 0, []), none, none, some ((.iload_n 3, 1), 3, 0, 0, [])],
  [some ((.i2s, 1), 0, 0, 0, []), some ((.goto 4, 3), 117, 0, 0, []), none, none, some ((.iload_n 3, 1), 3, 0, 0, []), some ((.iastore, 1), 0, 0, 0, []), some ((.iconst 1, 1), 0, 0, 1, []), some ((.ireturn, 1), 0, 0, 0, [])]]
def T_X10_pour : Tab := [
  [some ((.iload_n 1, 1), 1, 0, 0, []), some ((.invokestatic 213, 3), 201, 1, 0, []), none, none, some ((.ifCond .ne 6, 3), 10, 0, 0, []), none, none, some ((.ldc 99, 2), 0, 0, (-1000000001), []), none, some ((.ireturn, 1), 0, 0, 0, []), some ((.aload_n 0, 1), 0, 0, 0, []), some ((.getfield 60, 3), 10, 27, 0, []), none, none, some ((.iload_n 1, 1), 1, 0, 0, []), some ((.iaload, 1), 0, 0, 0, [])],
  [some ((.ifCond .ge 6, 3), 22, 0, 0, []), none, none, some ((.ldc 216, 2), 0, 0, (-1000000011), []), none, some ((.ireturn, 1), 0, 0, 0, []), some ((.iconst 0, 1), 0, 0, 0, []), some ((.istore_n 2, 1), 2, 0, 0, []), some ((.iconst 0, 1), 0, 0, 0, []), some ((.istore_n 3, 1), 3, 0, 0, []), some ((.iload_n 3, 1), 3, 0, 0, []), some ((.aload_n 0, 1), 0, 0, 0, []), some ((.getfield 63, 3), 10, 28, 0, []), none, none, some ((.iload_n 1, 1), 1, 0, 0, [])],
  [some ((.iaload, 1), 0, 0, 0, []), some ((.if_icmp .ge 85, 3), 118, 0, 0, []), none, none, some ((.iload_n 3, 1), 3, 0, 0, []), some ((.aload_n 0, 1), 0, 0, 0, []), some ((.getfield 9, 3), 10, 0, 0, []), none, none, some ((.iconst 1, 1), 0, 0, 1, []), some ((.iaload, 1), 0, 0, 0, []), some ((.if_icmp .ge 75, 3), 118, 0, 0, []), none, none, some ((.aload_n 0, 1), 0, 0, 0, []), some ((.getfield 66, 3), 10, 29, 0, [])],
  [none, none, some ((.bipush 24, 2), 0, 0, 24, []), none, some ((.iload_n 1, 1), 1, 0, 0, []), some ((.imul, 1), 0, 0, 0, []), some ((.iload_n 3, 1), 3, 0, 0, []), some ((.iadd, 1), 0, 0, 0, []), some ((.iaload, 1), 0, 0, 0, []), some ((.istore 4, 2), 4, 0, 0, []), none, some ((.iload 4, 2), 4, 0, 0, []), none, some ((.ldc 197, 2), 0, 0, (-1000000005), []), none, some ((.if_icmp .ne 12, 3), 75, 0, 0, [])],
  [none, none, some ((.aload_n 0, 1), 0, 0, 0, []), some ((.iload_n 3, 1), 3, 0, 0, []), some ((.iconst 2, 1), 0, 0, 2, []), some ((.invokevirtual 105, 3), 126, 3, 0, [(0, 10)]), none, none, some ((.goto 11, 3), 83, 0, 0, []), none, none, some ((.iload 4, 2), 4, 0, 0, []), none, some ((.iconst 0, 1), 0, 0, 0, []), some ((.bipush 7, 2), 0, 0, 7, []), none],
  [some ((.invokestatic 153, 3), 121, 3, 0, []), none, none, some ((.istore 5, 2), 5, 0, 0, []), none, some ((.iload_n 2, 1), 2, 0, 0, []), some ((.aload_n 0, 1), 0, 0, 0, []), some ((.bipush 10, 2), 0, 0, 10, []), none, some ((.iconst 4, 1), 0, 0, 4, []), some ((.iload_n 3, 1), 3, 0, 0, []), some ((.imul, 1), 0, 0, 0, []), some ((.iadd, 1), 0, 0, 0, []), some ((.iconst 2, 1), 0, 0, 2, []), some ((.iadd, 1), 0, 0, 0, []), some ((.iload 5, 2), 5, 0, 0, [])],
  [none, some ((.invokevirtual 130, 3), 130, 3, 0, [(0, 10)]), none, none, some ((.iload 5, 2), 5, 0, 0, []), none, some ((.if_icmp .ne 7, 3), 109, 0, 0, []), none, none, some ((.iconst 0, 1), 0, 0, 0, []), some ((.goto 4, 3), 110, 0, 0, []), none, none, some ((.iconst 1, 1), 0, 0, 1, []), some ((.iadd, 1), 0, 0, 0, []), some ((.istore_n 2, 1), 2, 0, 0, [])],
  [some ((.iinc 3 1, 3), 3, 0, 1, []), none, none, some ((.goto (-89), 3), 26, 0, 0, []), none, none, some ((.iload_n 2, 1), 2, 0, 0, []), some ((.ireturn, 1), 0, 0, 0, [])]]
def T_X10_reads : Tab := [
  [some ((.iload_n 1, 1), 1, 0, 0, []), some ((.invokestatic 213, 3), 201, 1, 0, []), none, none, some ((.ifCond .ne 6, 3), 10, 0, 0, []), none, none, some ((.ldc 99, 2), 0, 0, (-1000000001), []), none, some ((.ireturn, 1), 0, 0, 0, []), some ((.aload_n 0, 1), 0, 0, 0, []), some ((.getfield 60, 3), 10, 27, 0, []), none, none, some ((.iload_n 1, 1), 1, 0, 0, []), some ((.iaload, 1), 0, 0, 0, [])],
  [some ((.ifCond .ge 6, 3), 22, 0, 0, []), none, none, some ((.ldc 216, 2), 0, 0, (-1000000011), []), none, some ((.ireturn, 1), 0, 0, 0, []), some ((.iconst 0, 1), 0, 0, 0, []), some ((.istore_n 2, 1), 2, 0, 0, []), some ((.iload_n 2, 1), 2, 0, 0, []), some ((.aload_n 0, 1), 0, 0, 0, []), some ((.getfield 63, 3), 10, 28, 0, []), none, none, some ((.iload_n 1, 1), 1, 0, 0, []), some ((.iaload, 1), 0, 0, 0, []), some ((.if_icmp .ge 47, 3), 78, 0, 0, [])],
  [none, none, some ((.aload_n 0, 1), 0, 0, 0, []), some ((.getfield 66, 3), 10, 29, 0, []), none, none, some ((.bipush 24, 2), 0, 0, 24, []), none, some ((.iload_n 1, 1), 1, 0, 0, []), some ((.imul, 1), 0, 0, 0, []), some ((.iload_n 2, 1), 2, 0, 0, []), some ((.iadd, 1), 0, 0, 0, []), some ((.iaload, 1), 0, 0, 0, []), some ((.istore_n 3, 1), 3, 0, 0, []), some ((.iload_n 3, 1), 3, 0, 0, []), some ((.ldc 197, 2), 0, 0, (-1000000005), [])],
  [none, some ((.if_icmp .eq 23, 3), 72, 0, 0, []), none, none, some ((.aload_n 0, 1), 0, 0, 0, []), some ((.iload_n 2, 1), 2, 0, 0, []), some ((.invokevirtual 157, 3), 124, 2, 0, [(0, 10)]), none, none, some ((.ifCond .eq 13, 3), 70, 0, 0, []), none, none, some ((.iload_n 3, 1), 3, 0, 0, []), some ((.aload_n 0, 1), 0, 0, 0, []), some ((.iload_n 2, 1), 2, 0, 0, []), some ((.iconst 0, 1), 0, 0, 0, [])],
  [some ((.invokevirtual 141, 3), 128, 3, 0, [(0, 10)]), none, none, some ((.if_icmp .eq 5, 3), 72, 0, 0, []), none, none, some ((.iload_n 2, 1), 2, 0, 0, []), some ((.ireturn, 1), 0, 0, 0, []), some ((.iinc 2 1, 3), 2, 0, 1, []), none, none, some ((.goto (-51), 3), 24, 0, 0, []), none, none, some ((.ldc 197, 2), 0, 0, (-1000000005), []), none],
  [some ((.ireturn, 1), 0, 0, 0, [])]]
def T_X10_copy : Tab := [
  [some ((.iload_n 1, 1), 1, 0, 0, []), some ((.invokestatic 213, 3), 201, 1, 0, []), none, none, some ((.ifCond .eq 10, 3), 14, 0, 0, []), none, none, some ((.iload_n 3, 1), 3, 0, 0, []), some ((.invokestatic 213, 3), 201, 1, 0, []), none, none, some ((.ifCond .ne 6, 3), 17, 0, 0, []), none, none, some ((.ldc 99, 2), 0, 0, (-1000000001), []), none],
  [some ((.ireturn, 1), 0, 0, 0, []), some ((.aload_n 0, 1), 0, 0, 0, []), some ((.getfield 60, 3), 10, 27, 0, []), none, none, some ((.iload_n 1, 1), 1, 0, 0, []), some ((.iaload, 1), 0, 0, 0, []), some ((.ifCond .lt 12, 3), 35, 0, 0, []), none, none, some ((.aload_n 0, 1), 0, 0, 0, []), some ((.getfield 60, 3), 10, 27, 0, []), none, none, some ((.iload_n 3, 1), 3, 0, 0, []), some ((.iaload, 1), 0, 0, 0, [])],
  [some ((.ifCond .ge 6, 3), 38, 0, 0, []), none, none, some ((.ldc 216, 2), 0, 0, (-1000000011), []), none, some ((.ireturn, 1), 0, 0, 0, []), some ((.aload_n 0, 1), 0, 0, 0, []), some ((.getfield 60, 3), 10, 27, 0, []), none, none, some ((.iload_n 1, 1), 1, 0, 0, []), some ((.iaload, 1), 0, 0, 0, []), some ((.aload_n 0, 1), 0, 0, 0, []), some ((.getfield 60, 3), 10, 27, 0, []), none, none],
  [some ((.iload_n 3, 1), 3, 0, 0, []), some ((.iaload, 1), 0, 0, 0, []), some ((.if_icmp .eq 6, 3), 56, 0, 0, []), none, none, some ((.ldc 129, 2), 0, 0, (-1000000012), []), none, some ((.ireturn, 1), 0, 0, 0, []), some ((.iload_n 2, 1), 2, 0, 0, []), some ((.ifCond .lt 40, 3), 97, 0, 0, []), none, none, some ((.iload 4, 2), 4, 0, 0, []), none, some ((.ifCond .lt 35, 3), 97, 0, 0, []), none],
  [none, some ((.iload 5, 2), 5, 0, 0, []), none, some ((.ifCond .lt 30, 3), 97, 0, 0, []), none, none, some ((.iload_n 2, 1), 2, 0, 0, []), some ((.aload_n 0, 1), 0, 0, 0, []), some ((.getfield 63, 3), 10, 28, 0, []), none, none, some ((.iload_n 1, 1), 1, 0, 0, []), some ((.iaload, 1), 0, 0, 0, []), some ((.iload 5, 2), 5, 0, 0, []), none, some ((.isub, 1), 0, 0, 0, [])],
  [some ((.if_icmp .gt 17, 3), 97, 0, 0, []), none, none, some ((.iload 4, 2), 4, 0, 0, []), none, some ((.aload_n 0, 1), 0, 0, 0, []), some ((.getfield 63, 3), 10, 28, 0, []), none, none, some ((.iload_n 3, 1), 3, 0, 0, []), some ((.iaload, 1), 0, 0, 0, []), some ((.iload 5, 2), 5, 0, 0, []), none, some ((.isub, 1), 0, 0, 0, []), some ((.if_icmp .le 7, 3), 101, 0, 0, []), none],
  [none, some ((.ldc_w 286, 3), 0, 0, (-1000000013), []), none, none, some ((.ireturn, 1), 0, 0, 0, []), some ((.iconst 0, 1), 0, 0, 0, []), some ((.istore 6, 2), 6, 0, 0, []), none, some ((.iload 6, 2), 6, 0, 0, []), none, some ((.iload 5, 2), 5, 0, 0, []), none, some ((.if_icmp .ge 30, 3), 138, 0, 0, []), none, none, some ((.aload_n 0, 1), 0, 0, 0, [])],
  [some ((.getfield 81, 3), 10, 34, 0, []), none, none, some ((.iload 6, 2), 6, 0, 0, []), none, some ((.aload_n 0, 1), 0, 0, 0, []), some ((.getfield 66, 3), 10, 29, 0, []), none, none, some ((.bipush 24, 2), 0, 0, 24, []), none, some ((.iload_n 1, 1), 1, 0, 0, []), some ((.imul, 1), 0, 0, 0, []), some ((.iload_n 2, 1), 2, 0, 0, []), some ((.iadd, 1), 0, 0, 0, []), some ((.iload 6, 2), 6, 0, 0, [])],
  [none, some ((.iadd, 1), 0, 0, 0, []), some ((.iaload, 1), 0, 0, 0, []), some ((.iastore, 1), 0, 0, 0, []), some ((.iinc 6 1, 3), 6, 0, 1, []), none, none, some ((.goto (-31), 3), 104, 0, 0, []), none, none, some ((.iconst 0, 1), 0, 0, 0, []), some ((.istore 6, 2), 6, 0, 0, []), none, some ((.iload 6, 2), 6, 0, 0, []), none, some ((.iload 5, 2), 5, 0, 0, [])],
  [none, some ((.if_icmp .ge 31, 3), 176, 0, 0, []), none, none, some ((.aload_n 0, 1), 0, 0, 0, []), some ((.getfield 66, 3), 10, 29, 0, []), none, none, some ((.bipush 24, 2), 0, 0, 24, []), none, some ((.iload_n 3, 1), 3, 0, 0, []), some ((.imul, 1), 0, 0, 0, []), some ((.iload 4, 2), 4, 0, 0, []), none, some ((.iadd, 1), 0, 0, 0, []), some ((.iload 6, 2), 6, 0, 0, [])],
  [none, some ((.iadd, 1), 0, 0, 0, []), some ((.aload_n 0, 1), 0, 0, 0, []), some ((.getfield 81, 3), 10, 34, 0, []), none, none, some ((.iload 6, 2), 6, 0, 0, []), none, some ((.iaload, 1), 0, 0, 0, []), some ((.iastore, 1), 0, 0, 0, []), some ((.iinc 6 1, 3), 6, 0, 1, []), none, none, some ((.goto (-32), 3), 141, 0, 0, []), none, none],
  [some ((.iload 5, 2), 5, 0, 0, []), none, some ((.ireturn, 1), 0, 0, 0, [])]]
def T_X10_lay : Tab := [
  [some ((.iload_n 1, 1), 1, 0, 0, []), some ((.invokestatic 289, 3), 202, 1, 0, []), none, none, some ((.ifCond .eq 37, 3), 41, 0, 0, []), none, none, some ((.iload_n 2, 1), 2, 0, 0, []), some ((.iconst 0, 1), 0, 0, 0, []), some ((.iconst 3, 1), 0, 0, 3, []), some ((.invokestatic 87, 3), 120, 3, 0, []), none, none, some ((.ifCond .eq 28, 3), 41, 0, 0, []), none, none],
  [some ((.iload_n 2, 1), 2, 0, 0, []), some ((.iconst 1, 1), 0, 0, 1, []), some ((.if_icmp .ne 11, 3), 29, 0, 0, []), none, none, some ((.aload_n 0, 1), 0, 0, 0, []), some ((.iload_n 3, 1), 3, 0, 0, []), some ((.invokevirtual 109, 3), 123, 2, 0, [(0, 10)]), none, none, some ((.ifCond .eq 15, 3), 41, 0, 0, []), none, none, some ((.iload_n 2, 1), 2, 0, 0, []), some ((.iconst 2, 1), 0, 0, 2, []), some ((.if_icmp .ne 13, 3), 44, 0, 0, [])],
  [none, none, some ((.iload_n 3, 1), 3, 0, 0, []), some ((.invokestatic 213, 3), 201, 1, 0, []), none, none, some ((.ifCond .ne 6, 3), 44, 0, 0, []), none, none, some ((.ldc 99, 2), 0, 0, (-1000000001), []), none, some ((.ireturn, 1), 0, 0, 0, []), some ((.iload_n 2, 1), 2, 0, 0, []), some ((.iconst 2, 1), 0, 0, 2, []), some ((.if_icmp .ne 15, 3), 61, 0, 0, []), none],
  [none, some ((.aload_n 0, 1), 0, 0, 0, []), some ((.getfield 60, 3), 10, 27, 0, []), none, none, some ((.iload_n 3, 1), 3, 0, 0, []), some ((.iaload, 1), 0, 0, 0, []), some ((.ifCond .ge 6, 3), 61, 0, 0, []), none, none, some ((.ldc 216, 2), 0, 0, (-1000000011), []), none, some ((.ireturn, 1), 0, 0, 0, []), some ((.aload_n 0, 1), 0, 0, 0, []), some ((.getfield 69, 3), 10, 30, 0, []), none],
  [none, some ((.iload_n 1, 1), 1, 0, 0, []), some ((.iaload, 1), 0, 0, 0, []), some ((.istore 4, 2), 4, 0, 0, []), none, some ((.aload_n 0, 1), 0, 0, 0, []), some ((.getfield 69, 3), 10, 30, 0, []), none, none, some ((.iload_n 1, 1), 1, 0, 0, []), some ((.iload_n 2, 1), 2, 0, 0, []), some ((.iastore, 1), 0, 0, 0, []), some ((.aload_n 0, 1), 0, 0, 0, []), some ((.getfield 72, 3), 10, 31, 0, []), none, none],
  [some ((.iload_n 1, 1), 1, 0, 0, []), some ((.iload_n 2, 1), 2, 0, 0, []), some ((.iconst 1, 1), 0, 0, 1, []), some ((.if_icmp .ne 12, 3), 95, 0, 0, []), none, none, some ((.aload_n 0, 1), 0, 0, 0, []), some ((.iload_n 3, 1), 3, 0, 0, []), some ((.iconst 0, 1), 0, 0, 0, []), some ((.invokevirtual 105, 3), 126, 3, 0, [(0, 10)]), none, none, some ((.goto 18, 3), 110, 0, 0, []), none, none, some ((.iload_n 2, 1), 2, 0, 0, [])],
  [some ((.iconst 2, 1), 0, 0, 2, []), some ((.if_icmp .ne 12, 3), 109, 0, 0, []), none, none, some ((.aload_n 0, 1), 0, 0, 0, []), some ((.getfield 63, 3), 10, 28, 0, []), none, none, some ((.iload_n 3, 1), 3, 0, 0, []), some ((.iaload, 1), 0, 0, 0, []), some ((.goto 4, 3), 110, 0, 0, []), none, none, some ((.iload_n 3, 1), 3, 0, 0, []), some ((.iastore, 1), 0, 0, 0, []), some ((.aload_n 0, 1), 0, 0, 0, [])],
  [some ((.getfield 75, 3), 10, 32, 0, []), none, none, some ((.iload_n 1, 1), 1, 0, 0, []), some ((.iload_n 2, 1), 2, 0, 0, []), some ((.iconst 1, 1), 0, 0, 1, []), some ((.if_icmp .ne 11, 3), 129, 0, 0, []), none, none, some ((.aload_n 0, 1), 0, 0, 0, []), some ((.iload_n 3, 1), 3, 0, 0, []), some ((.invokevirtual 122, 3), 136, 2, 0, [(0, 10)]), none, none, some ((.goto 4, 3), 130, 0, 0, []), none],
  [none, some ((.iconst 0, 1), 0, 0, 0, []), some ((.iastore, 1), 0, 0, 0, []), some ((.iconst 0, 1), 0, 0, 0, []), some ((.istore 5, 2), 5, 0, 0, []), none, some ((.iload 5, 2), 5, 0, 0, []), none, some ((.bipush 24, 2), 0, 0, 24, []), none, some ((.if_icmp .ge 38, 3), 176, 0, 0, []), none, none, some ((.iload_n 2, 1), 2, 0, 0, []), some ((.iconst 2, 1), 0, 0, 2, []), some ((.if_icmp .ne 33, 3), 176, 0, 0, [])],
  [none, none, some ((.aload_n 0, 1), 0, 0, 0, []), some ((.getfield 78, 3), 10, 33, 0, []), none, none, some ((.bipush 24, 2), 0, 0, 24, []), none, some ((.iload_n 1, 1), 1, 0, 0, []), some ((.imul, 1), 0, 0, 0, []), some ((.iload 5, 2), 5, 0, 0, []), none, some ((.iadd, 1), 0, 0, 0, []), some ((.aload_n 0, 1), 0, 0, 0, []), some ((.getfield 66, 3), 10, 29, 0, []), none],
  [none, some ((.bipush 24, 2), 0, 0, 24, []), none, some ((.iload_n 3, 1), 3, 0, 0, []), some ((.imul, 1), 0, 0, 0, []), some ((.iload 5, 2), 5, 0, 0, []), none, some ((.iadd, 1), 0, 0, 0, []), some ((.iaload, 1), 0, 0, 0, []), some ((.iastore, 1), 0, 0, 0, []), some ((.iinc 5 1, 3), 5, 0, 1, []), none, none, some ((.goto (-39), 3), 134, 0, 0, []), none, none],
  [some ((.iload 4, 2), 4, 0, 0, []), none, some ((.ireturn, 1), 0, 0, 0, [])]]
def T_X10_ask : Tab := [
  [some ((.iload_n 1, 1), 1, 0, 0, []), some ((.invokestatic 289, 3), 202, 1, 0, []), none, none, some ((.ifCond .eq 12, 3), 16, 0, 0, []), none, none, some ((.iload_n 2, 1), 2, 0, 0, []), some ((.iconst 0, 1), 0, 0, 0, []), some ((.iconst 5, 1), 0, 0, 5, []), some ((.invokestatic 87, 3), 120, 3, 0, []), none, none, some ((.ifCond .ne 6, 3), 19, 0, 0, []), none, none],
  [some ((.ldc 99, 2), 0, 0, (-1000000001), []), none, some ((.ireturn, 1), 0, 0, 0, []), some ((.aload_n 0, 1), 0, 0, 0, []), some ((.getfield 69, 3), 10, 30, 0, []), none, none, some ((.iload_n 1, 1), 1, 0, 0, []), some ((.iaload, 1), 0, 0, 0, []), some ((.ifCond .ne 6, 3), 31, 0, 0, []), none, none, some ((.ldc 216, 2), 0, 0, (-1000000011), []), none, some ((.ireturn, 1), 0, 0, 0, []), some ((.aload_n 0, 1), 0, 0, 0, [])],
  [some ((.getfield 69, 3), 10, 30, 0, []), none, none, some ((.iload_n 1, 1), 1, 0, 0, []), some ((.iaload, 1), 0, 0, 0, []), some ((.iconst 1, 1), 0, 0, 1, []), some ((.if_icmp .ne 25, 3), 63, 0, 0, []), none, none, some ((.aload_n 0, 1), 0, 0, 0, []), some ((.getfield 72, 3), 10, 31, 0, []), none, none, some ((.iload_n 1, 1), 1, 0, 0, []), some ((.iaload, 1), 0, 0, 0, []), some ((.iload_n 2, 1), 2, 0, 0, [])],
  [some ((.invokestatic 125, 3), 138, 2, 0, []), none, none, some ((.ifCond .eq 12, 3), 63, 0, 0, []), none, none, some ((.aload_n 0, 1), 0, 0, 0, []), some ((.getfield 75, 3), 10, 32, 0, []), none, none, some ((.iload_n 1, 1), 1, 0, 0, []), some ((.iaload, 1), 0, 0, 0, []), some ((.goto 5, 3), 65, 0, 0, []), none, none, some ((.ldc 129, 2), 0, 0, (-1000000012), [])],
  [none, some ((.ireturn, 1), 0, 0, 0, [])]]
def T_X10_item : Tab := [
  [some ((.iload_n 1, 1), 1, 0, 0, []), some ((.invokestatic 289, 3), 202, 1, 0, []), none, none, some ((.ifCond .ne 6, 3), 10, 0, 0, []), none, none, some ((.ldc 99, 2), 0, 0, (-1000000001), []), none, some ((.ireturn, 1), 0, 0, 0, []), some ((.aload_n 0, 1), 0, 0, 0, []), some ((.getfield 69, 3), 10, 30, 0, []), none, none, some ((.iload_n 1, 1), 1, 0, 0, []), some ((.iaload, 1), 0, 0, 0, [])],
  [some ((.ifCond .ne 6, 3), 22, 0, 0, []), none, none, some ((.ldc 216, 2), 0, 0, (-1000000011), []), none, some ((.ireturn, 1), 0, 0, 0, []), some ((.aload_n 0, 1), 0, 0, 0, []), some ((.getfield 69, 3), 10, 30, 0, []), none, none, some ((.iload_n 1, 1), 1, 0, 0, []), some ((.iaload, 1), 0, 0, 0, []), some ((.iconst 2, 1), 0, 0, 2, []), some ((.if_icmp .eq 6, 3), 35, 0, 0, []), none, none],
  [some ((.ldc 129, 2), 0, 0, (-1000000012), []), none, some ((.ireturn, 1), 0, 0, 0, []), some ((.iload_n 2, 1), 2, 0, 0, []), some ((.iconst 0, 1), 0, 0, 0, []), some ((.aload_n 0, 1), 0, 0, 0, []), some ((.getfield 72, 3), 10, 31, 0, []), none, none, some ((.iload_n 1, 1), 1, 0, 0, []), some ((.iaload, 1), 0, 0, 0, []), some ((.iconst 1, 1), 0, 0, 1, []), some ((.isub, 1), 0, 0, 0, []), some ((.invokestatic 87, 3), 120, 3, 0, []), none, none],
  [some ((.ifCond .ne 7, 3), 55, 0, 0, []), none, none, some ((.ldc_w 286, 3), 0, 0, (-1000000013), []), none, none, some ((.ireturn, 1), 0, 0, 0, []), some ((.aload_n 0, 1), 0, 0, 0, []), some ((.getfield 78, 3), 10, 33, 0, []), none, none, some ((.bipush 24, 2), 0, 0, 24, []), none, some ((.iload_n 1, 1), 1, 0, 0, []), some ((.imul, 1), 0, 0, 0, []), some ((.iload_n 2, 1), 2, 0, 0, [])],
  [some ((.iadd, 1), 0, 0, 0, []), some ((.iaload, 1), 0, 0, 0, []), some ((.istore_n 3, 1), 3, 0, 0, []), some ((.iload_n 3, 1), 3, 0, 0, []), some ((.ldc 197, 2), 0, 0, (-1000000005), []), none, some ((.if_icmp .ne 8, 3), 78, 0, 0, []), none, none, some ((.ldc 129, 2), 0, 0, (-1000000012), []), none, some ((.goto 4, 3), 79, 0, 0, []), none, none, some ((.iload_n 3, 1), 3, 0, 0, []), some ((.ireturn, 1), 0, 0, 0, [])]]
def T_X10_rest : Tab := [
  [some ((.iload_n 1, 1), 1, 0, 0, []), some ((.invokestatic 289, 3), 202, 1, 0, []), none, none, some ((.ifCond .ne 6, 3), 10, 0, 0, []), none, none, some ((.ldc 99, 2), 0, 0, (-1000000001), []), none, some ((.ireturn, 1), 0, 0, 0, []), some ((.aload_n 0, 1), 0, 0, 0, []), some ((.getfield 69, 3), 10, 30, 0, []), none, none, some ((.iload_n 1, 1), 1, 0, 0, []), some ((.iaload, 1), 0, 0, 0, [])],
  [some ((.ifCond .ne 6, 3), 22, 0, 0, []), none, none, some ((.ldc 216, 2), 0, 0, (-1000000011), []), none, some ((.ireturn, 1), 0, 0, 0, []), some ((.aload_n 0, 1), 0, 0, 0, []), some ((.getfield 69, 3), 10, 30, 0, []), none, none, some ((.iload_n 1, 1), 1, 0, 0, []), some ((.iaload, 1), 0, 0, 0, []), some ((.iconst 3, 1), 0, 0, 3, []), some ((.if_icmp .eq 6, 3), 35, 0, 0, []), none, none],
  [some ((.ldc 129, 2), 0, 0, (-1000000012), []), none, some ((.ireturn, 1), 0, 0, 0, []), some ((.iload_n 2, 1), 2, 0, 0, []), some ((.ifCond .ne 9, 3), 45, 0, 0, []), none, none, some ((.ldc_w 292, 3), 0, 0, (-1000000002), []), none, none, some ((.goto 20, 3), 62, 0, 0, []), none, none, some ((.iload_n 2, 1), 2, 0, 0, []), some ((.iconst (-1), 1), 0, 0, (-1), []), some ((.if_icmp .ne 7, 3), 54, 0, 0, [])],
  [none, none, some ((.iconst 0, 1), 0, 0, 0, []), some ((.goto 11, 3), 62, 0, 0, []), none, none, some ((.aload_n 0, 1), 0, 0, 0, []), some ((.getfield 72, 3), 10, 31, 0, []), none, none, some ((.iload_n 1, 1), 1, 0, 0, []), some ((.iaload, 1), 0, 0, 0, []), some ((.iload_n 2, 1), 2, 0, 0, []), some ((.irem, 1), 0, 0, 0, []), some ((.ireturn, 1), 0, 0, 0, [])]]
def T_X10_tell : Tab := [
  [some ((.aload_n 0, 1), 0, 0, 0, []), some ((.getfield 293, 3), 10, 36, 0, []), none, none, some ((.bipush 60, 2), 0, 0, 60, []), none, some ((.if_icmp .ne 6, 3), 12, 0, 0, []), none, none, some ((.ldc 100, 2), 0, 0, (-1000000003), []), none, some ((.ireturn, 1), 0, 0, 0, []), some ((.aload_n 0, 1), 0, 0, 0, []), some ((.getfield 84, 3), 10, 35, 0, []), none, none],
  [some ((.aload_n 0, 1), 0, 0, 0, []), some ((.getfield 293, 3), 10, 36, 0, []), none, none, some ((.iload_n 1, 1), 1, 0, 0, []), some ((.iastore, 1), 0, 0, 0, []), some ((.aload_n 0, 1), 0, 0, 0, []), some ((.dup, 1), 0, 0, 0, []), some ((.getfield 293, 3), 10, 36, 0, []), none, none, some ((.iconst 1, 1), 0, 0, 1, []), some ((.iadd, 1), 0, 0, 0, []), some ((.putfield 293, 3), 10, 36, 0, []), none, none],
  [some ((.aload_n 0, 1), 0, 0, 0, []), some ((.getfield 293, 3), 10, 36, 0, []), none, none, some ((.ireturn, 1), 0, 0, 0, [])]]
def T_X10_check : Tab := [
  [some ((.aload_n 0, 1), 0, 0, 0, []), some ((.getfield 293, 3), 10, 36, 0, []), none, none, some ((.istore_n 2, 1), 2, 0, 0, []), some ((.aload_n 0, 1), 0, 0, 0, []), some ((.iconst 0, 1), 0, 0, 0, []), some ((.putfield 293, 3), 10, 36, 0, []), none, none, some ((.iload_n 1, 1), 1, 0, 0, []), some ((.iconst 1, 1), 0, 0, 1, []), some ((.bipush 30, 2), 0, 0, 30, []), none, some ((.invokestatic 87, 3), 120, 3, 0, []), none],
  [none, some ((.ifCond .ne 6, 3), 23, 0, 0, []), none, none, some ((.ldc 99, 2), 0, 0, (-1000000001), []), none, some ((.ireturn, 1), 0, 0, 0, []), some ((.aload_n 0, 1), 0, 0, 0, []), some ((.getfield 296, 3), 10, 3, 0, []), none, none, some ((.ifCond .ne 7, 3), 34, 0, 0, []), none, none, some ((.ldc_w 292, 3), 0, 0, (-1000000002), []), none],
  [none, some ((.ireturn, 1), 0, 0, 0, []), some ((.aload_n 0, 1), 0, 0, 0, []), some ((.getfield 9, 3), 10, 0, 0, []), none, none, some ((.aload_n 0, 1), 0, 0, 0, []), some ((.getfield 16, 3), 10, 2, 0, []), none, none, some ((.invokestatic 300, 3), 122, 2, 0, []), none, none, some ((.aload_n 0, 1), 0, 0, 0, []), some ((.getfield 13, 3), 10, 1, 0, []), none],
  [none, some ((.aload_n 0, 1), 0, 0, 0, []), some ((.getfield 9, 3), 10, 0, 0, []), none, none, some ((.invokestatic 300, 3), 122, 2, 0, []), none, none, some ((.iconst 2, 1), 0, 0, 2, []), some ((.sipush 9999, 3), 0, 0, 9999, []), none, none, some ((.aload_n 0, 1), 0, 0, 0, []), some ((.getfield 9, 3), 10, 0, 0, []), none, none],
  [some ((.iconst 2, 1), 0, 0, 2, []), some ((.iaload, 1), 0, 0, 0, []), some ((.isub, 1), 0, 0, 0, []), some ((.iconst 0, 1), 0, 0, 0, []), some ((.iload_n 1, 1), 1, 0, 0, []), some ((.invokestatic 153, 3), 121, 3, 0, []), none, none, some ((.imul, 1), 0, 0, 0, []), some ((.istore_n 3, 1), 3, 0, 0, []), some ((.iconst 0, 1), 0, 0, 0, []), some ((.istore 4, 2), 4, 0, 0, []), none, some ((.iconst 0, 1), 0, 0, 0, []), some ((.istore 5, 2), 5, 0, 0, []), none],
  [some ((.iconst 2, 1), 0, 0, 2, []), some ((.iload 5, 2), 5, 0, 0, []), none, some ((.imul, 1), 0, 0, 0, []), some ((.iload_n 3, 1), 3, 0, 0, []), some ((.if_icmp .ge 95, 3), 180, 0, 0, []), none, none, some ((.iload 4, 2), 4, 0, 0, []), none, some ((.iconst 2, 1), 0, 0, 2, []), some ((.iload 5, 2), 5, 0, 0, []), none, some ((.imul, 1), 0, 0, 0, []), some ((.if_icmp .ne 86, 3), 180, 0, 0, []), none],
  [none, some ((.aload_n 0, 1), 0, 0, 0, []), some ((.invokevirtual 176, 3), 156, 1, 0, [(0, 10)]), none, none, some ((.iload 4, 2), 4, 0, 0, []), none, some ((.iload 4, 2), 4, 0, 0, []), none, some ((.iload_n 2, 1), 2, 0, 0, []), some ((.if_icmp .ge 23, 3), 129, 0, 0, []), none, none, some ((.aload_n 0, 1), 0, 0, 0, []), some ((.getfield 84, 3), 10, 35, 0, []), none],
  [none, some ((.iload 4, 2), 4, 0, 0, []), none, some ((.iaload, 1), 0, 0, 0, []), some ((.aload_n 0, 1), 0, 0, 0, []), some ((.getfield 9, 3), 10, 0, 0, []), none, none, some ((.iconst 5, 1), 0, 0, 5, []), some ((.iaload, 1), 0, 0, 0, []), some ((.if_icmp .ne 7, 3), 129, 0, 0, []), none, none, some ((.iconst 1, 1), 0, 0, 1, []), some ((.goto 4, 3), 130, 0, 0, []), none],
  [none, some ((.iconst 0, 1), 0, 0, 0, []), some ((.iadd, 1), 0, 0, 0, []), some ((.istore 4, 2), 4, 0, 0, []), none, some ((.iload 4, 2), 4, 0, 0, []), none, some ((.iload 4, 2), 4, 0, 0, []), none, some ((.iconst 2, 1), 0, 0, 2, []), some ((.iload 5, 2), 5, 0, 0, []), none, some ((.imul, 1), 0, 0, 0, []), some ((.iconst 1, 1), 0, 0, 1, []), some ((.iadd, 1), 0, 0, 0, []), some ((.if_icmp .ne 27, 3), 170, 0, 0, [])],
  [none, none, some ((.iload 4, 2), 4, 0, 0, []), none, some ((.iload_n 2, 1), 2, 0, 0, []), some ((.if_icmp .ge 21, 3), 170, 0, 0, []), none, none, some ((.aload_n 0, 1), 0, 0, 0, []), some ((.getfield 84, 3), 10, 35, 0, []), none, none, some ((.iload 4, 2), 4, 0, 0, []), none, some ((.iaload, 1), 0, 0, 0, []), some ((.aload_n 0, 1), 0, 0, 0, [])],
  [some ((.invokevirtual 185, 3), 160, 1, 0, [(0, 10)]), none, none, some ((.if_icmp .ne 7, 3), 170, 0, 0, []), none, none, some ((.iconst 1, 1), 0, 0, 1, []), some ((.goto 4, 3), 171, 0, 0, []), none, none, some ((.iconst 0, 1), 0, 0, 0, []), some ((.iadd, 1), 0, 0, 0, []), some ((.istore 4, 2), 4, 0, 0, []), none, some ((.iinc 5 1, 3), 5, 0, 1, []), none],
  [none, some ((.goto (-97), 3), 80, 0, 0, []), none, none, some ((.aload_n 0, 1), 0, 0, 0, []), some ((.getfield 16, 3), 10, 2, 0, []), none, none, some ((.aload_n 0, 1), 0, 0, 0, []), some ((.getfield 9, 3), 10, 0, 0, []), none, none, some ((.invokestatic 300, 3), 122, 2, 0, []), none, none, some ((.iload 4, 2), 4, 0, 0, [])],
  [none, some ((.iload_n 2, 1), 2, 0, 0, []), some ((.if_icmp .ne 13, 3), 207, 0, 0, []), none, none, some ((.iload 4, 2), 4, 0, 0, []), none, some ((.iload_n 3, 1), 3, 0, 0, []), some ((.if_icmp .ne 7, 3), 207, 0, 0, []), none, none, some ((.iconst 0, 1), 0, 0, 0, []), some ((.goto 7, 3), 211, 0, 0, []), none, none, some ((.iconst 1, 1), 0, 0, 1, [])],
  [some ((.iload 4, 2), 4, 0, 0, []), none, some ((.iadd, 1), 0, 0, 0, []), some ((.ireturn, 1), 0, 0, 0, [])]]
def T_X10_keep : Tab := [
  [some ((.aload_n 0, 1), 0, 0, 0, []), some ((.getfield 9, 3), 10, 0, 0, []), none, none, some ((.aload_n 0, 1), 0, 0, 0, []), some ((.getfield 13, 3), 10, 1, 0, []), none, none, some ((.invokestatic 300, 3), 122, 2, 0, []), none, none, some ((.aload_n 0, 1), 0, 0, 0, []), some ((.iconst 1, 1), 0, 0, 1, []), some ((.putfield 296, 3), 10, 3, 0, []), none, none],
  [some ((.aload_n 0, 1), 0, 0, 0, []), some ((.getfield 9, 3), 10, 0, 0, []), none, none, some ((.iconst 1, 1), 0, 0, 1, []), some ((.iaload, 1), 0, 0, 0, []), some ((.ireturn, 1), 0, 0, 0, [])]]
def T_X10_back : Tab := [
  [some ((.aload_n 0, 1), 0, 0, 0, []), some ((.getfield 296, 3), 10, 3, 0, []), none, none, some ((.ifCond .ne 7, 3), 11, 0, 0, []), none, none, some ((.ldc_w 292, 3), 0, 0, (-1000000002), []), none, none, some ((.ireturn, 1), 0, 0, 0, []), some ((.aload_n 0, 1), 0, 0, 0, []), some ((.getfield 13, 3), 10, 1, 0, []), none, none, some ((.aload_n 0, 1), 0, 0, 0, [])],
  [some ((.getfield 9, 3), 10, 0, 0, []), none, none, some ((.invokestatic 300, 3), 122, 2, 0, []), none, none, some ((.aload_n 0, 1), 0, 0, 0, []), some ((.getfield 9, 3), 10, 0, 0, []), none, none, some ((.iconst 1, 1), 0, 0, 1, []), some ((.iaload, 1), 0, 0, 0, []), some ((.ireturn, 1), 0, 0, 0, [])]]
def T_X10_count : Tab := [
  [some ((.iload_n 1, 1), 1, 0, 0, []), some ((.tableswitch 100 0 7 #[47, 54, 61, 68, 75, 83, 88, 93], 47), 101, 0, 0, [(0, 48), (1, 55), (2, 62), (3, 69), (4, 76), (5, 84), (6, 89), (7, 94)]), none, none, none, none, none, none, none, none, none, none, none, none, none, none],
  [none, none, none, none, none, none, none, none, none, none, none, none, none, none, none, none],
  [none, none, none, none, none, none, none, none, none, none, none, none, none, none, none, none],
  [some ((.aload_n 0, 1), 0, 0, 0, []), some ((.getfield 9, 3), 10, 0, 0, []), none, none, some ((.iconst 1, 1), 0, 0, 1, []), some ((.iaload, 1), 0, 0, 0, []), some ((.ireturn, 1), 0, 0, 0, []), some ((.aload_n 0, 1), 0, 0, 0, []), some ((.getfield 9, 3), 10, 0, 0, []), none, none, some ((.iconst 2, 1), 0, 0, 2, []), some ((.iaload, 1), 0, 0, 0, []), some ((.ireturn, 1), 0, 0, 0, []), some ((.aload_n 0, 1), 0, 0, 0, []), some ((.getfield 9, 3), 10, 0, 0, [])],
  [none, none, some ((.iconst 3, 1), 0, 0, 3, []), some ((.iaload, 1), 0, 0, 0, []), some ((.ireturn, 1), 0, 0, 0, []), some ((.aload_n 0, 1), 0, 0, 0, []), some ((.getfield 9, 3), 10, 0, 0, []), none, none, some ((.iconst 4, 1), 0, 0, 4, []), some ((.iaload, 1), 0, 0, 0, []), some ((.ireturn, 1), 0, 0, 0, []), some ((.aload_n 0, 1), 0, 0, 0, []), some ((.getfield 9, 3), 10, 0, 0, []), none, none],
  [some ((.bipush 9, 2), 0, 0, 9, []), none, some ((.iaload, 1), 0, 0, 0, []), some ((.ireturn, 1), 0, 0, 0, []), some ((.aload_n 0, 1), 0, 0, 0, []), some ((.getfield 293, 3), 10, 36, 0, []), none, none, some ((.ireturn, 1), 0, 0, 0, []), some ((.aload_n 0, 1), 0, 0, 0, []), some ((.getfield 217, 3), 10, 10, 0, []), none, none, some ((.ireturn, 1), 0, 0, 0, []), some ((.aload_n 0, 1), 0, 0, 0, []), some ((.getfield 9, 3), 10, 0, 0, [])],
  [none, none, some ((.iconst 0, 1), 0, 0, 0, []), some ((.iaload, 1), 0, 0, 0, []), some ((.ireturn, 1), 0, 0, 0, []), some ((.ldc 99, 2), 0, 0, (-1000000001), []), none, some ((.ireturn, 1), 0, 0, 0, [])]]
def T_J6_bitCount_0f7a4 : Tab := [
  [some ((.iload_n 0, 1), 0, 0, 0, []), some ((.iload_n 0, 1), 0, 0, 0, []), some ((.iconst 1, 1), 0, 0, 1, []), some ((.iushr, 1), 0, 0, 0, []), some ((.ldc_w 265, 3), 0, 0, 1431655765, []), none, none, some ((.iand, 1), 0, 0, 0, []), some ((.isub, 1), 0, 0, 0, []), some ((.istore_n 0, 1), 0, 0, 0, []), some ((.iload_n 0, 1), 0, 0, 0, []), some ((.ldc_w 266, 3), 0, 0, 858993459, []), none, none, some ((.iand, 1), 0, 0, 0, []), some ((.iload_n 0, 1), 0, 0, 0, [])],
  [some ((.iconst 2, 1), 0, 0, 2, []), some ((.iushr, 1), 0, 0, 0, []), some ((.ldc_w 266, 3), 0, 0, 858993459, []), none, none, some ((.iand, 1), 0, 0, 0, []), some ((.iadd, 1), 0, 0, 0, []), some ((.istore_n 0, 1), 0, 0, 0, []), some ((.iload_n 0, 1), 0, 0, 0, []), some ((.iload_n 0, 1), 0, 0, 0, []), some ((.iconst 4, 1), 0, 0, 4, []), some ((.iushr, 1), 0, 0, 0, []), some ((.iadd, 1), 0, 0, 0, []), some ((.ldc_w 267, 3), 0, 0, 252645135, []), none, none],
  [some ((.iand, 1), 0, 0, 0, []), some ((.istore_n 0, 1), 0, 0, 0, []), some ((.iload_n 0, 1), 0, 0, 0, []), some ((.iload_n 0, 1), 0, 0, 0, []), some ((.bipush 8, 2), 0, 0, 8, []), none, some ((.iushr, 1), 0, 0, 0, []), some ((.iadd, 1), 0, 0, 0, []), some ((.istore_n 0, 1), 0, 0, 0, []), some ((.iload_n 0, 1), 0, 0, 0, []), some ((.iload_n 0, 1), 0, 0, 0, []), some ((.bipush 16, 2), 0, 0, 16, []), none, some ((.iushr, 1), 0, 0, 0, []), some ((.iadd, 1), 0, 0, 0, []), some ((.istore_n 0, 1), 0, 0, 0, [])],
  [some ((.iload_n 0, 1), 0, 0, 0, []), some ((.bipush 63, 2), 0, 0, 63, []), none, some ((.iand, 1), 0, 0, 0, []), some ((.ireturn, 1), 0, 0, 0, [])]]
def T_J0_length_8abf5 : Tab := [
  [some ((.aload_n 0, 1), 0, 0, 0, []), some ((.getfield 9, 3), 100, 0, 0, []), none, none, some ((.arraylength, 1), 0, 0, 0, []), some ((.aload_n 0, 1), 0, 0, 0, []), some ((.invokevirtual 335, 3), 222, 1, 0, [(0, 12)]), none, none, some ((.ishr, 1), 0, 0, 0, []), some ((.ireturn, 1), 0, 0, 0, [])]]
def T_J0_charAt_5068e : Tab := [
  [some ((.aload_n 0, 1), 0, 0, 0, []), some ((.invokevirtual 492, 3), 223, 1, 0, [(0, 12)]), none, none, some ((.ifCond .eq 12, 3), 16, 0, 0, []), none, none, some ((.aload_n 0, 1), 0, 0, 0, []), some ((.getfield 9, 3), 100, 0, 0, []), none, none, some ((.iload_n 1, 1), 1, 0, 0, []), some ((.invokestatic 495, 3), 225, 2, 0, []), none, none, some ((.ireturn, 1), 0, 0, 0, [])],
  [some ((.aload_n 0, 1), 0, 0, 0, []), some ((.getfield 9, 3), 100, 0, 0, []), none, none, some ((.iload_n 1, 1), 1, 0, 0, []), none, none, none, some ((.ireturn, 1), 0, 0, 0, [])]]
def T_J0_indexOf_0f7a4 : Tab := [
  [some ((.aload_n 0, 1), 0, 0, 0, []), some ((.iload_n 1, 1), 1, 0, 0, []), some ((.iconst 0, 1), 0, 0, 0, []), some ((.invokevirtual 633, 3), 221, 3, 0, [(0, 12)]), none, none, some ((.ireturn, 1), 0, 0, 0, [])]]
def T_J0_indexOf_7cf53 : Tab := [
  [some ((.aload_n 0, 1), 0, 0, 0, []), some ((.invokevirtual 492, 3), 223, 1, 0, [(0, 12)]), none, none, some ((.ifCond .eq 19, 3), 23, 0, 0, []), none, none, some ((.aload_n 0, 1), 0, 0, 0, []), some ((.getfield 9, 3), 100, 0, 0, []), none, none, some ((.iload_n 1, 1), 1, 0, 0, []), some ((.iload_n 2, 1), 2, 0, 0, []), some ((.aload_n 0, 1), 0, 0, 0, []), some ((.invokevirtual 505, 3), 218, 1, 0, [(0, 12)]), none],
  [none, some ((.invokestatic 637, 3), 227, 4, 0, []), none, none, some ((.goto 16, 3), 36, 0, 0, []), none, none, some ((.aload_n 0, 1), 0, 0, 0, []), some ((.getfield 9, 3), 100, 0, 0, []), none, none, some ((.iload_n 1, 1), 1, 0, 0, []), some ((.iload_n 2, 1), 2, 0, 0, []), some ((.aload_n 0, 1), 0, 0, 0, []), some ((.invokevirtual 505, 3), 218, 1, 0, [(0, 12)]), none],
  [none, none, none, none, some ((.ireturn, 1), 0, 0, 0, [])]]
def T_J0_coder_7d493 : Tab := [
  [some ((.getstatic 38, 3), 0, 0, 0, []), none, none, some ((.ifCond .eq 10, 3), 13, 0, 0, []), none, none, some ((.aload_n 0, 1), 0, 0, 0, []), some ((.getfield 15, 3), 100, 1, 0, []), none, none, some ((.goto 4, 3), 14, 0, 0, []), none, none, some ((.iconst 1, 1), 0, 0, 1, []), some ((.ireturn, 1), 0, 0, 0, [])]]
def T_J0_isLatin1_aae02 : Tab := [
  [some ((.getstatic 38, 3), 0, 0, 0, []), none, none, some ((.ifCond .eq 14, 3), 17, 0, 0, []), none, none, some ((.aload_n 0, 1), 0, 0, 0, []), some ((.getfield 15, 3), 100, 1, 0, []), none, none, some ((.ifCond .ne 7, 3), 17, 0, 0, []), none, none, some ((.iconst 1, 1), 0, 0, 1, []), some ((.goto 4, 3), 18, 0, 0, []), none],
  [none, some ((.iconst 0, 1), 0, 0, 0, []), some ((.ireturn, 1), 0, 0, 0, [])]]
def T_J0_checkIndex_df160 : Tab := [
  [some ((.iload_n 0, 1), 0, 0, 0, []), some ((.iload_n 1, 1), 1, 0, 0, []), some ((.getstatic 1053, 3), 1, 0, 0, []), none, none, some ((.invokestatic 1059, 3), 229, 3, 0, []), none, none, some ((.pop, 1), 0, 0, 0, []), some ((.return_, 1), 0, 0, 0, [])]]
def T_J1_charAt_3b067 : Tab := [
  [some ((.iload_n 1, 1), 1, 0, 0, []), some ((.aload_n 0, 1), 0, 0, 0, []), some ((.arraylength, 1), 0, 0, 0, []), some ((.invokestatic 9, 3), 224, 2, 0, []), none, none, some ((.aload_n 0, 1), 0, 0, 0, []), some ((.iload_n 1, 1), 1, 0, 0, []), some ((.baload, 1), 0, 0, 0, []), some ((.sipush 255, 3), 0, 0, 255, []), none, none, some ((.iand, 1), 0, 0, 0, []), some ((.i2c, 1), 0, 0, 0, []), some ((.ireturn, 1), 0, 0, 0, [])]]
def T_J1_canEncode_9a6ad : Tab := [
  [some ((.iload_n 0, 1), 0, 0, 0, []), some ((.ifCond .lt 14, 3), 15, 0, 0, []), none, none, some ((.iload_n 0, 1), 0, 0, 0, []), some ((.sipush 255, 3), 0, 0, 255, []), none, none, some ((.if_icmp .gt 7, 3), 15, 0, 0, []), none, none, some ((.iconst 1, 1), 0, 0, 1, []), some ((.goto 4, 3), 16, 0, 0, []), none, none, some ((.iconst 0, 1), 0, 0, 0, [])],
  [some ((.ireturn, 1), 0, 0, 0, [])]]
def T_J1_indexOf_4cfef : Tab := [
  [some ((.iload_n 1, 1), 1, 0, 0, []), some ((.invokestatic 88, 3), 226, 1, 0, []), none, none, some ((.ifCond .ne 5, 3), 9, 0, 0, []), none, none, some ((.iconst (-1), 1), 0, 0, (-1), []), some ((.ireturn, 1), 0, 0, 0, []), some ((.iload_n 2, 1), 2, 0, 0, []), some ((.iconst 0, 1), 0, 0, 0, []), some ((.invokestatic 92, 3), 0, 107, 0, []), none, none, some ((.istore_n 2, 1), 2, 0, 0, []), some ((.iload_n 3, 1), 3, 0, 0, [])],
  [some ((.aload_n 0, 1), 0, 0, 0, []), some ((.arraylength, 1), 0, 0, 0, []), some ((.invokestatic 38, 3), 0, 108, 0, []), none, none, some ((.istore_n 3, 1), 3, 0, 0, []), some ((.iload_n 2, 1), 2, 0, 0, []), some ((.iload_n 3, 1), 3, 0, 0, []), some ((.if_icmp .lt 5, 3), 29, 0, 0, []), none, none, some ((.iconst (-1), 1), 0, 0, (-1), []), some ((.ireturn, 1), 0, 0, 0, []), some ((.aload_n 0, 1), 0, 0, 0, []), some ((.iload_n 1, 1), 1, 0, 0, []), some ((.iload_n 2, 1), 2, 0, 0, [])],
  [some ((.iload_n 3, 1), 3, 0, 0, []), some ((.invokestatic 95, 3), 228, 4, 0, []), none, none, some ((.ireturn, 1), 0, 0, 0, [])]]
def T_J1_indexOfChar_4cfef : Tab := [
  [some ((.iload_n 1, 1), 1, 0, 0, []), some ((.i2b, 1), 0, 0, 0, []), some ((.istore 4, 2), 4, 0, 0, []), none, some ((.iload_n 2, 1), 2, 0, 0, []), some ((.istore 5, 2), 5, 0, 0, []), none, some ((.iload 5, 2), 5, 0, 0, []), none, some ((.iload_n 3, 1), 3, 0, 0, []), some ((.if_icmp .ge 21, 3), 31, 0, 0, []), none, none, some ((.aload_n 0, 1), 0, 0, 0, []), some ((.iload 5, 2), 5, 0, 0, []), none],
  [some ((.baload, 1), 0, 0, 0, []), some ((.iload 4, 2), 4, 0, 0, []), none, some ((.if_icmp .ne 6, 3), 25, 0, 0, []), none, none, some ((.iload 5, 2), 5, 0, 0, []), none, some ((.ireturn, 1), 0, 0, 0, []), some ((.iinc 5 1, 3), 5, 0, 1, []), none, none, some ((.goto (-21), 3), 7, 0, 0, []), none, none, some ((.iconst (-1), 1), 0, 0, (-1), [])],
  [some ((.ireturn, 1), 0, 0, 0, [])]]
def T_J3_checkIndex_8e157 : Tab := [
  [some ((.iload_n 0, 1), 0, 0, 0, []), some ((.ifCond .lt 8, 3), 9, 0, 0, []), none, none, some ((.iload_n 0, 1), 0, 0, 0, []), some ((.iload_n 1, 1), 1, 0, 0, []), some ((.if_icmp .lt 10, 3), 16, 0, 0, []), none, none, some ((.aload_n 2, 1), 2, 0, 0, []), some ((.iload_n 0, 1), 0, 0, 0, []), some ((.iload_n 1, 1), 1, 0, 0, []), none, none, none, none],
  [some ((.iload_n 0, 1), 0, 0, 0, []), some ((.ireturn, 1), 0, 0, 0, [])]]
def T_L_law : Tab := [
  [none, none, none, some ((.dup, 1), 0, 0, 0, []), none, none, none, some ((.astore_n 1, 1), 1, 0, 0, []), none, none, none, some ((.dup, 1), 0, 0, 0, []), none, none, none, some ((.astore_n 2, 1), 2, 0, 0, [])],
  [some ((.iconst 0, 1), 0, 0, 0, []), some ((.istore_n 3, 1), 3, 0, 0, []), some ((.iload_n 3, 1), 3, 0, 0, []), some ((.aload_n 0, 1), 0, 0, 0, []), some ((.arraylength, 1), 0, 0, 0, []), some ((.bipush 6, 2), 0, 0, 6, []), none, some ((.isub, 1), 0, 0, 0, []), some ((.if_icmp .gt 1555, 3), 1579, 0, 0, []), none, none, some ((.aload_n 0, 1), 0, 0, 0, []), some ((.iload_n 3, 1), 3, 0, 0, []), some ((.iaload, 1), 0, 0, 0, []), some ((.bipush 63, 2), 0, 0, 63, []), none],
  [some ((.iand, 1), 0, 0, 0, []), some ((.tableswitch 1540 0 44 #[195, 248, 281, 314, 347, 390, 413, 436, 459, 492, 525, 568, 591, 614, 637, 660, 693, 706, 729, 762, 785, 818, 861, 904, 937, 950, 973, 1016, 1039, 1052, 1085, 1108, 1151, 1194, 1217, 1240, 1303, 1346, 1379, 1412, 1445, 1468, 1491, 1504, 1517], 195), 1573, 0, 0, [(0, 228), (1, 281), (2, 314), (3, 347), (4, 380), (5, 423), (6, 446), (7, 469), (8, 492), (9, 525), (10, 558), (11, 601), (12, 624), (13, 647), (14, 670), (15, 693), (16, 726), (17, 739), (18, 762), (19, 795), (20, 818), (21, 851), (22, 894), (23, 937), (24, 970), (25, 983), (26, 1006), (27, 1049), (28, 1072), (29, 1085), (30, 1118), (31, 1141), (32, 1184), (33, 1227), (34, 1250), (35, 1273), (36, 1336), (37, 1379), (38, 1412), (39, 1445), (40, 1478), (41, 1501), (42, 1524), (43, 1537), (44, 1550)]), none, none, none, none, none, none, none, none, none, none, none, none, none, none],
  [none, none, none, none, none, none, none, none, none, none, none, none, none, none, none, none],
  [none, none, none, none, none, none, none, none, none, none, none, none, none, none, none, none],
  [none, none, none, none, none, none, none, none, none, none, none, none, none, none, none, none],
  [none, none, none, none, none, none, none, none, none, none, none, none, none, none, none, none],
  [none, none, none, none, none, none, none, none, none, none, none, none, none, none, none, none],
  [none, none, none, none, none, none, none, none, none, none, none, none, none, none, none, none],
  [none, none, none, none, none, none, none, none, none, none, none, none, none, none, none, none],
  [none, none, none, none, none, none, none, none, none, none, none, none, none, none, none, none],
  [none, none, none, none, none, none, none, none, none, none, none, none, none, none, none, none],
  [none, none, none, none, none, none, none, none, none, none, none, none, none, none, none, none],
  [none, none, none, none, none, none, none, none, none, none, none, none, none, none, none, none],
  [none, none, none, none, some ((.aload_n 1, 1), 1, 0, 0, []), some ((.aload_n 0, 1), 0, 0, 0, []), some ((.iload_n 3, 1), 3, 0, 0, []), some ((.iconst 1, 1), 0, 0, 1, []), some ((.iadd, 1), 0, 0, 0, []), some ((.iaload, 1), 0, 0, 0, []), some ((.aload_n 0, 1), 0, 0, 0, []), some ((.iload_n 3, 1), 3, 0, 0, []), some ((.iconst 2, 1), 0, 0, 2, []), some ((.iadd, 1), 0, 0, 0, []), some ((.iaload, 1), 0, 0, 0, []), some ((.aload_n 0, 1), 0, 0, 0, [])],
  [some ((.iload_n 3, 1), 3, 0, 0, []), some ((.iconst 3, 1), 0, 0, 3, []), some ((.iadd, 1), 0, 0, 0, []), some ((.iaload, 1), 0, 0, 0, []), some ((.aload_n 0, 1), 0, 0, 0, []), some ((.iload_n 3, 1), 3, 0, 0, []), some ((.iconst 4, 1), 0, 0, 4, []), some ((.iadd, 1), 0, 0, 0, []), some ((.iaload, 1), 0, 0, 0, []), some ((.invokevirtual 13, 3), 66, 5, 0, [(0, 9)]), none, none, some ((.aload_n 2, 1), 2, 0, 0, []), some ((.aload_n 0, 1), 0, 0, 0, []), some ((.iload_n 3, 1), 3, 0, 0, []), some ((.iconst 1, 1), 0, 0, 1, [])],
  [some ((.iadd, 1), 0, 0, 0, []), some ((.iaload, 1), 0, 0, 0, []), some ((.aload_n 0, 1), 0, 0, 0, []), some ((.iload_n 3, 1), 3, 0, 0, []), some ((.iconst 2, 1), 0, 0, 2, []), some ((.iadd, 1), 0, 0, 0, []), some ((.iaload, 1), 0, 0, 0, []), some ((.aload_n 0, 1), 0, 0, 0, []), some ((.iload_n 3, 1), 3, 0, 0, []), some ((.iconst 3, 1), 0, 0, 3, []), some ((.iadd, 1), 0, 0, 0, []), some ((.iaload, 1), 0, 0, 0, []), some ((.aload_n 0, 1), 0, 0, 0, []), some ((.iload_n 3, 1), 3, 0, 0, []), some ((.iconst 4, 1), 0, 0, 4, []), some ((.iadd, 1), 0, 0, 0, [])],
  [some ((.iaload, 1), 0, 0, 0, []), some ((.invokevirtual 17, 3), 132, 5, 0, [(0, 10)]), none, none, some ((.if_icmp .eq 1297, 3), 1573, 0, 0, []), none, none, some ((.iconst 0, 1), 0, 0, 0, []), some ((.ireturn, 1), 0, 0, 0, []), some ((.aload_n 1, 1), 1, 0, 0, []), some ((.aload_n 0, 1), 0, 0, 0, []), some ((.iload_n 3, 1), 3, 0, 0, []), some ((.iconst 1, 1), 0, 0, 1, []), some ((.iadd, 1), 0, 0, 0, []), some ((.iaload, 1), 0, 0, 0, []), some ((.aload_n 0, 1), 0, 0, 0, [])],
  [some ((.iload_n 3, 1), 3, 0, 0, []), some ((.iconst 2, 1), 0, 0, 2, []), some ((.iadd, 1), 0, 0, 0, []), some ((.iaload, 1), 0, 0, 0, []), some ((.invokevirtual 18, 3), 67, 3, 0, [(0, 9)]), none, none, some ((.aload_n 2, 1), 2, 0, 0, []), some ((.aload_n 0, 1), 0, 0, 0, []), some ((.iload_n 3, 1), 3, 0, 0, []), some ((.iconst 1, 1), 0, 0, 1, []), some ((.iadd, 1), 0, 0, 0, []), some ((.iaload, 1), 0, 0, 0, []), some ((.aload_n 0, 1), 0, 0, 0, []), some ((.iload_n 3, 1), 3, 0, 0, []), some ((.iconst 2, 1), 0, 0, 2, [])],
  [some ((.iadd, 1), 0, 0, 0, []), some ((.iaload, 1), 0, 0, 0, []), some ((.invokevirtual 22, 3), 137, 3, 0, [(0, 10)]), none, none, some ((.if_icmp .eq 1264, 3), 1573, 0, 0, []), none, none, some ((.iconst 0, 1), 0, 0, 0, []), some ((.ireturn, 1), 0, 0, 0, []), some ((.aload_n 1, 1), 1, 0, 0, []), some ((.aload_n 0, 1), 0, 0, 0, []), some ((.iload_n 3, 1), 3, 0, 0, []), some ((.iconst 1, 1), 0, 0, 1, []), some ((.iadd, 1), 0, 0, 0, []), some ((.iaload, 1), 0, 0, 0, [])],
  [some ((.aload_n 0, 1), 0, 0, 0, []), some ((.iload_n 3, 1), 3, 0, 0, []), some ((.iconst 2, 1), 0, 0, 2, []), some ((.iadd, 1), 0, 0, 0, []), some ((.iaload, 1), 0, 0, 0, []), some ((.invokevirtual 23, 3), 68, 3, 0, [(0, 9)]), none, none, some ((.aload_n 2, 1), 2, 0, 0, []), some ((.aload_n 0, 1), 0, 0, 0, []), some ((.iload_n 3, 1), 3, 0, 0, []), some ((.iconst 1, 1), 0, 0, 1, []), some ((.iadd, 1), 0, 0, 0, []), some ((.iaload, 1), 0, 0, 0, []), some ((.aload_n 0, 1), 0, 0, 0, []), some ((.iload_n 3, 1), 3, 0, 0, [])],
  [some ((.iconst 2, 1), 0, 0, 2, []), some ((.iadd, 1), 0, 0, 0, []), some ((.iaload, 1), 0, 0, 0, []), some ((.invokevirtual 26, 3), 139, 3, 0, [(0, 10)]), none, none, some ((.if_icmp .eq 1231, 3), 1573, 0, 0, []), none, none, some ((.iconst 0, 1), 0, 0, 0, []), some ((.ireturn, 1), 0, 0, 0, []), some ((.aload_n 1, 1), 1, 0, 0, []), some ((.aload_n 0, 1), 0, 0, 0, []), some ((.iload_n 3, 1), 3, 0, 0, []), some ((.iconst 1, 1), 0, 0, 1, []), some ((.iadd, 1), 0, 0, 0, [])],
  [some ((.iaload, 1), 0, 0, 0, []), some ((.aload_n 0, 1), 0, 0, 0, []), some ((.iload_n 3, 1), 3, 0, 0, []), some ((.iconst 2, 1), 0, 0, 2, []), some ((.iadd, 1), 0, 0, 0, []), some ((.iaload, 1), 0, 0, 0, []), some ((.invokevirtual 27, 3), 69, 3, 0, [(0, 9)]), none, none, some ((.aload_n 2, 1), 2, 0, 0, []), some ((.aload_n 0, 1), 0, 0, 0, []), some ((.iload_n 3, 1), 3, 0, 0, []), some ((.iconst 1, 1), 0, 0, 1, []), some ((.iadd, 1), 0, 0, 0, []), some ((.iaload, 1), 0, 0, 0, []), some ((.aload_n 0, 1), 0, 0, 0, [])],
  [some ((.iload_n 3, 1), 3, 0, 0, []), some ((.iconst 2, 1), 0, 0, 2, []), some ((.iadd, 1), 0, 0, 0, []), some ((.iaload, 1), 0, 0, 0, []), some ((.invokevirtual 30, 3), 140, 3, 0, [(0, 10)]), none, none, some ((.if_icmp .eq 1198, 3), 1573, 0, 0, []), none, none, some ((.iconst 0, 1), 0, 0, 0, []), some ((.ireturn, 1), 0, 0, 0, []), some ((.aload_n 1, 1), 1, 0, 0, []), some ((.aload_n 0, 1), 0, 0, 0, []), some ((.iload_n 3, 1), 3, 0, 0, []), some ((.iconst 1, 1), 0, 0, 1, [])],
  [some ((.iadd, 1), 0, 0, 0, []), some ((.iaload, 1), 0, 0, 0, []), some ((.aload_n 0, 1), 0, 0, 0, []), some ((.iload_n 3, 1), 3, 0, 0, []), some ((.iconst 2, 1), 0, 0, 2, []), some ((.iadd, 1), 0, 0, 0, []), some ((.iaload, 1), 0, 0, 0, []), some ((.aload_n 0, 1), 0, 0, 0, []), some ((.iload_n 3, 1), 3, 0, 0, []), some ((.iconst 3, 1), 0, 0, 3, []), some ((.iadd, 1), 0, 0, 0, []), some ((.iaload, 1), 0, 0, 0, []), some ((.invokevirtual 31, 3), 70, 4, 0, [(0, 9)]), none, none, some ((.aload_n 2, 1), 2, 0, 0, [])],
  [some ((.aload_n 0, 1), 0, 0, 0, []), some ((.iload_n 3, 1), 3, 0, 0, []), some ((.iconst 1, 1), 0, 0, 1, []), some ((.iadd, 1), 0, 0, 0, []), some ((.iaload, 1), 0, 0, 0, []), some ((.aload_n 0, 1), 0, 0, 0, []), some ((.iload_n 3, 1), 3, 0, 0, []), some ((.iconst 2, 1), 0, 0, 2, []), some ((.iadd, 1), 0, 0, 0, []), some ((.iaload, 1), 0, 0, 0, []), some ((.aload_n 0, 1), 0, 0, 0, []), some ((.iload_n 3, 1), 3, 0, 0, []), some ((.iconst 3, 1), 0, 0, 3, []), some ((.iadd, 1), 0, 0, 0, []), some ((.iaload, 1), 0, 0, 0, []), some ((.invokevirtual 35, 3), 141, 4, 0, [(0, 10)])],
  [none, none, some ((.if_icmp .eq 1155, 3), 1573, 0, 0, []), none, none, some ((.iconst 0, 1), 0, 0, 0, []), some ((.ireturn, 1), 0, 0, 0, []), some ((.aload_n 1, 1), 1, 0, 0, []), some ((.aload_n 0, 1), 0, 0, 0, []), some ((.iload_n 3, 1), 3, 0, 0, []), some ((.iconst 1, 1), 0, 0, 1, []), some ((.iadd, 1), 0, 0, 0, []), some ((.iaload, 1), 0, 0, 0, []), some ((.invokevirtual 36, 3), 71, 2, 0, [(0, 9)]), none, none],
  [some ((.aload_n 2, 1), 2, 0, 0, []), some ((.aload_n 0, 1), 0, 0, 0, []), some ((.iload_n 3, 1), 3, 0, 0, []), some ((.iconst 1, 1), 0, 0, 1, []), some ((.iadd, 1), 0, 0, 0, []), some ((.iaload, 1), 0, 0, 0, []), some ((.invokevirtual 40, 3), 142, 2, 0, [(0, 10)]), none, none, some ((.if_icmp .eq 1132, 3), 1573, 0, 0, []), none, none, some ((.iconst 0, 1), 0, 0, 0, []), some ((.ireturn, 1), 0, 0, 0, []), some ((.aload_n 1, 1), 1, 0, 0, []), some ((.aload_n 0, 1), 0, 0, 0, [])],
  [some ((.iload_n 3, 1), 3, 0, 0, []), some ((.iconst 1, 1), 0, 0, 1, []), some ((.iadd, 1), 0, 0, 0, []), some ((.iaload, 1), 0, 0, 0, []), some ((.invokevirtual 41, 3), 72, 2, 0, [(0, 9)]), none, none, some ((.aload_n 2, 1), 2, 0, 0, []), some ((.aload_n 0, 1), 0, 0, 0, []), some ((.iload_n 3, 1), 3, 0, 0, []), some ((.iconst 1, 1), 0, 0, 1, []), some ((.iadd, 1), 0, 0, 0, []), some ((.iaload, 1), 0, 0, 0, []), some ((.invokevirtual 44, 3), 144, 2, 0, [(0, 10)]), none, none],
  [some ((.if_icmp .eq 1109, 3), 1573, 0, 0, []), none, none, some ((.iconst 0, 1), 0, 0, 0, []), some ((.ireturn, 1), 0, 0, 0, []), some ((.aload_n 1, 1), 1, 0, 0, []), some ((.aload_n 0, 1), 0, 0, 0, []), some ((.iload_n 3, 1), 3, 0, 0, []), some ((.iconst 1, 1), 0, 0, 1, []), some ((.iadd, 1), 0, 0, 0, []), some ((.iaload, 1), 0, 0, 0, []), some ((.invokevirtual 45, 3), 73, 2, 0, [(0, 9)]), none, none, some ((.aload_n 2, 1), 2, 0, 0, []), some ((.aload_n 0, 1), 0, 0, 0, [])],
  [some ((.iload_n 3, 1), 3, 0, 0, []), some ((.iconst 1, 1), 0, 0, 1, []), some ((.iadd, 1), 0, 0, 0, []), some ((.iaload, 1), 0, 0, 0, []), some ((.invokevirtual 48, 3), 145, 2, 0, [(0, 10)]), none, none, some ((.if_icmp .eq 1086, 3), 1573, 0, 0, []), none, none, some ((.iconst 0, 1), 0, 0, 0, []), some ((.ireturn, 1), 0, 0, 0, []), some ((.aload_n 1, 1), 1, 0, 0, []), some ((.aload_n 0, 1), 0, 0, 0, []), some ((.iload_n 3, 1), 3, 0, 0, []), some ((.iconst 1, 1), 0, 0, 1, [])],
  [some ((.iadd, 1), 0, 0, 0, []), some ((.iaload, 1), 0, 0, 0, []), some ((.aload_n 0, 1), 0, 0, 0, []), some ((.iload_n 3, 1), 3, 0, 0, []), some ((.iconst 2, 1), 0, 0, 2, []), some ((.iadd, 1), 0, 0, 0, []), some ((.iaload, 1), 0, 0, 0, []), some ((.invokevirtual 49, 3), 74, 3, 0, [(0, 9)]), none, none, some ((.aload_n 2, 1), 2, 0, 0, []), some ((.aload_n 0, 1), 0, 0, 0, []), some ((.iload_n 3, 1), 3, 0, 0, []), some ((.iconst 1, 1), 0, 0, 1, []), some ((.iadd, 1), 0, 0, 0, []), some ((.iaload, 1), 0, 0, 0, [])],
  [some ((.aload_n 0, 1), 0, 0, 0, []), some ((.iload_n 3, 1), 3, 0, 0, []), some ((.iconst 2, 1), 0, 0, 2, []), some ((.iadd, 1), 0, 0, 0, []), some ((.iaload, 1), 0, 0, 0, []), some ((.invokevirtual 52, 3), 146, 3, 0, [(0, 10)]), none, none, some ((.if_icmp .eq 1053, 3), 1573, 0, 0, []), none, none, some ((.iconst 0, 1), 0, 0, 0, []), some ((.ireturn, 1), 0, 0, 0, []), some ((.aload_n 1, 1), 1, 0, 0, []), some ((.aload_n 0, 1), 0, 0, 0, []), some ((.iload_n 3, 1), 3, 0, 0, [])],
  [some ((.iconst 1, 1), 0, 0, 1, []), some ((.iadd, 1), 0, 0, 0, []), some ((.iaload, 1), 0, 0, 0, []), some ((.aload_n 0, 1), 0, 0, 0, []), some ((.iload_n 3, 1), 3, 0, 0, []), some ((.iconst 2, 1), 0, 0, 2, []), some ((.iadd, 1), 0, 0, 0, []), some ((.iaload, 1), 0, 0, 0, []), some ((.invokevirtual 53, 3), 75, 3, 0, [(0, 9)]), none, none, some ((.aload_n 2, 1), 2, 0, 0, []), some ((.aload_n 0, 1), 0, 0, 0, []), some ((.iload_n 3, 1), 3, 0, 0, []), some ((.iconst 1, 1), 0, 0, 1, []), some ((.iadd, 1), 0, 0, 0, [])],
  [some ((.iaload, 1), 0, 0, 0, []), some ((.aload_n 0, 1), 0, 0, 0, []), some ((.iload_n 3, 1), 3, 0, 0, []), some ((.iconst 2, 1), 0, 0, 2, []), some ((.iadd, 1), 0, 0, 0, []), some ((.iaload, 1), 0, 0, 0, []), some ((.invokevirtual 56, 3), 149, 3, 0, [(0, 10)]), none, none, some ((.if_icmp .eq 1020, 3), 1573, 0, 0, []), none, none, some ((.iconst 0, 1), 0, 0, 0, []), some ((.ireturn, 1), 0, 0, 0, []), some ((.aload_n 1, 1), 1, 0, 0, []), some ((.aload_n 0, 1), 0, 0, 0, [])],
  [some ((.iload_n 3, 1), 3, 0, 0, []), some ((.iconst 1, 1), 0, 0, 1, []), some ((.iadd, 1), 0, 0, 0, []), some ((.iaload, 1), 0, 0, 0, []), some ((.aload_n 0, 1), 0, 0, 0, []), some ((.iload_n 3, 1), 3, 0, 0, []), some ((.iconst 2, 1), 0, 0, 2, []), some ((.iadd, 1), 0, 0, 0, []), some ((.iaload, 1), 0, 0, 0, []), some ((.aload_n 0, 1), 0, 0, 0, []), some ((.iload_n 3, 1), 3, 0, 0, []), some ((.iconst 3, 1), 0, 0, 3, []), some ((.iadd, 1), 0, 0, 0, []), some ((.iaload, 1), 0, 0, 0, []), some ((.invokevirtual 57, 3), 76, 4, 0, [(0, 9)]), none],
  [none, some ((.aload_n 2, 1), 2, 0, 0, []), some ((.aload_n 0, 1), 0, 0, 0, []), some ((.iload_n 3, 1), 3, 0, 0, []), some ((.iconst 1, 1), 0, 0, 1, []), some ((.iadd, 1), 0, 0, 0, []), some ((.iaload, 1), 0, 0, 0, []), some ((.aload_n 0, 1), 0, 0, 0, []), some ((.iload_n 3, 1), 3, 0, 0, []), some ((.iconst 2, 1), 0, 0, 2, []), some ((.iadd, 1), 0, 0, 0, []), some ((.iaload, 1), 0, 0, 0, []), some ((.aload_n 0, 1), 0, 0, 0, []), some ((.iload_n 3, 1), 3, 0, 0, []), some ((.iconst 3, 1), 0, 0, 3, []), some ((.iadd, 1), 0, 0, 0, [])],
  [some ((.iaload, 1), 0, 0, 0, []), some ((.invokevirtual 60, 3), 150, 4, 0, [(0, 10)]), none, none, some ((.if_icmp .eq 977, 3), 1573, 0, 0, []), none, none, some ((.iconst 0, 1), 0, 0, 0, []), some ((.ireturn, 1), 0, 0, 0, []), some ((.aload_n 1, 1), 1, 0, 0, []), some ((.aload_n 0, 1), 0, 0, 0, []), some ((.iload_n 3, 1), 3, 0, 0, []), some ((.iconst 1, 1), 0, 0, 1, []), some ((.iadd, 1), 0, 0, 0, []), some ((.iaload, 1), 0, 0, 0, []), some ((.invokevirtual 61, 3), 77, 2, 0, [(0, 9)])],
  [none, none, some ((.aload_n 2, 1), 2, 0, 0, []), some ((.aload_n 0, 1), 0, 0, 0, []), some ((.iload_n 3, 1), 3, 0, 0, []), some ((.iconst 1, 1), 0, 0, 1, []), some ((.iadd, 1), 0, 0, 0, []), some ((.iaload, 1), 0, 0, 0, []), some ((.invokevirtual 64, 3), 151, 2, 0, [(0, 10)]), none, none, some ((.if_icmp .eq 954, 3), 1573, 0, 0, []), none, none, some ((.iconst 0, 1), 0, 0, 0, []), some ((.ireturn, 1), 0, 0, 0, [])],
  [some ((.aload_n 1, 1), 1, 0, 0, []), some ((.aload_n 0, 1), 0, 0, 0, []), some ((.iload_n 3, 1), 3, 0, 0, []), some ((.iconst 1, 1), 0, 0, 1, []), some ((.iadd, 1), 0, 0, 0, []), some ((.iaload, 1), 0, 0, 0, []), some ((.invokevirtual 65, 3), 78, 2, 0, [(0, 9)]), none, none, some ((.aload_n 2, 1), 2, 0, 0, []), some ((.aload_n 0, 1), 0, 0, 0, []), some ((.iload_n 3, 1), 3, 0, 0, []), some ((.iconst 1, 1), 0, 0, 1, []), some ((.iadd, 1), 0, 0, 0, []), some ((.iaload, 1), 0, 0, 0, []), some ((.invokevirtual 68, 3), 158, 2, 0, [(0, 10)])],
  [none, none, some ((.if_icmp .eq 931, 3), 1573, 0, 0, []), none, none, some ((.iconst 0, 1), 0, 0, 0, []), some ((.ireturn, 1), 0, 0, 0, []), some ((.aload_n 1, 1), 1, 0, 0, []), some ((.aload_n 0, 1), 0, 0, 0, []), some ((.iload_n 3, 1), 3, 0, 0, []), some ((.iconst 1, 1), 0, 0, 1, []), some ((.iadd, 1), 0, 0, 0, []), some ((.iaload, 1), 0, 0, 0, []), some ((.invokevirtual 69, 3), 79, 2, 0, [(0, 9)]), none, none],
  [some ((.aload_n 2, 1), 2, 0, 0, []), some ((.aload_n 0, 1), 0, 0, 0, []), some ((.iload_n 3, 1), 3, 0, 0, []), some ((.iconst 1, 1), 0, 0, 1, []), some ((.iadd, 1), 0, 0, 0, []), some ((.iaload, 1), 0, 0, 0, []), some ((.invokevirtual 72, 3), 162, 2, 0, [(0, 10)]), none, none, some ((.if_icmp .eq 908, 3), 1573, 0, 0, []), none, none, some ((.iconst 0, 1), 0, 0, 0, []), some ((.ireturn, 1), 0, 0, 0, []), some ((.aload_n 1, 1), 1, 0, 0, []), some ((.aload_n 0, 1), 0, 0, 0, [])],
  [some ((.iload_n 3, 1), 3, 0, 0, []), some ((.iconst 1, 1), 0, 0, 1, []), some ((.iadd, 1), 0, 0, 0, []), some ((.iaload, 1), 0, 0, 0, []), some ((.invokevirtual 73, 3), 80, 2, 0, [(0, 9)]), none, none, some ((.aload_n 2, 1), 2, 0, 0, []), some ((.aload_n 0, 1), 0, 0, 0, []), some ((.iload_n 3, 1), 3, 0, 0, []), some ((.iconst 1, 1), 0, 0, 1, []), some ((.iadd, 1), 0, 0, 0, []), some ((.iaload, 1), 0, 0, 0, []), some ((.invokevirtual 76, 3), 165, 2, 0, [(0, 10)]), none, none],
  [some ((.if_icmp .eq 885, 3), 1573, 0, 0, []), none, none, some ((.iconst 0, 1), 0, 0, 0, []), some ((.ireturn, 1), 0, 0, 0, []), some ((.aload_n 1, 1), 1, 0, 0, []), some ((.aload_n 0, 1), 0, 0, 0, []), some ((.iload_n 3, 1), 3, 0, 0, []), some ((.iconst 1, 1), 0, 0, 1, []), some ((.iadd, 1), 0, 0, 0, []), some ((.iaload, 1), 0, 0, 0, []), some ((.aload_n 0, 1), 0, 0, 0, []), some ((.iload_n 3, 1), 3, 0, 0, []), some ((.iconst 2, 1), 0, 0, 2, []), some ((.iadd, 1), 0, 0, 0, []), some ((.iaload, 1), 0, 0, 0, [])],
  [some ((.invokevirtual 77, 3), 81, 3, 0, [(0, 9)]), none, none, some ((.aload_n 2, 1), 2, 0, 0, []), some ((.aload_n 0, 1), 0, 0, 0, []), some ((.iload_n 3, 1), 3, 0, 0, []), some ((.iconst 1, 1), 0, 0, 1, []), some ((.iadd, 1), 0, 0, 0, []), some ((.iaload, 1), 0, 0, 0, []), some ((.aload_n 0, 1), 0, 0, 0, []), some ((.iload_n 3, 1), 3, 0, 0, []), some ((.iconst 2, 1), 0, 0, 2, []), some ((.iadd, 1), 0, 0, 0, []), some ((.iaload, 1), 0, 0, 0, []), some ((.invokevirtual 80, 3), 166, 3, 0, [(0, 10)]), none],
  [none, some ((.if_icmp .eq 852, 3), 1573, 0, 0, []), none, none, some ((.iconst 0, 1), 0, 0, 0, []), some ((.ireturn, 1), 0, 0, 0, []), some ((.aload_n 1, 1), 1, 0, 0, []), some ((.invokevirtual 81, 3), 82, 1, 0, [(0, 9)]), none, none, some ((.aload_n 2, 1), 2, 0, 0, []), some ((.invokevirtual 85, 3), 167, 1, 0, [(0, 10)]), none, none, some ((.if_icmp .eq 839, 3), 1573, 0, 0, []), none],
  [none, some ((.iconst 0, 1), 0, 0, 0, []), some ((.ireturn, 1), 0, 0, 0, []), some ((.aload_n 1, 1), 1, 0, 0, []), some ((.aload_n 0, 1), 0, 0, 0, []), some ((.iload_n 3, 1), 3, 0, 0, []), some ((.iconst 1, 1), 0, 0, 1, []), some ((.iadd, 1), 0, 0, 0, []), some ((.iaload, 1), 0, 0, 0, []), some ((.invokevirtual 86, 3), 83, 2, 0, [(0, 9)]), none, none, some ((.aload_n 2, 1), 2, 0, 0, []), some ((.aload_n 0, 1), 0, 0, 0, []), some ((.iload_n 3, 1), 3, 0, 0, []), some ((.iconst 1, 1), 0, 0, 1, [])],
  [some ((.iadd, 1), 0, 0, 0, []), some ((.iaload, 1), 0, 0, 0, []), some ((.invokevirtual 89, 3), 169, 2, 0, [(0, 10)]), none, none, some ((.if_icmp .eq 816, 3), 1573, 0, 0, []), none, none, some ((.iconst 0, 1), 0, 0, 0, []), some ((.ireturn, 1), 0, 0, 0, []), some ((.aload_n 1, 1), 1, 0, 0, []), some ((.aload_n 0, 1), 0, 0, 0, []), some ((.iload_n 3, 1), 3, 0, 0, []), some ((.iconst 1, 1), 0, 0, 1, []), some ((.iadd, 1), 0, 0, 0, []), some ((.iaload, 1), 0, 0, 0, [])],
  [some ((.aload_n 0, 1), 0, 0, 0, []), some ((.iload_n 3, 1), 3, 0, 0, []), some ((.iconst 2, 1), 0, 0, 2, []), some ((.iadd, 1), 0, 0, 0, []), some ((.iaload, 1), 0, 0, 0, []), some ((.invokevirtual 90, 3), 84, 3, 0, [(0, 9)]), none, none, some ((.aload_n 2, 1), 2, 0, 0, []), some ((.aload_n 0, 1), 0, 0, 0, []), some ((.iload_n 3, 1), 3, 0, 0, []), some ((.iconst 1, 1), 0, 0, 1, []), some ((.iadd, 1), 0, 0, 0, []), some ((.iaload, 1), 0, 0, 0, []), some ((.aload_n 0, 1), 0, 0, 0, []), some ((.iload_n 3, 1), 3, 0, 0, [])],
  [some ((.iconst 2, 1), 0, 0, 2, []), some ((.iadd, 1), 0, 0, 0, []), some ((.iaload, 1), 0, 0, 0, []), some ((.invokevirtual 93, 3), 172, 3, 0, [(0, 10)]), none, none, some ((.if_icmp .eq 783, 3), 1573, 0, 0, []), none, none, some ((.iconst 0, 1), 0, 0, 0, []), some ((.ireturn, 1), 0, 0, 0, []), some ((.aload_n 1, 1), 1, 0, 0, []), some ((.aload_n 0, 1), 0, 0, 0, []), some ((.iload_n 3, 1), 3, 0, 0, []), some ((.iconst 1, 1), 0, 0, 1, []), some ((.iadd, 1), 0, 0, 0, [])],
  [some ((.iaload, 1), 0, 0, 0, []), some ((.invokevirtual 94, 3), 85, 2, 0, [(0, 9)]), none, none, some ((.aload_n 2, 1), 2, 0, 0, []), some ((.aload_n 0, 1), 0, 0, 0, []), some ((.iload_n 3, 1), 3, 0, 0, []), some ((.iconst 1, 1), 0, 0, 1, []), some ((.iadd, 1), 0, 0, 0, []), some ((.iaload, 1), 0, 0, 0, []), some ((.invokevirtual 97, 3), 174, 2, 0, [(0, 10)]), none, none, some ((.if_icmp .eq 760, 3), 1573, 0, 0, []), none, none],
  [some ((.iconst 0, 1), 0, 0, 0, []), some ((.ireturn, 1), 0, 0, 0, []), some ((.aload_n 1, 1), 1, 0, 0, []), some ((.aload_n 0, 1), 0, 0, 0, []), some ((.iload_n 3, 1), 3, 0, 0, []), some ((.iconst 1, 1), 0, 0, 1, []), some ((.iadd, 1), 0, 0, 0, []), some ((.iaload, 1), 0, 0, 0, []), some ((.aload_n 0, 1), 0, 0, 0, []), some ((.iload_n 3, 1), 3, 0, 0, []), some ((.iconst 2, 1), 0, 0, 2, []), some ((.iadd, 1), 0, 0, 0, []), some ((.iaload, 1), 0, 0, 0, []), some ((.invokevirtual 98, 3), 86, 3, 0, [(0, 9)]), none, none],
  [some ((.aload_n 2, 1), 2, 0, 0, []), some ((.aload_n 0, 1), 0, 0, 0, []), some ((.iload_n 3, 1), 3, 0, 0, []), some ((.iconst 1, 1), 0, 0, 1, []), some ((.iadd, 1), 0, 0, 0, []), some ((.iaload, 1), 0, 0, 0, []), some ((.aload_n 0, 1), 0, 0, 0, []), some ((.iload_n 3, 1), 3, 0, 0, []), some ((.iconst 2, 1), 0, 0, 2, []), some ((.iadd, 1), 0, 0, 0, []), some ((.iaload, 1), 0, 0, 0, []), some ((.invokevirtual 101, 3), 175, 3, 0, [(0, 10)]), none, none, some ((.if_icmp .eq 727, 3), 1573, 0, 0, []), none],
  [none, some ((.iconst 0, 1), 0, 0, 0, []), some ((.ireturn, 1), 0, 0, 0, []), some ((.aload_n 1, 1), 1, 0, 0, []), some ((.aload_n 0, 1), 0, 0, 0, []), some ((.iload_n 3, 1), 3, 0, 0, []), some ((.iconst 1, 1), 0, 0, 1, []), some ((.iadd, 1), 0, 0, 0, []), some ((.iaload, 1), 0, 0, 0, []), some ((.aload_n 0, 1), 0, 0, 0, []), some ((.iload_n 3, 1), 3, 0, 0, []), some ((.iconst 2, 1), 0, 0, 2, []), some ((.iadd, 1), 0, 0, 0, []), some ((.iaload, 1), 0, 0, 0, []), some ((.aload_n 0, 1), 0, 0, 0, []), some ((.iload_n 3, 1), 3, 0, 0, [])],
  [some ((.iconst 3, 1), 0, 0, 3, []), some ((.iadd, 1), 0, 0, 0, []), some ((.iaload, 1), 0, 0, 0, []), some ((.invokevirtual 102, 3), 87, 4, 0, [(0, 9)]), none, none, some ((.aload_n 2, 1), 2, 0, 0, []), some ((.aload_n 0, 1), 0, 0, 0, []), some ((.iload_n 3, 1), 3, 0, 0, []), some ((.iconst 1, 1), 0, 0, 1, []), some ((.iadd, 1), 0, 0, 0, []), some ((.iaload, 1), 0, 0, 0, []), some ((.aload_n 0, 1), 0, 0, 0, []), some ((.iload_n 3, 1), 3, 0, 0, []), some ((.iconst 2, 1), 0, 0, 2, []), some ((.iadd, 1), 0, 0, 0, [])],
  [some ((.iaload, 1), 0, 0, 0, []), some ((.aload_n 0, 1), 0, 0, 0, []), some ((.iload_n 3, 1), 3, 0, 0, []), some ((.iconst 3, 1), 0, 0, 3, []), some ((.iadd, 1), 0, 0, 0, []), some ((.iaload, 1), 0, 0, 0, []), some ((.invokevirtual 105, 3), 177, 4, 0, [(0, 10)]), none, none, some ((.if_icmp .eq 684, 3), 1573, 0, 0, []), none, none, some ((.iconst 0, 1), 0, 0, 0, []), some ((.ireturn, 1), 0, 0, 0, []), some ((.aload_n 1, 1), 1, 0, 0, []), some ((.aload_n 0, 1), 0, 0, 0, [])],
  [some ((.iload_n 3, 1), 3, 0, 0, []), some ((.iconst 1, 1), 0, 0, 1, []), some ((.iadd, 1), 0, 0, 0, []), some ((.iaload, 1), 0, 0, 0, []), some ((.aload_n 0, 1), 0, 0, 0, []), some ((.iload_n 3, 1), 3, 0, 0, []), some ((.iconst 2, 1), 0, 0, 2, []), some ((.iadd, 1), 0, 0, 0, []), some ((.iaload, 1), 0, 0, 0, []), some ((.aload_n 0, 1), 0, 0, 0, []), some ((.iload_n 3, 1), 3, 0, 0, []), some ((.iconst 3, 1), 0, 0, 3, []), some ((.iadd, 1), 0, 0, 0, []), some ((.iaload, 1), 0, 0, 0, []), some ((.invokevirtual 106, 3), 88, 4, 0, [(0, 9)]), none],
  [none, some ((.aload_n 2, 1), 2, 0, 0, []), some ((.aload_n 0, 1), 0, 0, 0, []), some ((.iload_n 3, 1), 3, 0, 0, []), some ((.iconst 1, 1), 0, 0, 1, []), some ((.iadd, 1), 0, 0, 0, []), some ((.iaload, 1), 0, 0, 0, []), some ((.aload_n 0, 1), 0, 0, 0, []), some ((.iload_n 3, 1), 3, 0, 0, []), some ((.iconst 2, 1), 0, 0, 2, []), some ((.iadd, 1), 0, 0, 0, []), some ((.iaload, 1), 0, 0, 0, []), some ((.aload_n 0, 1), 0, 0, 0, []), some ((.iload_n 3, 1), 3, 0, 0, []), some ((.iconst 3, 1), 0, 0, 3, []), some ((.iadd, 1), 0, 0, 0, [])],
  [some ((.iaload, 1), 0, 0, 0, []), some ((.invokevirtual 109, 3), 178, 4, 0, [(0, 10)]), none, none, some ((.if_icmp .eq 641, 3), 1573, 0, 0, []), none, none, some ((.iconst 0, 1), 0, 0, 0, []), some ((.ireturn, 1), 0, 0, 0, []), some ((.aload_n 1, 1), 1, 0, 0, []), some ((.aload_n 0, 1), 0, 0, 0, []), some ((.iload_n 3, 1), 3, 0, 0, []), some ((.iconst 1, 1), 0, 0, 1, []), some ((.iadd, 1), 0, 0, 0, []), some ((.iaload, 1), 0, 0, 0, []), some ((.aload_n 0, 1), 0, 0, 0, [])],
  [some ((.iload_n 3, 1), 3, 0, 0, []), some ((.iconst 2, 1), 0, 0, 2, []), some ((.iadd, 1), 0, 0, 0, []), some ((.iaload, 1), 0, 0, 0, []), some ((.invokevirtual 110, 3), 89, 3, 0, [(0, 9)]), none, none, some ((.aload_n 2, 1), 2, 0, 0, []), some ((.aload_n 0, 1), 0, 0, 0, []), some ((.iload_n 3, 1), 3, 0, 0, []), some ((.iconst 1, 1), 0, 0, 1, []), some ((.iadd, 1), 0, 0, 0, []), some ((.iaload, 1), 0, 0, 0, []), some ((.aload_n 0, 1), 0, 0, 0, []), some ((.iload_n 3, 1), 3, 0, 0, []), some ((.iconst 2, 1), 0, 0, 2, [])],
  [some ((.iadd, 1), 0, 0, 0, []), some ((.iaload, 1), 0, 0, 0, []), some ((.invokevirtual 113, 3), 179, 3, 0, [(0, 10)]), none, none, some ((.if_icmp .eq 608, 3), 1573, 0, 0, []), none, none, some ((.iconst 0, 1), 0, 0, 0, []), some ((.ireturn, 1), 0, 0, 0, []), some ((.aload_n 1, 1), 1, 0, 0, []), some ((.invokevirtual 114, 3), 90, 1, 0, [(0, 9)]), none, none, some ((.aload_n 2, 1), 2, 0, 0, []), some ((.invokevirtual 117, 3), 180, 1, 0, [(0, 10)])],
  [none, none, some ((.if_icmp .eq 595, 3), 1573, 0, 0, []), none, none, some ((.iconst 0, 1), 0, 0, 0, []), some ((.ireturn, 1), 0, 0, 0, []), some ((.aload_n 1, 1), 1, 0, 0, []), some ((.aload_n 0, 1), 0, 0, 0, []), some ((.iload_n 3, 1), 3, 0, 0, []), some ((.iconst 1, 1), 0, 0, 1, []), some ((.iadd, 1), 0, 0, 0, []), some ((.iaload, 1), 0, 0, 0, []), some ((.invokevirtual 118, 3), 91, 2, 0, [(0, 9)]), none, none],
  [some ((.aload_n 2, 1), 2, 0, 0, []), some ((.aload_n 0, 1), 0, 0, 0, []), some ((.iload_n 3, 1), 3, 0, 0, []), some ((.iconst 1, 1), 0, 0, 1, []), some ((.iadd, 1), 0, 0, 0, []), some ((.iaload, 1), 0, 0, 0, []), some ((.invokevirtual 121, 3), 181, 2, 0, [(0, 10)]), none, none, some ((.if_icmp .eq 572, 3), 1573, 0, 0, []), none, none, some ((.iconst 0, 1), 0, 0, 0, []), some ((.ireturn, 1), 0, 0, 0, []), some ((.aload_n 1, 1), 1, 0, 0, []), some ((.aload_n 0, 1), 0, 0, 0, [])],
  [some ((.iload_n 3, 1), 3, 0, 0, []), some ((.iconst 1, 1), 0, 0, 1, []), some ((.iadd, 1), 0, 0, 0, []), some ((.iaload, 1), 0, 0, 0, []), some ((.aload_n 0, 1), 0, 0, 0, []), some ((.iload_n 3, 1), 3, 0, 0, []), some ((.iconst 2, 1), 0, 0, 2, []), some ((.iadd, 1), 0, 0, 0, []), some ((.iaload, 1), 0, 0, 0, []), some ((.aload_n 0, 1), 0, 0, 0, []), some ((.iload_n 3, 1), 3, 0, 0, []), some ((.iconst 3, 1), 0, 0, 3, []), some ((.iadd, 1), 0, 0, 0, []), some ((.iaload, 1), 0, 0, 0, []), some ((.invokevirtual 122, 3), 92, 4, 0, [(0, 9)]), none],
  [none, some ((.aload_n 2, 1), 2, 0, 0, []), some ((.aload_n 0, 1), 0, 0, 0, []), some ((.iload_n 3, 1), 3, 0, 0, []), some ((.iconst 1, 1), 0, 0, 1, []), some ((.iadd, 1), 0, 0, 0, []), some ((.iaload, 1), 0, 0, 0, []), some ((.aload_n 0, 1), 0, 0, 0, []), some ((.iload_n 3, 1), 3, 0, 0, []), some ((.iconst 2, 1), 0, 0, 2, []), some ((.iadd, 1), 0, 0, 0, []), some ((.iaload, 1), 0, 0, 0, []), some ((.aload_n 0, 1), 0, 0, 0, []), some ((.iload_n 3, 1), 3, 0, 0, []), some ((.iconst 3, 1), 0, 0, 3, []), some ((.iadd, 1), 0, 0, 0, [])],
  [some ((.iaload, 1), 0, 0, 0, []), some ((.invokevirtual 125, 3), 182, 4, 0, [(0, 10)]), none, none, some ((.if_icmp .eq 529, 3), 1573, 0, 0, []), none, none, some ((.iconst 0, 1), 0, 0, 0, []), some ((.ireturn, 1), 0, 0, 0, []), some ((.aload_n 1, 1), 1, 0, 0, []), some ((.aload_n 0, 1), 0, 0, 0, []), some ((.iload_n 3, 1), 3, 0, 0, []), some ((.iconst 1, 1), 0, 0, 1, []), some ((.iadd, 1), 0, 0, 0, []), some ((.iaload, 1), 0, 0, 0, []), some ((.invokevirtual 126, 3), 93, 2, 0, [(0, 9)])],
  [none, none, some ((.aload_n 2, 1), 2, 0, 0, []), some ((.aload_n 0, 1), 0, 0, 0, []), some ((.iload_n 3, 1), 3, 0, 0, []), some ((.iconst 1, 1), 0, 0, 1, []), some ((.iadd, 1), 0, 0, 0, []), some ((.iaload, 1), 0, 0, 0, []), some ((.invokevirtual 129, 3), 183, 2, 0, [(0, 10)]), none, none, some ((.if_icmp .eq 506, 3), 1573, 0, 0, []), none, none, some ((.iconst 0, 1), 0, 0, 0, []), some ((.ireturn, 1), 0, 0, 0, [])],
  [some ((.aload_n 1, 1), 1, 0, 0, []), some ((.invokevirtual 130, 3), 94, 1, 0, [(0, 9)]), none, none, some ((.aload_n 2, 1), 2, 0, 0, []), some ((.invokevirtual 133, 3), 195, 1, 0, [(0, 10)]), none, none, some ((.if_icmp .eq 493, 3), 1573, 0, 0, []), none, none, some ((.iconst 0, 1), 0, 0, 0, []), some ((.ireturn, 1), 0, 0, 0, []), some ((.aload_n 1, 1), 1, 0, 0, []), some ((.aload_n 0, 1), 0, 0, 0, []), some ((.iload_n 3, 1), 3, 0, 0, [])],
  [some ((.iconst 1, 1), 0, 0, 1, []), some ((.iadd, 1), 0, 0, 0, []), some ((.iaload, 1), 0, 0, 0, []), some ((.aload_n 0, 1), 0, 0, 0, []), some ((.iload_n 3, 1), 3, 0, 0, []), some ((.iconst 2, 1), 0, 0, 2, []), some ((.iadd, 1), 0, 0, 0, []), some ((.iaload, 1), 0, 0, 0, []), some ((.invokevirtual 134, 3), 95, 3, 0, [(0, 9)]), none, none, some ((.aload_n 2, 1), 2, 0, 0, []), some ((.aload_n 0, 1), 0, 0, 0, []), some ((.iload_n 3, 1), 3, 0, 0, []), some ((.iconst 1, 1), 0, 0, 1, []), some ((.iadd, 1), 0, 0, 0, [])],
  [some ((.iaload, 1), 0, 0, 0, []), some ((.aload_n 0, 1), 0, 0, 0, []), some ((.iload_n 3, 1), 3, 0, 0, []), some ((.iconst 2, 1), 0, 0, 2, []), some ((.iadd, 1), 0, 0, 0, []), some ((.iaload, 1), 0, 0, 0, []), some ((.invokevirtual 137, 3), 196, 3, 0, [(0, 10)]), none, none, some ((.if_icmp .eq 460, 3), 1573, 0, 0, []), none, none, some ((.iconst 0, 1), 0, 0, 0, []), some ((.ireturn, 1), 0, 0, 0, []), some ((.aload_n 1, 1), 1, 0, 0, []), some ((.aload_n 0, 1), 0, 0, 0, [])],
  [some ((.iload_n 3, 1), 3, 0, 0, []), some ((.iconst 1, 1), 0, 0, 1, []), some ((.iadd, 1), 0, 0, 0, []), some ((.iaload, 1), 0, 0, 0, []), some ((.invokevirtual 138, 3), 96, 2, 0, [(0, 9)]), none, none, some ((.aload_n 2, 1), 2, 0, 0, []), some ((.aload_n 0, 1), 0, 0, 0, []), some ((.iload_n 3, 1), 3, 0, 0, []), some ((.iconst 1, 1), 0, 0, 1, []), some ((.iadd, 1), 0, 0, 0, []), some ((.iaload, 1), 0, 0, 0, []), some ((.invokevirtual 141, 3), 198, 2, 0, [(0, 10)]), none, none],
  [some ((.if_icmp .eq 437, 3), 1573, 0, 0, []), none, none, some ((.iconst 0, 1), 0, 0, 0, []), some ((.ireturn, 1), 0, 0, 0, []), some ((.aload_n 1, 1), 1, 0, 0, []), some ((.aload_n 0, 1), 0, 0, 0, []), some ((.iload_n 3, 1), 3, 0, 0, []), some ((.iconst 1, 1), 0, 0, 1, []), some ((.iadd, 1), 0, 0, 0, []), some ((.iaload, 1), 0, 0, 0, []), some ((.aload_n 0, 1), 0, 0, 0, []), some ((.iload_n 3, 1), 3, 0, 0, []), some ((.iconst 2, 1), 0, 0, 2, []), some ((.iadd, 1), 0, 0, 0, []), some ((.iaload, 1), 0, 0, 0, [])],
  [some ((.aload_n 0, 1), 0, 0, 0, []), some ((.iload_n 3, 1), 3, 0, 0, []), some ((.iconst 3, 1), 0, 0, 3, []), some ((.iadd, 1), 0, 0, 0, []), some ((.iaload, 1), 0, 0, 0, []), some ((.invokevirtual 142, 3), 97, 4, 0, [(0, 9)]), none, none, some ((.aload_n 2, 1), 2, 0, 0, []), some ((.aload_n 0, 1), 0, 0, 0, []), some ((.iload_n 3, 1), 3, 0, 0, []), some ((.iconst 1, 1), 0, 0, 1, []), some ((.iadd, 1), 0, 0, 0, []), some ((.iaload, 1), 0, 0, 0, []), some ((.aload_n 0, 1), 0, 0, 0, []), some ((.iload_n 3, 1), 3, 0, 0, [])],
  [some ((.iconst 2, 1), 0, 0, 2, []), some ((.iadd, 1), 0, 0, 0, []), some ((.iaload, 1), 0, 0, 0, []), some ((.aload_n 0, 1), 0, 0, 0, []), some ((.iload_n 3, 1), 3, 0, 0, []), some ((.iconst 3, 1), 0, 0, 3, []), some ((.iadd, 1), 0, 0, 0, []), some ((.iaload, 1), 0, 0, 0, []), some ((.invokevirtual 145, 3), 203, 4, 0, [(0, 10)]), none, none, some ((.if_icmp .eq 394, 3), 1573, 0, 0, []), none, none, some ((.iconst 0, 1), 0, 0, 0, []), some ((.ireturn, 1), 0, 0, 0, [])],
  [some ((.aload_n 1, 1), 1, 0, 0, []), some ((.aload_n 0, 1), 0, 0, 0, []), some ((.iload_n 3, 1), 3, 0, 0, []), some ((.iconst 1, 1), 0, 0, 1, []), some ((.iadd, 1), 0, 0, 0, []), some ((.iaload, 1), 0, 0, 0, []), some ((.aload_n 0, 1), 0, 0, 0, []), some ((.iload_n 3, 1), 3, 0, 0, []), some ((.iconst 2, 1), 0, 0, 2, []), some ((.iadd, 1), 0, 0, 0, []), some ((.iaload, 1), 0, 0, 0, []), some ((.aload_n 0, 1), 0, 0, 0, []), some ((.iload_n 3, 1), 3, 0, 0, []), some ((.iconst 3, 1), 0, 0, 3, []), some ((.iadd, 1), 0, 0, 0, []), some ((.iaload, 1), 0, 0, 0, [])],
  [some ((.invokevirtual 146, 3), 98, 4, 0, [(0, 9)]), none, none, some ((.aload_n 2, 1), 2, 0, 0, []), some ((.aload_n 0, 1), 0, 0, 0, []), some ((.iload_n 3, 1), 3, 0, 0, []), some ((.iconst 1, 1), 0, 0, 1, []), some ((.iadd, 1), 0, 0, 0, []), some ((.iaload, 1), 0, 0, 0, []), some ((.aload_n 0, 1), 0, 0, 0, []), some ((.iload_n 3, 1), 3, 0, 0, []), some ((.iconst 2, 1), 0, 0, 2, []), some ((.iadd, 1), 0, 0, 0, []), some ((.iaload, 1), 0, 0, 0, []), some ((.aload_n 0, 1), 0, 0, 0, []), some ((.iload_n 3, 1), 3, 0, 0, [])],
  [some ((.iconst 3, 1), 0, 0, 3, []), some ((.iadd, 1), 0, 0, 0, []), some ((.iaload, 1), 0, 0, 0, []), some ((.invokevirtual 149, 3), 204, 4, 0, [(0, 10)]), none, none, some ((.if_icmp .eq 351, 3), 1573, 0, 0, []), none, none, some ((.iconst 0, 1), 0, 0, 0, []), some ((.ireturn, 1), 0, 0, 0, []), some ((.aload_n 1, 1), 1, 0, 0, []), some ((.aload_n 0, 1), 0, 0, 0, []), some ((.iload_n 3, 1), 3, 0, 0, []), some ((.iconst 1, 1), 0, 0, 1, []), some ((.iadd, 1), 0, 0, 0, [])],
  [some ((.iaload, 1), 0, 0, 0, []), some ((.invokevirtual 150, 3), 99, 2, 0, [(0, 9)]), none, none, some ((.aload_n 2, 1), 2, 0, 0, []), some ((.aload_n 0, 1), 0, 0, 0, []), some ((.iload_n 3, 1), 3, 0, 0, []), some ((.iconst 1, 1), 0, 0, 1, []), some ((.iadd, 1), 0, 0, 0, []), some ((.iaload, 1), 0, 0, 0, []), some ((.invokevirtual 153, 3), 205, 2, 0, [(0, 10)]), none, none, some ((.if_icmp .eq 328, 3), 1573, 0, 0, []), none, none],
  [some ((.iconst 0, 1), 0, 0, 0, []), some ((.ireturn, 1), 0, 0, 0, []), some ((.aload_n 1, 1), 1, 0, 0, []), some ((.aload_n 0, 1), 0, 0, 0, []), some ((.iload_n 3, 1), 3, 0, 0, []), some ((.iconst 1, 1), 0, 0, 1, []), some ((.iadd, 1), 0, 0, 0, []), some ((.iaload, 1), 0, 0, 0, []), some ((.invokevirtual 154, 3), 100, 2, 0, [(0, 9)]), none, none, some ((.aload_n 2, 1), 2, 0, 0, []), some ((.aload_n 0, 1), 0, 0, 0, []), some ((.iload_n 3, 1), 3, 0, 0, []), some ((.iconst 1, 1), 0, 0, 1, []), some ((.iadd, 1), 0, 0, 0, [])],
  [some ((.iaload, 1), 0, 0, 0, []), some ((.invokevirtual 157, 3), 206, 2, 0, [(0, 10)]), none, none, some ((.if_icmp .eq 305, 3), 1573, 0, 0, []), none, none, some ((.iconst 0, 1), 0, 0, 0, []), some ((.ireturn, 1), 0, 0, 0, []), some ((.aload_n 1, 1), 1, 0, 0, []), some ((.aload_n 0, 1), 0, 0, 0, []), some ((.iload_n 3, 1), 3, 0, 0, []), some ((.iconst 1, 1), 0, 0, 1, []), some ((.iadd, 1), 0, 0, 0, []), some ((.iaload, 1), 0, 0, 0, []), some ((.aload_n 0, 1), 0, 0, 0, [])],
  [some ((.iload_n 3, 1), 3, 0, 0, []), some ((.iconst 2, 1), 0, 0, 2, []), some ((.iadd, 1), 0, 0, 0, []), some ((.iaload, 1), 0, 0, 0, []), some ((.aload_n 0, 1), 0, 0, 0, []), some ((.iload_n 3, 1), 3, 0, 0, []), some ((.iconst 3, 1), 0, 0, 3, []), some ((.iadd, 1), 0, 0, 0, []), some ((.iaload, 1), 0, 0, 0, []), some ((.aload_n 0, 1), 0, 0, 0, []), some ((.iload_n 3, 1), 3, 0, 0, []), some ((.iconst 4, 1), 0, 0, 4, []), some ((.iadd, 1), 0, 0, 0, []), some ((.iaload, 1), 0, 0, 0, []), some ((.aload_n 0, 1), 0, 0, 0, []), some ((.iload_n 3, 1), 3, 0, 0, [])],
  [some ((.iconst 5, 1), 0, 0, 5, []), some ((.iadd, 1), 0, 0, 0, []), some ((.iaload, 1), 0, 0, 0, []), some ((.invokevirtual 158, 3), 101, 6, 0, [(0, 9)]), none, none, some ((.aload_n 2, 1), 2, 0, 0, []), some ((.aload_n 0, 1), 0, 0, 0, []), some ((.iload_n 3, 1), 3, 0, 0, []), some ((.iconst 1, 1), 0, 0, 1, []), some ((.iadd, 1), 0, 0, 0, []), some ((.iaload, 1), 0, 0, 0, []), some ((.aload_n 0, 1), 0, 0, 0, []), some ((.iload_n 3, 1), 3, 0, 0, []), some ((.iconst 2, 1), 0, 0, 2, []), some ((.iadd, 1), 0, 0, 0, [])],
  [some ((.iaload, 1), 0, 0, 0, []), some ((.aload_n 0, 1), 0, 0, 0, []), some ((.iload_n 3, 1), 3, 0, 0, []), some ((.iconst 3, 1), 0, 0, 3, []), some ((.iadd, 1), 0, 0, 0, []), some ((.iaload, 1), 0, 0, 0, []), some ((.aload_n 0, 1), 0, 0, 0, []), some ((.iload_n 3, 1), 3, 0, 0, []), some ((.iconst 4, 1), 0, 0, 4, []), some ((.iadd, 1), 0, 0, 0, []), some ((.iaload, 1), 0, 0, 0, []), some ((.aload_n 0, 1), 0, 0, 0, []), some ((.iload_n 3, 1), 3, 0, 0, []), some ((.iconst 5, 1), 0, 0, 5, []), some ((.iadd, 1), 0, 0, 0, []), some ((.iaload, 1), 0, 0, 0, [])],
  [some ((.invokevirtual 162, 3), 207, 6, 0, [(0, 10)]), none, none, some ((.if_icmp .eq 242, 3), 1573, 0, 0, []), none, none, some ((.iconst 0, 1), 0, 0, 0, []), some ((.ireturn, 1), 0, 0, 0, []), some ((.aload_n 1, 1), 1, 0, 0, []), some ((.aload_n 0, 1), 0, 0, 0, []), some ((.iload_n 3, 1), 3, 0, 0, []), some ((.iconst 1, 1), 0, 0, 1, []), some ((.iadd, 1), 0, 0, 0, []), some ((.iaload, 1), 0, 0, 0, []), some ((.aload_n 0, 1), 0, 0, 0, []), some ((.iload_n 3, 1), 3, 0, 0, [])],
  [some ((.iconst 2, 1), 0, 0, 2, []), some ((.iadd, 1), 0, 0, 0, []), some ((.iaload, 1), 0, 0, 0, []), some ((.aload_n 0, 1), 0, 0, 0, []), some ((.iload_n 3, 1), 3, 0, 0, []), some ((.iconst 3, 1), 0, 0, 3, []), some ((.iadd, 1), 0, 0, 0, []), some ((.iaload, 1), 0, 0, 0, []), some ((.invokevirtual 163, 3), 102, 4, 0, [(0, 9)]), none, none, some ((.aload_n 2, 1), 2, 0, 0, []), some ((.aload_n 0, 1), 0, 0, 0, []), some ((.iload_n 3, 1), 3, 0, 0, []), some ((.iconst 1, 1), 0, 0, 1, []), some ((.iadd, 1), 0, 0, 0, [])],
  [some ((.iaload, 1), 0, 0, 0, []), some ((.aload_n 0, 1), 0, 0, 0, []), some ((.iload_n 3, 1), 3, 0, 0, []), some ((.iconst 2, 1), 0, 0, 2, []), some ((.iadd, 1), 0, 0, 0, []), some ((.iaload, 1), 0, 0, 0, []), some ((.aload_n 0, 1), 0, 0, 0, []), some ((.iload_n 3, 1), 3, 0, 0, []), some ((.iconst 3, 1), 0, 0, 3, []), some ((.iadd, 1), 0, 0, 0, []), some ((.iaload, 1), 0, 0, 0, []), some ((.invokevirtual 166, 3), 208, 4, 0, [(0, 10)]), none, none, some ((.if_icmp .eq 199, 3), 1573, 0, 0, []), none],
  [none, some ((.iconst 0, 1), 0, 0, 0, []), some ((.ireturn, 1), 0, 0, 0, []), some ((.aload_n 1, 1), 1, 0, 0, []), some ((.aload_n 0, 1), 0, 0, 0, []), some ((.iload_n 3, 1), 3, 0, 0, []), some ((.iconst 1, 1), 0, 0, 1, []), some ((.iadd, 1), 0, 0, 0, []), some ((.iaload, 1), 0, 0, 0, []), some ((.aload_n 0, 1), 0, 0, 0, []), some ((.iload_n 3, 1), 3, 0, 0, []), some ((.iconst 2, 1), 0, 0, 2, []), some ((.iadd, 1), 0, 0, 0, []), some ((.iaload, 1), 0, 0, 0, []), some ((.invokevirtual 167, 3), 103, 3, 0, [(0, 9)]), none],
  [none, some ((.aload_n 2, 1), 2, 0, 0, []), some ((.aload_n 0, 1), 0, 0, 0, []), some ((.iload_n 3, 1), 3, 0, 0, []), some ((.iconst 1, 1), 0, 0, 1, []), some ((.iadd, 1), 0, 0, 0, []), some ((.iaload, 1), 0, 0, 0, []), some ((.aload_n 0, 1), 0, 0, 0, []), some ((.iload_n 3, 1), 3, 0, 0, []), some ((.iconst 2, 1), 0, 0, 2, []), some ((.iadd, 1), 0, 0, 0, []), some ((.iaload, 1), 0, 0, 0, []), some ((.invokevirtual 170, 3), 209, 3, 0, [(0, 10)]), none, none, some ((.if_icmp .eq 166, 3), 1573, 0, 0, [])],
  [none, none, some ((.iconst 0, 1), 0, 0, 0, []), some ((.ireturn, 1), 0, 0, 0, []), some ((.aload_n 1, 1), 1, 0, 0, []), some ((.aload_n 0, 1), 0, 0, 0, []), some ((.iload_n 3, 1), 3, 0, 0, []), some ((.iconst 1, 1), 0, 0, 1, []), some ((.iadd, 1), 0, 0, 0, []), some ((.iaload, 1), 0, 0, 0, []), some ((.aload_n 0, 1), 0, 0, 0, []), some ((.iload_n 3, 1), 3, 0, 0, []), some ((.iconst 2, 1), 0, 0, 2, []), some ((.iadd, 1), 0, 0, 0, []), some ((.iaload, 1), 0, 0, 0, []), some ((.invokevirtual 171, 3), 104, 3, 0, [(0, 9)])],
  [none, none, some ((.aload_n 2, 1), 2, 0, 0, []), some ((.aload_n 0, 1), 0, 0, 0, []), some ((.iload_n 3, 1), 3, 0, 0, []), some ((.iconst 1, 1), 0, 0, 1, []), some ((.iadd, 1), 0, 0, 0, []), some ((.iaload, 1), 0, 0, 0, []), some ((.aload_n 0, 1), 0, 0, 0, []), some ((.iload_n 3, 1), 3, 0, 0, []), some ((.iconst 2, 1), 0, 0, 2, []), some ((.iadd, 1), 0, 0, 0, []), some ((.iaload, 1), 0, 0, 0, []), some ((.invokevirtual 174, 3), 210, 3, 0, [(0, 10)]), none, none],
  [some ((.if_icmp .eq 133, 3), 1573, 0, 0, []), none, none, some ((.iconst 0, 1), 0, 0, 0, []), some ((.ireturn, 1), 0, 0, 0, []), some ((.aload_n 1, 1), 1, 0, 0, []), some ((.aload_n 0, 1), 0, 0, 0, []), some ((.iload_n 3, 1), 3, 0, 0, []), some ((.iconst 1, 1), 0, 0, 1, []), some ((.iadd, 1), 0, 0, 0, []), some ((.iaload, 1), 0, 0, 0, []), some ((.aload_n 0, 1), 0, 0, 0, []), some ((.iload_n 3, 1), 3, 0, 0, []), some ((.iconst 2, 1), 0, 0, 2, []), some ((.iadd, 1), 0, 0, 0, []), some ((.iaload, 1), 0, 0, 0, [])],
  [some ((.invokevirtual 175, 3), 105, 3, 0, [(0, 9)]), none, none, some ((.aload_n 2, 1), 2, 0, 0, []), some ((.aload_n 0, 1), 0, 0, 0, []), some ((.iload_n 3, 1), 3, 0, 0, []), some ((.iconst 1, 1), 0, 0, 1, []), some ((.iadd, 1), 0, 0, 0, []), some ((.iaload, 1), 0, 0, 0, []), some ((.aload_n 0, 1), 0, 0, 0, []), some ((.iload_n 3, 1), 3, 0, 0, []), some ((.iconst 2, 1), 0, 0, 2, []), some ((.iadd, 1), 0, 0, 0, []), some ((.iaload, 1), 0, 0, 0, []), some ((.invokevirtual 178, 3), 211, 3, 0, [(0, 10)]), none],
  [none, some ((.if_icmp .eq 100, 3), 1573, 0, 0, []), none, none, some ((.iconst 0, 1), 0, 0, 0, []), some ((.ireturn, 1), 0, 0, 0, []), some ((.aload_n 1, 1), 1, 0, 0, []), some ((.aload_n 0, 1), 0, 0, 0, []), some ((.iload_n 3, 1), 3, 0, 0, []), some ((.iconst 1, 1), 0, 0, 1, []), some ((.iadd, 1), 0, 0, 0, []), some ((.iaload, 1), 0, 0, 0, []), some ((.invokevirtual 179, 3), 106, 2, 0, [(0, 9)]), none, none, some ((.aload_n 2, 1), 2, 0, 0, [])],
  [some ((.aload_n 0, 1), 0, 0, 0, []), some ((.iload_n 3, 1), 3, 0, 0, []), some ((.iconst 1, 1), 0, 0, 1, []), some ((.iadd, 1), 0, 0, 0, []), some ((.iaload, 1), 0, 0, 0, []), some ((.invokevirtual 182, 3), 212, 2, 0, [(0, 10)]), none, none, some ((.if_icmp .eq 77, 3), 1573, 0, 0, []), none, none, some ((.iconst 0, 1), 0, 0, 0, []), some ((.ireturn, 1), 0, 0, 0, []), some ((.aload_n 1, 1), 1, 0, 0, []), some ((.aload_n 0, 1), 0, 0, 0, []), some ((.iload_n 3, 1), 3, 0, 0, [])],
  [some ((.iconst 1, 1), 0, 0, 1, []), some ((.iadd, 1), 0, 0, 0, []), some ((.iaload, 1), 0, 0, 0, []), some ((.invokevirtual 183, 3), 107, 2, 0, [(0, 9)]), none, none, some ((.aload_n 2, 1), 2, 0, 0, []), some ((.aload_n 0, 1), 0, 0, 0, []), some ((.iload_n 3, 1), 3, 0, 0, []), some ((.iconst 1, 1), 0, 0, 1, []), some ((.iadd, 1), 0, 0, 0, []), some ((.iaload, 1), 0, 0, 0, []), some ((.invokevirtual 186, 3), 213, 2, 0, [(0, 10)]), none, none, some ((.if_icmp .eq 54, 3), 1573, 0, 0, [])],
  [none, none, some ((.iconst 0, 1), 0, 0, 0, []), some ((.ireturn, 1), 0, 0, 0, []), some ((.aload_n 1, 1), 1, 0, 0, []), some ((.invokevirtual 187, 3), 108, 1, 0, [(0, 9)]), none, none, some ((.aload_n 2, 1), 2, 0, 0, []), some ((.invokevirtual 190, 3), 214, 1, 0, [(0, 10)]), none, none, some ((.if_icmp .eq 41, 3), 1573, 0, 0, []), none, none, some ((.iconst 0, 1), 0, 0, 0, [])],
  [some ((.ireturn, 1), 0, 0, 0, []), some ((.aload_n 1, 1), 1, 0, 0, []), some ((.invokevirtual 191, 3), 109, 1, 0, [(0, 9)]), none, none, some ((.aload_n 2, 1), 2, 0, 0, []), some ((.invokevirtual 194, 3), 215, 1, 0, [(0, 10)]), none, none, some ((.if_icmp .eq 28, 3), 1573, 0, 0, []), none, none, some ((.iconst 0, 1), 0, 0, 0, []), some ((.ireturn, 1), 0, 0, 0, []), some ((.aload_n 1, 1), 1, 0, 0, []), some ((.aload_n 0, 1), 0, 0, 0, [])],
  [some ((.iload_n 3, 1), 3, 0, 0, []), some ((.iconst 1, 1), 0, 0, 1, []), some ((.iadd, 1), 0, 0, 0, []), some ((.iaload, 1), 0, 0, 0, []), some ((.invokevirtual 195, 3), 110, 2, 0, [(0, 9)]), none, none, some ((.aload_n 2, 1), 2, 0, 0, []), some ((.aload_n 0, 1), 0, 0, 0, []), some ((.iload_n 3, 1), 3, 0, 0, []), some ((.iconst 1, 1), 0, 0, 1, []), some ((.iadd, 1), 0, 0, 0, []), some ((.iaload, 1), 0, 0, 0, []), some ((.invokevirtual 198, 3), 216, 2, 0, [(0, 10)]), none, none],
  [some ((.if_icmp .eq 5, 3), 1573, 0, 0, []), none, none, some ((.iconst 0, 1), 0, 0, 0, []), some ((.ireturn, 1), 0, 0, 0, []), some ((.iinc 3 6, 3), 3, 0, 6, []), none, none, some ((.goto (-1558), 3), 18, 0, 0, []), none, none, some ((.iconst 1, 1), 0, 0, 1, []), some ((.ireturn, 1), 0, 0, 0, [])]]
def RO (o : Nat) : String := match o with
  | 0 => RX0
  | 1 => RX1
  | 2 => RX2
  | 3 => RX3
  | 4 => RX4
  | 5 => RX5
  | 6 => RX6
  | 7 => RX7
  | 8 => RX8
  | 9 => RX9
  | 10 => RX10
  | 11 => RL
  | 12 => RJ0
  | 13 => RJ1
  | 14 => RJ3
  | 15 => RJ6
  | 16 => RJ9
  | _ => ""
abbrev r_X0_becomeAs : MRec := (0, 0, yX0_becomeAs, cX0_becomeAs, 2, none, T_X0_becomeAs)
abbrev r_X0_isOf : MRec := (0, 0, yX0_isOf, cX0_isOf, 2, (some .boolean), T_X0_isOf)
abbrev r_X0_wide : MRec := (0, 0, yX0_wide, cX0_wide, 1, (some .int), T_X0_wide)
abbrev r_X0_takes : MRec := (0, 0, yX0_takes, cX0_takes, 3, (some .int), T_X0_takes)
abbrev r_X0_leads : MRec := (0, 0, yX0_leads, cX0_leads, 1, (some .int), T_X0_leads)
abbrev r_X0_worth : MRec := (0, 0, yX0_worth, cX0_worth, 2, (some .int), T_X0_worth)
abbrev r_X0_swings : MRec := (0, 0, yX0_swings, cX0_swings, 2, none, T_X0_swings)
abbrev r_X1_becomeAs : MRec := (1, 0, yX1_becomeAs, cX1_becomeAs, 3, none, T_X1_becomeAs)
abbrev r_X1_addBed : MRec := (1, 0, yX1_addBed, cX1_addBed, 6, (some .int), T_X1_addBed)
abbrev r_X1_addOne : MRec := (1, 0, yX1_addOne, cX1_addOne, 4, (some .int), T_X1_addOne)
abbrev r_X1_draw : MRec := (1, 0, yX1_draw, cX1_draw, 1, (some .int), T_X1_draw)
abbrev r_X1_lawOf : MRec := (1, 0, yX1_lawOf, cX1_lawOf, 2, (some .int), T_X1_lawOf)
abbrev r_X1_hours : MRec := (1, 0, yX1_hours, cX1_hours, 3, (some .int), T_X1_hours)
abbrev r_X1_presentIn : MRec := (1, 0, yX1_presentIn, cX1_presentIn, 4, (some .int), T_X1_presentIn)
abbrev r_X1_thoseIn : MRec := (1, 0, yX1_thoseIn, cX1_thoseIn, 4, (some .int), T_X1_thoseIn)
abbrev r_X1_isAtHome : MRec := (1, 0, yX1_isAtHome, cX1_isAtHome, 2, (some .boolean), T_X1_isAtHome)
abbrev r_X1_thoseAtHome : MRec := (1, 0, yX1_thoseAtHome, cX1_thoseAtHome, 3, (some .int), T_X1_thoseAtHome)
abbrev r_X1_thoseGone : MRec := (1, 0, yX1_thoseGone, cX1_thoseGone, 3, (some .int), T_X1_thoseGone)
abbrev r_X1_passNights : MRec := (1, 0, yX1_passNights, cX1_passNights, 3, none, T_X1_passNights)
abbrev r_X1_passNight : MRec := (1, 0, yX1_passNight, cX1_passNight, 1, none, T_X1_passNight)
abbrev r_X1_lieDown : MRec := (1, 0, yX1_lieDown, cX1_lieDown, 4, none, T_X1_lieDown)
abbrev r_X1_freeBedAt : MRec := (1, 0, yX1_freeBedAt, cX1_freeBedAt, 3, (some .int), T_X1_freeBedAt)
abbrev r_X1_wake : MRec := (1, 0, yX1_wake, cX1_wake, 3, none, T_X1_wake)
abbrev r_X1_wakeThoseIn : MRec := (1, 0, yX1_wakeThoseIn, cX1_wakeThoseIn, 6, none, T_X1_wakeThoseIn)
abbrev r_X1_carryOne : MRec := (1, 0, yX1_carryOne, cX1_carryOne, 3, none, T_X1_carryOne)
abbrev r_X1_nightsUntilHome : MRec := (1, 0, yX1_nightsUntilHome, cX1_nightsUntilHome, 4, (some .int), T_X1_nightsUntilHome)
abbrev r_X1_nightsTold : MRec := (1, 0, yX1_nightsTold, cX1_nightsTold, 5, (some .int), T_X1_nightsTold)
abbrev r_X2_counting : MRec := (2, 0, yX2_counting, cX2_counting, 4, (some .int), T_X2_counting)
abbrev r_X2_value : MRec := (2, 0, yX2_value, cX2_value, 9, (some .int), T_X2_value)
abbrev r_X2_joined : MRec := (2, 1, yX2_joined, cX2_joined, 3, (some .int), T_X2_joined)
abbrev r_X3_becomeAs : MRec := (3, 0, yX3_becomeAs, cX3_becomeAs, 2, none, T_X3_becomeAs)
abbrev r_X4_take : MRec := (4, 0, yX4_take, cX4_take, 3, none, T_X4_take)
abbrev r_X4_readsText : MRec := (4, 0, yX4_readsText, cX4_readsText, 3, (some .boolean), T_X4_readsText)
abbrev r_X4_goOn : MRec := (4, 0, yX4_goOn, cX4_goOn, 3, none, T_X4_goOn)
abbrev r_X4_readNumber : MRec := (4, 0, yX4_readNumber, cX4_readNumber, 1, none, T_X4_readNumber)
abbrev r_X4_readLetters : MRec := (4, 0, yX4_readLetters, cX4_readLetters, 1, none, T_X4_readLetters)
abbrev r_X4_isDigit : MRec := (4, 0, yX4_isDigit, cX4_isDigit, 2, (some .boolean), T_X4_isDigit)
abbrev r_X4_isLetter : MRec := (4, 0, yX4_isLetter, cX4_isLetter, 2, (some .boolean), T_X4_isLetter)
abbrev r_X4_isSign : MRec := (4, 0, yX4_isSign, cX4_isSign, 2, (some .boolean), T_X4_isSign)
abbrev r_X4_isWord : MRec := (4, 0, yX4_isWord, cX4_isWord, 3, (some .boolean), T_X4_isWord)
abbrev r_X4_keyHere : MRec := (4, 0, yX4_keyHere, cX4_keyHere, 1, (some .int), T_X4_keyHere)
abbrev r_X4_namesOf : MRec := (4, 1, yX4_namesOf, cX4_namesOf, 1, (some (.object "java/lang/String")), T_X4_namesOf)
abbrev r_X4_nameHere : MRec := (4, 0, yX4_nameHere, cX4_nameHere, 1, (some .int), T_X4_nameHere)
abbrev r_X4_signsOf : MRec := (4, 1, yX4_signsOf, cX4_signsOf, 1, (some (.object "java/lang/String")), T_X4_signsOf)
abbrev r_X4_isJoined : MRec := (4, 0, yX4_isJoined, cX4_isJoined, 2, (some .boolean), T_X4_isJoined)
abbrev r_X4_readsLevel : MRec := (4, 0, yX4_readsLevel, cX4_readsLevel, 7, (some .boolean), T_X4_readsLevel)
abbrev r_X4_readsPiece : MRec := (4, 0, yX4_readsPiece, cX4_readsPiece, 3, (some .boolean), T_X4_readsPiece)
abbrev r_X4_readsName : MRec := (4, 0, yX4_readsName, cX4_readsName, 2, (some .boolean), T_X4_readsName)
abbrev r_X4_readsNegated : MRec := (4, 0, yX4_readsNegated, cX4_readsNegated, 3, (some .boolean), T_X4_readsNegated)
abbrev r_X4_readsBracket : MRec := (4, 0, yX4_readsBracket, cX4_readsBracket, 3, (some .boolean), T_X4_readsBracket)
abbrev r_X5_isMissing : MRec := (5, 0, yX5_isMissing, cX5_isMissing, 1, (some .boolean), T_X5_isMissing)
abbrev r_X5_has : MRec := (5, 0, yX5_has, cX5_has, 2, (some .boolean), T_X5_has)
abbrev r_X5_hasAll : MRec := (5, 0, yX5_hasAll, cX5_hasAll, 3, (some .boolean), T_X5_hasAll)
abbrev r_X5_isNumber : MRec := (5, 0, yX5_isNumber, cX5_isNumber, 2, (some .boolean), T_X5_isNumber)
abbrev r_X5_clear : MRec := (5, 0, yX5_clear, cX5_clear, 4, none, T_X5_clear)
abbrev r_X5_becomeAs : MRec := (5, 0, yX5_becomeAs, cX5_becomeAs, 2, none, T_X5_becomeAs)
abbrev r_X7_begin : MRec := (7, 0, yX7_begin, cX7_begin, 2, none, T_X7_begin)
abbrev r_X7_addLeaf : MRec := (7, 0, yX7_addLeaf, cX7_addLeaf, 2, none, T_X7_addLeaf)
abbrev r_X7_addSign : MRec := (7, 0, yX7_addSign, cX7_addSign, 2, none, T_X7_addSign)
abbrev r_X7_add : MRec := (7, 0, yX7_add, cX7_add, 2, none, T_X7_add)
abbrev r_X8_oneFurther : MRec := (8, 0, yX8_oneFurther, cX8_oneFurther, 5, (some .int), T_X8_oneFurther)
abbrev r_X8_reachOf : MRec := (8, 0, yX8_reachOf, cX8_reachOf, 5, (some .int), T_X8_reachOf)
abbrev r_X8_steps : MRec := (8, 0, yX8_steps, cX8_steps, 5, (some .int), T_X8_steps)
abbrev r_X8_reachedWithout : MRec := (8, 0, yX8_reachedWithout, cX8_reachedWithout, 4, (some .int), T_X8_reachedWithout)
abbrev r_X8_comingTo : MRec := (8, 0, yX8_comingTo, cX8_comingTo, 4, (some .int), T_X8_comingTo)
abbrev r_X8_lacking : MRec := (8, 0, yX8_lacking, cX8_lacking, 8, (some .int), T_X8_lacking)
abbrev r_X9_bed : MRec := (9, 0, yX9_bed, cX9_bed, 5, (some .int), T_X9_bed)
abbrev r_X9_told : MRec := (9, 0, yX9_told, cX9_told, 4, (some .int), T_X9_told)
abbrev r_X9_as : MRec := (9, 0, yX9_as, cX9_as, 4, (some .int), T_X9_as)
abbrev r_X9_turns : MRec := (9, 0, yX9_turns, cX9_turns, 5, (some .int), T_X9_turns)
abbrev r_X9_set : MRec := (9, 0, yX9_set, cX9_set, 6, (some .int), T_X9_set)
abbrev r_X9_carry : MRec := (9, 0, yX9_carry, cX9_carry, 3, (some .int), T_X9_carry)
abbrev r_X9_deal : MRec := (9, 0, yX9_deal, cX9_deal, 7, (some .int), T_X9_deal)
abbrev r_X9_seed : MRec := (9, 0, yX9_seed, cX9_seed, 3, (some .int), T_X9_seed)
abbrev r_X9_one : MRec := (9, 0, yX9_one, cX9_one, 3, (some .int), T_X9_one)
abbrev r_X9_folk : MRec := (9, 0, yX9_folk, cX9_folk, 4, (some .int), T_X9_folk)
abbrev r_X9_sends : MRec := (9, 0, yX9_sends, cX9_sends, 6, (some .int), T_X9_sends)
abbrev r_X9_who : MRec := (9, 0, yX9_who, cX9_who, 2, (some .int), T_X9_who)
abbrev r_X9_nights : MRec := (9, 0, yX9_nights, cX9_nights, 5, (some .int), T_X9_nights)
abbrev r_X9_land : MRec := (9, 0, yX9_land, cX9_land, 2, (some .int), T_X9_land)
abbrev r_X9_reach : MRec := (9, 0, yX9_reach, cX9_reach, 2, (some .int), T_X9_reach)
abbrev r_X9_way : MRec := (9, 0, yX9_way, cX9_way, 4, (some .int), T_X9_way)
abbrev r_X9_lacks : MRec := (9, 0, yX9_lacks, cX9_lacks, 1, (some .int), T_X9_lacks)
abbrev r_X9_missed : MRec := (9, 0, yX9_missed, cX9_missed, 6, (some .int), T_X9_missed)
abbrev r_X9_behind : MRec := (9, 0, yX9_behind, cX9_behind, 3, (some .int), T_X9_behind)
abbrev r_X9_home : MRec := (9, 0, yX9_home, cX9_home, 3, (some .int), T_X9_home)
abbrev r_X9_brought : MRec := (9, 0, yX9_brought, cX9_brought, 9, (some .int), T_X9_brought)
abbrev r_X9_belongs : MRec := (9, 0, yX9_belongs, cX9_belongs, 8, (some .int), T_X9_belongs)
abbrev r_X9_becomes : MRec := (9, 0, yX9_becomes, cX9_becomes, 8, (some .int), T_X9_becomes)
abbrev r_X9_whose : MRec := (9, 0, yX9_whose, cX9_whose, 8, (some .int), T_X9_whose)
abbrev r_X9_fee : MRec := (9, 0, yX9_fee, cX9_fee, 2, (some .int), T_X9_fee)
abbrev r_X9_fine : MRec := (9, 0, yX9_fine, cX9_fine, 4, (some .int), T_X9_fine)
abbrev r_X9_feed : MRec := (9, 0, yX9_feed, cX9_feed, 4, (some .int), T_X9_feed)
abbrev r_X9_trim : MRec := (9, 0, yX9_trim, cX9_trim, 2, (some .int), T_X9_trim)
abbrev r_X9_text : MRec := (9, 0, yX9_text, cX9_text, 4, (some .int), T_X9_text)
abbrev r_X9_textTold : MRec := (9, 0, yX9_textTold, cX9_textTold, 4, (some .int), T_X9_textTold)
abbrev r_X9_why : MRec := (9, 0, yX9_why, cX9_why, 3, (some .int), T_X9_why)
abbrev r_X9_sheet : MRec := (9, 0, yX9_sheet, cX9_sheet, 4, (some .int), T_X9_sheet)
abbrev r_X9_mark : MRec := (9, 0, yX9_mark, cX9_mark, 5, (some .int), T_X9_mark)
abbrev r_X9_pour : MRec := (9, 0, yX9_pour, cX9_pour, 6, (some .int), T_X9_pour)
abbrev r_X9_reads : MRec := (9, 0, yX9_reads, cX9_reads, 4, (some .int), T_X9_reads)
abbrev r_X9_copy : MRec := (9, 0, yX9_copy, cX9_copy, 8, (some .int), T_X9_copy)
abbrev r_X9_lay : MRec := (9, 0, yX9_lay, cX9_lay, 6, (some .int), T_X9_lay)
abbrev r_X9_ask : MRec := (9, 0, yX9_ask, cX9_ask, 4, (some .int), T_X9_ask)
abbrev r_X9_item : MRec := (9, 0, yX9_item, cX9_item, 4, (some .int), T_X9_item)
abbrev r_X9_rest : MRec := (9, 0, yX9_rest, cX9_rest, 4, (some .int), T_X9_rest)
abbrev r_X9_tell : MRec := (9, 0, yX9_tell, cX9_tell, 2, (some .int), T_X9_tell)
abbrev r_X9_check : MRec := (9, 0, yX9_check, cX9_check, 5, (some .int), T_X9_check)
abbrev r_X9_keep : MRec := (9, 0, yX9_keep, cX9_keep, 1, (some .int), T_X9_keep)
abbrev r_X9_back : MRec := (9, 0, yX9_back, cX9_back, 1, (some .int), T_X9_back)
abbrev r_X9_count : MRec := (9, 0, yX9_count, cX9_count, 2, (some .int), T_X9_count)
abbrev r_X9_isBed : MRec := (9, 0, yX9_isBed, cX9_isBed, 2, (some .boolean), T_X9_isBed)
abbrev r_X9_isOne : MRec := (9, 0, yX9_isOne, cX9_isOne, 2, (some .boolean), T_X9_isOne)
abbrev r_X9_isTown : MRec := (9, 1, yX9_isTown, cX9_isTown, 1, (some .boolean), T_X9_isTown)
abbrev r_X9_isKind : MRec := (9, 1, yX9_isKind, cX9_isKind, 1, (some .boolean), T_X9_isKind)
abbrev r_X9_isSheet : MRec := (9, 1, yX9_isSheet, cX9_isSheet, 1, (some .boolean), T_X9_isSheet)
abbrev r_X9_isSlot : MRec := (9, 1, yX9_isSlot, cX9_isSlot, 1, (some .boolean), T_X9_isSlot)
abbrev r_X9_mostOfOne : MRec := (9, 1, yX9_mostOfOne, cX9_mostOfOne, 1, (some .int), T_X9_mostOfOne)
abbrev r_X9_within : MRec := (9, 1, yX9_within, cX9_within, 2, (some .int), T_X9_within)
abbrev r_X9_rightAhead : MRec := (9, 0, yX9_rightAhead, cX9_rightAhead, 5, (some .int), T_X9_rightAhead)
abbrev r_X10_in : MRec := (10, 1, yX10_in, cX10_in, 3, (some .boolean), T_X10_in)
abbrev r_X10_within : MRec := (10, 1, yX10_within, cX10_within, 3, (some .int), T_X10_within)
abbrev r_X10_copyAll : MRec := (10, 1, yX10_copyAll, cX10_copyAll, 3, none, T_X10_copyAll)
abbrev r_X10_isBed : MRec := (10, 0, yX10_isBed, cX10_isBed, 2, (some .boolean), T_X10_isBed)
abbrev r_X10_isOne : MRec := (10, 0, yX10_isOne, cX10_isOne, 2, (some .boolean), T_X10_isOne)
abbrev r_X10_isTown : MRec := (10, 1, yX10_isTown, cX10_isTown, 1, (some .boolean), T_X10_isTown)
abbrev r_X10_of : MRec := (10, 0, yX10_of, cX10_of, 3, (some .int), T_X10_of)
abbrev r_X10_put : MRec := (10, 0, yX10_put, cX10_put, 4, none, T_X10_put)
abbrev r_X10_by : MRec := (10, 0, yX10_by, cX10_by, 3, (some .int), T_X10_by)
abbrev r_X10_lays : MRec := (10, 0, yX10_lays, cX10_lays, 4, none, T_X10_lays)
abbrev r_X10_swaps : MRec := (10, 0, yX10_swaps, cX10_swaps, 4, (some .int), T_X10_swaps)
abbrev r_X10_comes : MRec := (10, 0, yX10_comes, cX10_comes, 6, (some .int), T_X10_comes)
abbrev r_X10_bed : MRec := (10, 0, yX10_bed, cX10_bed, 5, (some .int), T_X10_bed)
abbrev r_X10_wideOf : MRec := (10, 0, yX10_wideOf, cX10_wideOf, 2, (some .int), T_X10_wideOf)
abbrev r_X10_takesTo : MRec := (10, 0, yX10_takesTo, cX10_takesTo, 3, (some .int), T_X10_takesTo)
abbrev r_X10_leadsTo : MRec := (10, 0, yX10_leadsTo, cX10_leadsTo, 3, (some .int), T_X10_leadsTo)
abbrev r_X10_worthOf : MRec := (10, 0, yX10_worthOf, cX10_worthOf, 4, (some .int), T_X10_worthOf)
abbrev r_X10_told : MRec := (10, 0, yX10_told, cX10_told, 3, (some .int), T_X10_told)
abbrev r_X10_isUnder : MRec := (10, 1, yX10_isUnder, cX10_isUnder, 2, (some .boolean), T_X10_isUnder)
abbrev r_X10_as : MRec := (10, 0, yX10_as, cX10_as, 3, (some .int), T_X10_as)
abbrev r_X10_turns : MRec := (10, 0, yX10_turns, cX10_turns, 3, (some .int), T_X10_turns)
abbrev r_X10_set : MRec := (10, 0, yX10_set, cX10_set, 4, (some .int), T_X10_set)
abbrev r_X10_carry : MRec := (10, 0, yX10_carry, cX10_carry, 2, (some .int), T_X10_carry)
abbrev r_X10_draw : MRec := (10, 0, yX10_draw, cX10_draw, 1, (some .int), T_X10_draw)
abbrev r_X10_deal : MRec := (10, 0, yX10_deal, cX10_deal, 7, (some .int), T_X10_deal)
abbrev r_X10_seed : MRec := (10, 0, yX10_seed, cX10_seed, 2, (some .int), T_X10_seed)
abbrev r_X10_one : MRec := (10, 0, yX10_one, cX10_one, 4, (some .int), T_X10_one)
abbrev r_X10_thereIn : MRec := (10, 0, yX10_thereIn, cX10_thereIn, 4, (some .int), T_X10_thereIn)
abbrev r_X10_hoursGive : MRec := (10, 0, yX10_hoursGive, cX10_hoursGive, 4, (some .int), T_X10_hoursGive)
abbrev r_X10_folk : MRec := (10, 0, yX10_folk, cX10_folk, 3, (some .int), T_X10_folk)
abbrev r_X10_sends : MRec := (10, 0, yX10_sends, cX10_sends, 4, (some .int), T_X10_sends)
abbrev r_X10_who : MRec := (10, 0, yX10_who, cX10_who, 4, (some .int), T_X10_who)
abbrev r_X10_manyOf : MRec := (10, 1, yX10_manyOf, cX10_manyOf, 3, (some .int), T_X10_manyOf)
abbrev r_X10_bedFor : MRec := (10, 0, yX10_bedFor, cX10_bedFor, 3, (some .int), T_X10_bedFor)
abbrev r_X10_liesDown : MRec := (10, 0, yX10_liesDown, cX10_liesDown, 3, none, T_X10_liesDown)
abbrev r_X10_wakes : MRec := (10, 0, yX10_wakes, cX10_wakes, 6, none, T_X10_wakes)
abbrev r_X10_night : MRec := (10, 0, yX10_night, cX10_night, 3, none, T_X10_night)
abbrev r_X10_goesOn : MRec := (10, 0, yX10_goesOn, cX10_goesOn, 3, none, T_X10_goesOn)
abbrev r_X10_nights : MRec := (10, 0, yX10_nights, cX10_nights, 3, (some .int), T_X10_nights)
abbrev r_X10_isHome : MRec := (10, 0, yX10_isHome, cX10_isHome, 2, (some .boolean), T_X10_isHome)
abbrev r_X10_atHome : MRec := (10, 0, yX10_atHome, cX10_atHome, 3, (some .int), T_X10_atHome)
abbrev r_X10_gone : MRec := (10, 0, yX10_gone, cX10_gone, 3, (some .int), T_X10_gone)
abbrev r_X10_land : MRec := (10, 0, yX10_land, cX10_land, 2, (some .int), T_X10_land)
abbrev r_X10_looksAround : MRec := (10, 0, yX10_looksAround, cX10_looksAround, 4, none, T_X10_looksAround)
abbrev r_X10_onward : MRec := (10, 0, yX10_onward, cX10_onward, 4, (some .int), T_X10_onward)
abbrev r_X10_reach : MRec := (10, 0, yX10_reach, cX10_reach, 2, (some .int), T_X10_reach)
abbrev r_X10_way : MRec := (10, 0, yX10_way, cX10_way, 5, (some .int), T_X10_way)
abbrev r_X10_lacks : MRec := (10, 0, yX10_lacks, cX10_lacks, 8, (some .int), T_X10_lacks)
abbrev r_X10_reachedInAll : MRec := (10, 0, yX10_reachedInAll, cX10_reachedInAll, 4, (some .int), T_X10_reachedInAll)
abbrev r_X10_missed : MRec := (10, 0, yX10_missed, cX10_missed, 6, (some .int), T_X10_missed)
abbrev r_X10_thinks : MRec := (10, 0, yX10_thinks, cX10_thinks, 2, none, T_X10_thinks)
abbrev r_X10_putsBack : MRec := (10, 0, yX10_putsBack, cX10_putsBack, 2, none, T_X10_putsBack)
abbrev r_X10_behind : MRec := (10, 0, yX10_behind, cX10_behind, 4, (some .int), T_X10_behind)
abbrev r_X10_homeBy : MRec := (10, 0, yX10_homeBy, cX10_homeBy, 4, (some .int), T_X10_homeBy)
abbrev r_X10_home : MRec := (10, 0, yX10_home, cX10_home, 3, (some .int), T_X10_home)
abbrev r_X10_brought : MRec := (10, 0, yX10_brought, cX10_brought, 7, (some .int), T_X10_brought)
abbrev r_X10_mostBy : MRec := (10, 0, yX10_mostBy, cX10_mostBy, 9, (some .int), T_X10_mostBy)
abbrev r_X10_belongs : MRec := (10, 0, yX10_belongs, cX10_belongs, 4, (some .int), T_X10_belongs)
abbrev r_X10_becomes : MRec := (10, 0, yX10_becomes, cX10_becomes, 4, (some .int), T_X10_becomes)
abbrev r_X10_whose : MRec := (10, 0, yX10_whose, cX10_whose, 7, (some .int), T_X10_whose)
abbrev r_X10_fee : MRec := (10, 0, yX10_fee, cX10_fee, 2, (some .int), T_X10_fee)
abbrev r_X10_fine : MRec := (10, 0, yX10_fine, cX10_fine, 3, (some .int), T_X10_fine)
abbrev r_X10_feed : MRec := (10, 0, yX10_feed, cX10_feed, 6, (some .int), T_X10_feed)
abbrev r_X10_trim : MRec := (10, 0, yX10_trim, cX10_trim, 2, (some .int), T_X10_trim)
abbrev r_X10_isLetter : MRec := (10, 0, yX10_isLetter, cX10_isLetter, 2, (some .boolean), T_X10_isLetter)
abbrev r_X10_isFigure : MRec := (10, 0, yX10_isFigure, cX10_isFigure, 2, (some .boolean), T_X10_isFigure)
abbrev r_X10_go : MRec := (10, 0, yX10_go, cX10_go, 2, none, T_X10_go)
abbrev r_X10_takesKey : MRec := (10, 0, yX10_takesKey, cX10_takesKey, 5, (some .boolean), T_X10_takesKey)
abbrev r_X10_nameOf : MRec := (10, 0, yX10_nameOf, cX10_nameOf, 2, (some .int), T_X10_nameOf)
abbrev r_X10_rank : MRec := (10, 1, yX10_rank, cX10_rank, 1, (some .int), T_X10_rank)
abbrev r_X10_settle : MRec := (10, 0, yX10_settle, cX10_settle, 2, none, T_X10_settle)
abbrev r_X10_signHere : MRec := (10, 0, yX10_signHere, cX10_signHere, 1, (some .int), T_X10_signHere)
abbrev r_X10_takesPart : MRec := (10, 0, yX10_takesPart, cX10_takesPart, 2, (some .boolean), T_X10_takesPart)
abbrev r_X10_takesE : MRec := (10, 0, yX10_takesE, cX10_takesE, 5, (some .boolean), T_X10_takesE)
abbrev r_X10_notsOpen : MRec := (10, 0, yX10_notsOpen, cX10_notsOpen, 3, (some .int), T_X10_notsOpen)
abbrev r_X10_text : MRec := (10, 0, yX10_text, cX10_text, 4, (some .int), T_X10_text)
abbrev r_X10_textTold : MRec := (10, 0, yX10_textTold, cX10_textTold, 3, (some .int), T_X10_textTold)
abbrev r_X10_counts : MRec := (10, 0, yX10_counts, cX10_counts, 3, (some .int), T_X10_counts)
abbrev r_X10_why : MRec := (10, 0, yX10_why, cX10_why, 3, (some .int), T_X10_why)
abbrev r_X10_two : MRec := (10, 1, yX10_two, cX10_two, 3, (some .int), T_X10_two)
abbrev r_X10_worksOut : MRec := (10, 0, yX10_worksOut, cX10_worksOut, 6, (some .int), T_X10_worksOut)
abbrev r_X10_isSheet : MRec := (10, 1, yX10_isSheet, cX10_isSheet, 1, (some .boolean), T_X10_isSheet)
abbrev r_X10_isSlot : MRec := (10, 1, yX10_isSlot, cX10_isSlot, 1, (some .boolean), T_X10_isSlot)
abbrev r_X10_sheet : MRec := (10, 0, yX10_sheet, cX10_sheet, 5, (some .int), T_X10_sheet)
abbrev r_X10_mark : MRec := (10, 0, yX10_mark, cX10_mark, 4, (some .int), T_X10_mark)
abbrev r_X10_pour : MRec := (10, 0, yX10_pour, cX10_pour, 6, (some .int), T_X10_pour)
abbrev r_X10_reads : MRec := (10, 0, yX10_reads, cX10_reads, 4, (some .int), T_X10_reads)
abbrev r_X10_copy : MRec := (10, 0, yX10_copy, cX10_copy, 7, (some .int), T_X10_copy)
abbrev r_X10_lay : MRec := (10, 0, yX10_lay, cX10_lay, 6, (some .int), T_X10_lay)
abbrev r_X10_ask : MRec := (10, 0, yX10_ask, cX10_ask, 3, (some .int), T_X10_ask)
abbrev r_X10_item : MRec := (10, 0, yX10_item, cX10_item, 4, (some .int), T_X10_item)
abbrev r_X10_rest : MRec := (10, 0, yX10_rest, cX10_rest, 3, (some .int), T_X10_rest)
abbrev r_X10_tell : MRec := (10, 0, yX10_tell, cX10_tell, 2, (some .int), T_X10_tell)
abbrev r_X10_check : MRec := (10, 0, yX10_check, cX10_check, 6, (some .int), T_X10_check)
abbrev r_X10_keep : MRec := (10, 0, yX10_keep, cX10_keep, 1, (some .int), T_X10_keep)
abbrev r_X10_back : MRec := (10, 0, yX10_back, cX10_back, 1, (some .int), T_X10_back)
abbrev r_X10_count : MRec := (10, 0, yX10_count, cX10_count, 2, (some .int), T_X10_count)
abbrev r_J6_bitCount_0f7a4 : MRec := (15, 1, yJ6_bitCount_0f7a4, cJ6_bitCount_0f7a4, 1, (some .int), T_J6_bitCount_0f7a4)
abbrev r_J0_length_8abf5 : MRec := (12, 0, yJ0_length_8abf5, cJ0_length_8abf5, 1, (some .int), T_J0_length_8abf5)
abbrev r_J0_charAt_5068e : MRec := (12, 0, yJ0_charAt_5068e, cJ0_charAt_5068e, 2, (some .char), T_J0_charAt_5068e)
abbrev r_J0_indexOf_0f7a4 : MRec := (12, 0, yJ0_indexOf_0f7a4, cJ0_indexOf_0f7a4, 2, (some .int), T_J0_indexOf_0f7a4)
abbrev r_J0_indexOf_7cf53 : MRec := (12, 0, yJ0_indexOf_7cf53, cJ0_indexOf_7cf53, 3, (some .int), T_J0_indexOf_7cf53)
abbrev r_J0_coder_7d493 : MRec := (12, 0, yJ0_coder_7d493, cJ0_coder_7d493, 1, (some .byte), T_J0_coder_7d493)
abbrev r_J0_isLatin1_aae02 : MRec := (12, 0, yJ0_isLatin1_aae02, cJ0_isLatin1_aae02, 1, (some .boolean), T_J0_isLatin1_aae02)
abbrev r_J0_checkIndex_df160 : MRec := (12, 1, yJ0_checkIndex_df160, cJ0_checkIndex_df160, 2, none, T_J0_checkIndex_df160)
abbrev r_J1_charAt_3b067 : MRec := (13, 1, yJ1_charAt_3b067, cJ1_charAt_3b067, 2, (some .char), T_J1_charAt_3b067)
abbrev r_J1_canEncode_9a6ad : MRec := (13, 1, yJ1_canEncode_9a6ad, cJ1_canEncode_9a6ad, 1, (some .boolean), T_J1_canEncode_9a6ad)
abbrev r_J1_indexOf_4cfef : MRec := (13, 1, yJ1_indexOf_4cfef, cJ1_indexOf_4cfef, 4, (some .int), T_J1_indexOf_4cfef)
abbrev r_J1_indexOfChar_4cfef : MRec := (13, 1, yJ1_indexOfChar_4cfef, cJ1_indexOfChar_4cfef, 6, (some .int), T_J1_indexOfChar_4cfef)
abbrev r_J3_checkIndex_8e157 : MRec := (14, 1, yJ3_checkIndex_8e157, cJ3_checkIndex_8e157, 3, (some .int), T_J3_checkIndex_8e157)
abbrev r_L_law : MRec := (11, 1, yL_law, cL_law, 4, (some .boolean), T_L_law)
def PL : List MRec := [r_X0_becomeAs, r_X0_isOf, r_X0_wide, r_X0_takes, r_X0_leads, r_X0_worth, r_X0_swings, r_X1_becomeAs, r_X1_addBed, r_X1_addOne, r_X1_draw, r_X1_lawOf, r_X1_hours, r_X1_presentIn, r_X1_thoseIn, r_X1_isAtHome, r_X1_thoseAtHome, r_X1_thoseGone, r_X1_passNights, r_X1_passNight, r_X1_lieDown, r_X1_freeBedAt, r_X1_wake, r_X1_wakeThoseIn, r_X1_carryOne, r_X1_nightsUntilHome, r_X1_nightsTold, r_X2_counting, r_X2_value, r_X2_joined, r_X3_becomeAs, r_X4_take, r_X4_readsText, r_X4_goOn, r_X4_readNumber, r_X4_readLetters, r_X4_isDigit, r_X4_isLetter, r_X4_isSign, r_X4_isWord, r_X4_keyHere, r_X4_namesOf, r_X4_nameHere, r_X4_signsOf, r_X4_isJoined, r_X4_readsLevel, r_X4_readsPiece, r_X4_readsName, r_X4_readsNegated, r_X4_readsBracket, r_X5_isMissing, r_X5_has, r_X5_hasAll, r_X5_isNumber, r_X5_clear, r_X5_becomeAs, r_X7_begin, r_X7_addLeaf, r_X7_addSign, r_X7_add, r_X8_oneFurther, r_X8_reachOf, r_X8_steps, r_X8_reachedWithout, r_X8_comingTo, r_X8_lacking, r_X9_bed, r_X9_told, r_X9_as, r_X9_turns, r_X9_set, r_X9_carry, r_X9_deal, r_X9_seed, r_X9_one, r_X9_folk, r_X9_sends, r_X9_who, r_X9_nights, r_X9_land, r_X9_reach, r_X9_way, r_X9_lacks, r_X9_missed, r_X9_behind, r_X9_home, r_X9_brought, r_X9_belongs, r_X9_becomes, r_X9_whose, r_X9_fee, r_X9_fine, r_X9_feed, r_X9_trim, r_X9_text, r_X9_textTold, r_X9_why, r_X9_sheet, r_X9_mark, r_X9_pour, r_X9_reads, r_X9_copy, r_X9_lay, r_X9_ask, r_X9_item, r_X9_rest, r_X9_tell, r_X9_check, r_X9_keep, r_X9_back, r_X9_count, r_X9_isBed, r_X9_isOne, r_X9_isTown, r_X9_isKind, r_X9_isSheet, r_X9_isSlot, r_X9_mostOfOne, r_X9_within, r_X9_rightAhead, r_X10_in, r_X10_within, r_X10_copyAll, r_X10_isBed, r_X10_isOne, r_X10_isTown, r_X10_of, r_X10_put, r_X10_by, r_X10_lays, r_X10_swaps, r_X10_comes, r_X10_bed, r_X10_wideOf, r_X10_takesTo, r_X10_leadsTo, r_X10_worthOf, r_X10_told, r_X10_isUnder, r_X10_as, r_X10_turns, r_X10_set, r_X10_carry, r_X10_draw, r_X10_deal, r_X10_seed, r_X10_one, r_X10_thereIn, r_X10_hoursGive, r_X10_folk, r_X10_sends, r_X10_who, r_X10_manyOf, r_X10_bedFor, r_X10_liesDown, r_X10_wakes, r_X10_night, r_X10_goesOn, r_X10_nights, r_X10_isHome, r_X10_atHome, r_X10_gone, r_X10_land, r_X10_looksAround, r_X10_onward, r_X10_reach, r_X10_way, r_X10_lacks, r_X10_reachedInAll, r_X10_missed, r_X10_thinks, r_X10_putsBack, r_X10_behind, r_X10_homeBy, r_X10_home, r_X10_brought, r_X10_mostBy, r_X10_belongs, r_X10_becomes, r_X10_whose, r_X10_fee, r_X10_fine, r_X10_feed, r_X10_trim, r_X10_isLetter, r_X10_isFigure, r_X10_go, r_X10_takesKey, r_X10_nameOf, r_X10_rank, r_X10_settle, r_X10_signHere, r_X10_takesPart, r_X10_takesE, r_X10_notsOpen, r_X10_text, r_X10_textTold, r_X10_counts, r_X10_why, r_X10_two, r_X10_worksOut, r_X10_isSheet, r_X10_isSlot, r_X10_sheet, r_X10_mark, r_X10_pour, r_X10_reads, r_X10_copy, r_X10_lay, r_X10_ask, r_X10_item, r_X10_rest, r_X10_tell, r_X10_check, r_X10_keep, r_X10_back, r_X10_count, r_J6_bitCount_0f7a4, r_J0_length_8abf5, r_J0_charAt_5068e, r_J0_indexOf_0f7a4, r_J0_indexOf_7cf53, r_J0_coder_7d493, r_J0_isLatin1_aae02, r_J0_checkIndex_df160, r_J1_charAt_3b067, r_J1_canEncode_9a6ad, r_J1_indexOf_4cfef, r_J1_indexOfChar_4cfef, r_J3_checkIndex_8e157]
def PR (m : Nat) : MRec := PL.getD m r_L_law
theorem td_X0_becomeAs {d : Nat} {av : List AV} {M : Mem} {Q : PQ} (h : Tot (Td PR d) none T_X0_becomeAs 0 (lv0 2 av) [] M Q) : Td PR (d + 1) 0 av M Q := h
theorem td_X0_isOf {d : Nat} {av : List AV} {M : Mem} {Q : PQ} (h : Tot (Td PR d) (some .boolean) T_X0_isOf 0 (lv0 2 av) [] M Q) : Td PR (d + 1) 1 av M Q := h
theorem td_X0_wide {d : Nat} {av : List AV} {M : Mem} {Q : PQ} (h : Tot (Td PR d) (some .int) T_X0_wide 0 (lv0 1 av) [] M Q) : Td PR (d + 1) 2 av M Q := h
theorem td_X0_takes {d : Nat} {av : List AV} {M : Mem} {Q : PQ} (h : Tot (Td PR d) (some .int) T_X0_takes 0 (lv0 3 av) [] M Q) : Td PR (d + 1) 3 av M Q := h
theorem td_X0_leads {d : Nat} {av : List AV} {M : Mem} {Q : PQ} (h : Tot (Td PR d) (some .int) T_X0_leads 0 (lv0 1 av) [] M Q) : Td PR (d + 1) 4 av M Q := h
theorem td_X0_worth {d : Nat} {av : List AV} {M : Mem} {Q : PQ} (h : Tot (Td PR d) (some .int) T_X0_worth 0 (lv0 2 av) [] M Q) : Td PR (d + 1) 5 av M Q := h
theorem td_X0_swings {d : Nat} {av : List AV} {M : Mem} {Q : PQ} (h : Tot (Td PR d) none T_X0_swings 0 (lv0 2 av) [] M Q) : Td PR (d + 1) 6 av M Q := h
theorem td_X1_becomeAs {d : Nat} {av : List AV} {M : Mem} {Q : PQ} (h : Tot (Td PR d) none T_X1_becomeAs 0 (lv0 3 av) [] M Q) : Td PR (d + 1) 7 av M Q := h
theorem td_X1_addBed {d : Nat} {av : List AV} {M : Mem} {Q : PQ} (h : Tot (Td PR d) (some .int) T_X1_addBed 0 (lv0 6 av) [] M Q) : Td PR (d + 1) 8 av M Q := h
theorem td_X1_addOne {d : Nat} {av : List AV} {M : Mem} {Q : PQ} (h : Tot (Td PR d) (some .int) T_X1_addOne 0 (lv0 4 av) [] M Q) : Td PR (d + 1) 9 av M Q := h
theorem td_X1_draw {d : Nat} {av : List AV} {M : Mem} {Q : PQ} (h : Tot (Td PR d) (some .int) T_X1_draw 0 (lv0 1 av) [] M Q) : Td PR (d + 1) 10 av M Q := h
theorem td_X1_lawOf {d : Nat} {av : List AV} {M : Mem} {Q : PQ} (h : Tot (Td PR d) (some .int) T_X1_lawOf 0 (lv0 2 av) [] M Q) : Td PR (d + 1) 11 av M Q := h
theorem td_X1_hours {d : Nat} {av : List AV} {M : Mem} {Q : PQ} (h : Tot (Td PR d) (some .int) T_X1_hours 0 (lv0 3 av) [] M Q) : Td PR (d + 1) 12 av M Q := h
theorem td_X1_presentIn {d : Nat} {av : List AV} {M : Mem} {Q : PQ} (h : Tot (Td PR d) (some .int) T_X1_presentIn 0 (lv0 4 av) [] M Q) : Td PR (d + 1) 13 av M Q := h
theorem td_X1_thoseIn {d : Nat} {av : List AV} {M : Mem} {Q : PQ} (h : Tot (Td PR d) (some .int) T_X1_thoseIn 0 (lv0 4 av) [] M Q) : Td PR (d + 1) 14 av M Q := h
theorem td_X1_isAtHome {d : Nat} {av : List AV} {M : Mem} {Q : PQ} (h : Tot (Td PR d) (some .boolean) T_X1_isAtHome 0 (lv0 2 av) [] M Q) : Td PR (d + 1) 15 av M Q := h
theorem td_X1_thoseAtHome {d : Nat} {av : List AV} {M : Mem} {Q : PQ} (h : Tot (Td PR d) (some .int) T_X1_thoseAtHome 0 (lv0 3 av) [] M Q) : Td PR (d + 1) 16 av M Q := h
theorem td_X1_thoseGone {d : Nat} {av : List AV} {M : Mem} {Q : PQ} (h : Tot (Td PR d) (some .int) T_X1_thoseGone 0 (lv0 3 av) [] M Q) : Td PR (d + 1) 17 av M Q := h
theorem td_X1_passNights {d : Nat} {av : List AV} {M : Mem} {Q : PQ} (h : Tot (Td PR d) none T_X1_passNights 0 (lv0 3 av) [] M Q) : Td PR (d + 1) 18 av M Q := h
theorem td_X1_passNight {d : Nat} {av : List AV} {M : Mem} {Q : PQ} (h : Tot (Td PR d) none T_X1_passNight 0 (lv0 1 av) [] M Q) : Td PR (d + 1) 19 av M Q := h
theorem td_X1_lieDown {d : Nat} {av : List AV} {M : Mem} {Q : PQ} (h : Tot (Td PR d) none T_X1_lieDown 0 (lv0 4 av) [] M Q) : Td PR (d + 1) 20 av M Q := h
theorem td_X1_freeBedAt {d : Nat} {av : List AV} {M : Mem} {Q : PQ} (h : Tot (Td PR d) (some .int) T_X1_freeBedAt 0 (lv0 3 av) [] M Q) : Td PR (d + 1) 21 av M Q := h
theorem td_X1_wake {d : Nat} {av : List AV} {M : Mem} {Q : PQ} (h : Tot (Td PR d) none T_X1_wake 0 (lv0 3 av) [] M Q) : Td PR (d + 1) 22 av M Q := h
theorem td_X1_wakeThoseIn {d : Nat} {av : List AV} {M : Mem} {Q : PQ} (h : Tot (Td PR d) none T_X1_wakeThoseIn 0 (lv0 6 av) [] M Q) : Td PR (d + 1) 23 av M Q := h
theorem td_X1_carryOne {d : Nat} {av : List AV} {M : Mem} {Q : PQ} (h : Tot (Td PR d) none T_X1_carryOne 0 (lv0 3 av) [] M Q) : Td PR (d + 1) 24 av M Q := h
theorem td_X1_nightsUntilHome {d : Nat} {av : List AV} {M : Mem} {Q : PQ} (h : Tot (Td PR d) (some .int) T_X1_nightsUntilHome 0 (lv0 4 av) [] M Q) : Td PR (d + 1) 25 av M Q := h
theorem td_X1_nightsTold {d : Nat} {av : List AV} {M : Mem} {Q : PQ} (h : Tot (Td PR d) (some .int) T_X1_nightsTold 0 (lv0 5 av) [] M Q) : Td PR (d + 1) 26 av M Q := h
theorem td_X2_counting {d : Nat} {av : List AV} {M : Mem} {Q : PQ} (h : Tot (Td PR d) (some .int) T_X2_counting 0 (lv0 4 av) [] M Q) : Td PR (d + 1) 27 av M Q := h
theorem td_X2_value {d : Nat} {av : List AV} {M : Mem} {Q : PQ} (h : Tot (Td PR d) (some .int) T_X2_value 0 (lv0 9 av) [] M Q) : Td PR (d + 1) 28 av M Q := h
theorem td_X2_joined {d : Nat} {av : List AV} {M : Mem} {Q : PQ} (h : Tot (Td PR d) (some .int) T_X2_joined 0 (lv0 3 av) [] M Q) : Td PR (d + 1) 29 av M Q := h
theorem td_X3_becomeAs {d : Nat} {av : List AV} {M : Mem} {Q : PQ} (h : Tot (Td PR d) none T_X3_becomeAs 0 (lv0 2 av) [] M Q) : Td PR (d + 1) 30 av M Q := h
theorem td_X4_take {d : Nat} {av : List AV} {M : Mem} {Q : PQ} (h : Tot (Td PR d) none T_X4_take 0 (lv0 3 av) [] M Q) : Td PR (d + 1) 31 av M Q := h
theorem td_X4_readsText {d : Nat} {av : List AV} {M : Mem} {Q : PQ} (h : Tot (Td PR d) (some .boolean) T_X4_readsText 0 (lv0 3 av) [] M Q) : Td PR (d + 1) 32 av M Q := h
theorem td_X4_goOn {d : Nat} {av : List AV} {M : Mem} {Q : PQ} (h : Tot (Td PR d) none T_X4_goOn 0 (lv0 3 av) [] M Q) : Td PR (d + 1) 33 av M Q := h
theorem td_X4_readNumber {d : Nat} {av : List AV} {M : Mem} {Q : PQ} (h : Tot (Td PR d) none T_X4_readNumber 0 (lv0 1 av) [] M Q) : Td PR (d + 1) 34 av M Q := h
theorem td_X4_readLetters {d : Nat} {av : List AV} {M : Mem} {Q : PQ} (h : Tot (Td PR d) none T_X4_readLetters 0 (lv0 1 av) [] M Q) : Td PR (d + 1) 35 av M Q := h
theorem td_X4_isDigit {d : Nat} {av : List AV} {M : Mem} {Q : PQ} (h : Tot (Td PR d) (some .boolean) T_X4_isDigit 0 (lv0 2 av) [] M Q) : Td PR (d + 1) 36 av M Q := h
theorem td_X4_isLetter {d : Nat} {av : List AV} {M : Mem} {Q : PQ} (h : Tot (Td PR d) (some .boolean) T_X4_isLetter 0 (lv0 2 av) [] M Q) : Td PR (d + 1) 37 av M Q := h
theorem td_X4_isSign {d : Nat} {av : List AV} {M : Mem} {Q : PQ} (h : Tot (Td PR d) (some .boolean) T_X4_isSign 0 (lv0 2 av) [] M Q) : Td PR (d + 1) 38 av M Q := h
theorem td_X4_isWord {d : Nat} {av : List AV} {M : Mem} {Q : PQ} (h : Tot (Td PR d) (some .boolean) T_X4_isWord 0 (lv0 3 av) [] M Q) : Td PR (d + 1) 39 av M Q := h
theorem td_X4_keyHere {d : Nat} {av : List AV} {M : Mem} {Q : PQ} (h : Tot (Td PR d) (some .int) T_X4_keyHere 0 (lv0 1 av) [] M Q) : Td PR (d + 1) 40 av M Q := h
theorem td_X4_namesOf {d : Nat} {av : List AV} {M : Mem} {Q : PQ} (h : Tot (Td PR d) (some (.object "java/lang/String")) T_X4_namesOf 0 (lv0 1 av) [] M Q) : Td PR (d + 1) 41 av M Q := h
theorem td_X4_nameHere {d : Nat} {av : List AV} {M : Mem} {Q : PQ} (h : Tot (Td PR d) (some .int) T_X4_nameHere 0 (lv0 1 av) [] M Q) : Td PR (d + 1) 42 av M Q := h
theorem td_X4_signsOf {d : Nat} {av : List AV} {M : Mem} {Q : PQ} (h : Tot (Td PR d) (some (.object "java/lang/String")) T_X4_signsOf 0 (lv0 1 av) [] M Q) : Td PR (d + 1) 43 av M Q := h
theorem td_X4_isJoined {d : Nat} {av : List AV} {M : Mem} {Q : PQ} (h : Tot (Td PR d) (some .boolean) T_X4_isJoined 0 (lv0 2 av) [] M Q) : Td PR (d + 1) 44 av M Q := h
theorem td_X4_readsLevel {d : Nat} {av : List AV} {M : Mem} {Q : PQ} (h : Tot (Td PR d) (some .boolean) T_X4_readsLevel 0 (lv0 7 av) [] M Q) : Td PR (d + 1) 45 av M Q := h
theorem td_X4_readsPiece {d : Nat} {av : List AV} {M : Mem} {Q : PQ} (h : Tot (Td PR d) (some .boolean) T_X4_readsPiece 0 (lv0 3 av) [] M Q) : Td PR (d + 1) 46 av M Q := h
theorem td_X4_readsName {d : Nat} {av : List AV} {M : Mem} {Q : PQ} (h : Tot (Td PR d) (some .boolean) T_X4_readsName 0 (lv0 2 av) [] M Q) : Td PR (d + 1) 47 av M Q := h
theorem td_X4_readsNegated {d : Nat} {av : List AV} {M : Mem} {Q : PQ} (h : Tot (Td PR d) (some .boolean) T_X4_readsNegated 0 (lv0 3 av) [] M Q) : Td PR (d + 1) 48 av M Q := h
theorem td_X4_readsBracket {d : Nat} {av : List AV} {M : Mem} {Q : PQ} (h : Tot (Td PR d) (some .boolean) T_X4_readsBracket 0 (lv0 3 av) [] M Q) : Td PR (d + 1) 49 av M Q := h
theorem td_X5_isMissing {d : Nat} {av : List AV} {M : Mem} {Q : PQ} (h : Tot (Td PR d) (some .boolean) T_X5_isMissing 0 (lv0 1 av) [] M Q) : Td PR (d + 1) 50 av M Q := h
theorem td_X5_has {d : Nat} {av : List AV} {M : Mem} {Q : PQ} (h : Tot (Td PR d) (some .boolean) T_X5_has 0 (lv0 2 av) [] M Q) : Td PR (d + 1) 51 av M Q := h
theorem td_X5_hasAll {d : Nat} {av : List AV} {M : Mem} {Q : PQ} (h : Tot (Td PR d) (some .boolean) T_X5_hasAll 0 (lv0 3 av) [] M Q) : Td PR (d + 1) 52 av M Q := h
theorem td_X5_isNumber {d : Nat} {av : List AV} {M : Mem} {Q : PQ} (h : Tot (Td PR d) (some .boolean) T_X5_isNumber 0 (lv0 2 av) [] M Q) : Td PR (d + 1) 53 av M Q := h
theorem td_X5_clear {d : Nat} {av : List AV} {M : Mem} {Q : PQ} (h : Tot (Td PR d) none T_X5_clear 0 (lv0 4 av) [] M Q) : Td PR (d + 1) 54 av M Q := h
theorem td_X5_becomeAs {d : Nat} {av : List AV} {M : Mem} {Q : PQ} (h : Tot (Td PR d) none T_X5_becomeAs 0 (lv0 2 av) [] M Q) : Td PR (d + 1) 55 av M Q := h
theorem td_X7_begin {d : Nat} {av : List AV} {M : Mem} {Q : PQ} (h : Tot (Td PR d) none T_X7_begin 0 (lv0 2 av) [] M Q) : Td PR (d + 1) 56 av M Q := h
theorem td_X7_addLeaf {d : Nat} {av : List AV} {M : Mem} {Q : PQ} (h : Tot (Td PR d) none T_X7_addLeaf 0 (lv0 2 av) [] M Q) : Td PR (d + 1) 57 av M Q := h
theorem td_X7_addSign {d : Nat} {av : List AV} {M : Mem} {Q : PQ} (h : Tot (Td PR d) none T_X7_addSign 0 (lv0 2 av) [] M Q) : Td PR (d + 1) 58 av M Q := h
theorem td_X7_add {d : Nat} {av : List AV} {M : Mem} {Q : PQ} (h : Tot (Td PR d) none T_X7_add 0 (lv0 2 av) [] M Q) : Td PR (d + 1) 59 av M Q := h
theorem td_X8_oneFurther {d : Nat} {av : List AV} {M : Mem} {Q : PQ} (h : Tot (Td PR d) (some .int) T_X8_oneFurther 0 (lv0 5 av) [] M Q) : Td PR (d + 1) 60 av M Q := h
theorem td_X8_reachOf {d : Nat} {av : List AV} {M : Mem} {Q : PQ} (h : Tot (Td PR d) (some .int) T_X8_reachOf 0 (lv0 5 av) [] M Q) : Td PR (d + 1) 61 av M Q := h
theorem td_X8_steps {d : Nat} {av : List AV} {M : Mem} {Q : PQ} (h : Tot (Td PR d) (some .int) T_X8_steps 0 (lv0 5 av) [] M Q) : Td PR (d + 1) 62 av M Q := h
theorem td_X8_reachedWithout {d : Nat} {av : List AV} {M : Mem} {Q : PQ} (h : Tot (Td PR d) (some .int) T_X8_reachedWithout 0 (lv0 4 av) [] M Q) : Td PR (d + 1) 63 av M Q := h
theorem td_X8_comingTo {d : Nat} {av : List AV} {M : Mem} {Q : PQ} (h : Tot (Td PR d) (some .int) T_X8_comingTo 0 (lv0 4 av) [] M Q) : Td PR (d + 1) 64 av M Q := h
theorem td_X8_lacking {d : Nat} {av : List AV} {M : Mem} {Q : PQ} (h : Tot (Td PR d) (some .int) T_X8_lacking 0 (lv0 8 av) [] M Q) : Td PR (d + 1) 65 av M Q := h
theorem td_X9_bed {d : Nat} {av : List AV} {M : Mem} {Q : PQ} (h : Tot (Td PR d) (some .int) T_X9_bed 0 (lv0 5 av) [] M Q) : Td PR (d + 1) 66 av M Q := h
theorem td_X9_told {d : Nat} {av : List AV} {M : Mem} {Q : PQ} (h : Tot (Td PR d) (some .int) T_X9_told 0 (lv0 4 av) [] M Q) : Td PR (d + 1) 67 av M Q := h
theorem td_X9_as {d : Nat} {av : List AV} {M : Mem} {Q : PQ} (h : Tot (Td PR d) (some .int) T_X9_as 0 (lv0 4 av) [] M Q) : Td PR (d + 1) 68 av M Q := h
theorem td_X9_turns {d : Nat} {av : List AV} {M : Mem} {Q : PQ} (h : Tot (Td PR d) (some .int) T_X9_turns 0 (lv0 5 av) [] M Q) : Td PR (d + 1) 69 av M Q := h
theorem td_X9_set {d : Nat} {av : List AV} {M : Mem} {Q : PQ} (h : Tot (Td PR d) (some .int) T_X9_set 0 (lv0 6 av) [] M Q) : Td PR (d + 1) 70 av M Q := h
theorem td_X9_carry {d : Nat} {av : List AV} {M : Mem} {Q : PQ} (h : Tot (Td PR d) (some .int) T_X9_carry 0 (lv0 3 av) [] M Q) : Td PR (d + 1) 71 av M Q := h
theorem td_X9_deal {d : Nat} {av : List AV} {M : Mem} {Q : PQ} (h : Tot (Td PR d) (some .int) T_X9_deal 0 (lv0 7 av) [] M Q) : Td PR (d + 1) 72 av M Q := h
theorem td_X9_seed {d : Nat} {av : List AV} {M : Mem} {Q : PQ} (h : Tot (Td PR d) (some .int) T_X9_seed 0 (lv0 3 av) [] M Q) : Td PR (d + 1) 73 av M Q := h
theorem td_X9_one {d : Nat} {av : List AV} {M : Mem} {Q : PQ} (h : Tot (Td PR d) (some .int) T_X9_one 0 (lv0 3 av) [] M Q) : Td PR (d + 1) 74 av M Q := h
theorem td_X9_folk {d : Nat} {av : List AV} {M : Mem} {Q : PQ} (h : Tot (Td PR d) (some .int) T_X9_folk 0 (lv0 4 av) [] M Q) : Td PR (d + 1) 75 av M Q := h
theorem td_X9_sends {d : Nat} {av : List AV} {M : Mem} {Q : PQ} (h : Tot (Td PR d) (some .int) T_X9_sends 0 (lv0 6 av) [] M Q) : Td PR (d + 1) 76 av M Q := h
theorem td_X9_who {d : Nat} {av : List AV} {M : Mem} {Q : PQ} (h : Tot (Td PR d) (some .int) T_X9_who 0 (lv0 2 av) [] M Q) : Td PR (d + 1) 77 av M Q := h
theorem td_X9_nights {d : Nat} {av : List AV} {M : Mem} {Q : PQ} (h : Tot (Td PR d) (some .int) T_X9_nights 0 (lv0 5 av) [] M Q) : Td PR (d + 1) 78 av M Q := h
theorem td_X9_land {d : Nat} {av : List AV} {M : Mem} {Q : PQ} (h : Tot (Td PR d) (some .int) T_X9_land 0 (lv0 2 av) [] M Q) : Td PR (d + 1) 79 av M Q := h
theorem td_X9_reach {d : Nat} {av : List AV} {M : Mem} {Q : PQ} (h : Tot (Td PR d) (some .int) T_X9_reach 0 (lv0 2 av) [] M Q) : Td PR (d + 1) 80 av M Q := h
theorem td_X9_way {d : Nat} {av : List AV} {M : Mem} {Q : PQ} (h : Tot (Td PR d) (some .int) T_X9_way 0 (lv0 4 av) [] M Q) : Td PR (d + 1) 81 av M Q := h
theorem td_X9_lacks {d : Nat} {av : List AV} {M : Mem} {Q : PQ} (h : Tot (Td PR d) (some .int) T_X9_lacks 0 (lv0 1 av) [] M Q) : Td PR (d + 1) 82 av M Q := h
theorem td_X9_missed {d : Nat} {av : List AV} {M : Mem} {Q : PQ} (h : Tot (Td PR d) (some .int) T_X9_missed 0 (lv0 6 av) [] M Q) : Td PR (d + 1) 83 av M Q := h
theorem td_X9_behind {d : Nat} {av : List AV} {M : Mem} {Q : PQ} (h : Tot (Td PR d) (some .int) T_X9_behind 0 (lv0 3 av) [] M Q) : Td PR (d + 1) 84 av M Q := h
theorem td_X9_home {d : Nat} {av : List AV} {M : Mem} {Q : PQ} (h : Tot (Td PR d) (some .int) T_X9_home 0 (lv0 3 av) [] M Q) : Td PR (d + 1) 85 av M Q := h
theorem td_X9_brought {d : Nat} {av : List AV} {M : Mem} {Q : PQ} (h : Tot (Td PR d) (some .int) T_X9_brought 0 (lv0 9 av) [] M Q) : Td PR (d + 1) 86 av M Q := h
theorem td_X9_belongs {d : Nat} {av : List AV} {M : Mem} {Q : PQ} (h : Tot (Td PR d) (some .int) T_X9_belongs 0 (lv0 8 av) [] M Q) : Td PR (d + 1) 87 av M Q := h
theorem td_X9_becomes {d : Nat} {av : List AV} {M : Mem} {Q : PQ} (h : Tot (Td PR d) (some .int) T_X9_becomes 0 (lv0 8 av) [] M Q) : Td PR (d + 1) 88 av M Q := h
theorem td_X9_whose {d : Nat} {av : List AV} {M : Mem} {Q : PQ} (h : Tot (Td PR d) (some .int) T_X9_whose 0 (lv0 8 av) [] M Q) : Td PR (d + 1) 89 av M Q := h
theorem td_X9_fee {d : Nat} {av : List AV} {M : Mem} {Q : PQ} (h : Tot (Td PR d) (some .int) T_X9_fee 0 (lv0 2 av) [] M Q) : Td PR (d + 1) 90 av M Q := h
theorem td_X9_fine {d : Nat} {av : List AV} {M : Mem} {Q : PQ} (h : Tot (Td PR d) (some .int) T_X9_fine 0 (lv0 4 av) [] M Q) : Td PR (d + 1) 91 av M Q := h
theorem td_X9_feed {d : Nat} {av : List AV} {M : Mem} {Q : PQ} (h : Tot (Td PR d) (some .int) T_X9_feed 0 (lv0 4 av) [] M Q) : Td PR (d + 1) 92 av M Q := h
theorem td_X9_trim {d : Nat} {av : List AV} {M : Mem} {Q : PQ} (h : Tot (Td PR d) (some .int) T_X9_trim 0 (lv0 2 av) [] M Q) : Td PR (d + 1) 93 av M Q := h
theorem td_X9_text {d : Nat} {av : List AV} {M : Mem} {Q : PQ} (h : Tot (Td PR d) (some .int) T_X9_text 0 (lv0 4 av) [] M Q) : Td PR (d + 1) 94 av M Q := h
theorem td_X9_textTold {d : Nat} {av : List AV} {M : Mem} {Q : PQ} (h : Tot (Td PR d) (some .int) T_X9_textTold 0 (lv0 4 av) [] M Q) : Td PR (d + 1) 95 av M Q := h
theorem td_X9_why {d : Nat} {av : List AV} {M : Mem} {Q : PQ} (h : Tot (Td PR d) (some .int) T_X9_why 0 (lv0 3 av) [] M Q) : Td PR (d + 1) 96 av M Q := h
theorem td_X9_sheet {d : Nat} {av : List AV} {M : Mem} {Q : PQ} (h : Tot (Td PR d) (some .int) T_X9_sheet 0 (lv0 4 av) [] M Q) : Td PR (d + 1) 97 av M Q := h
theorem td_X9_mark {d : Nat} {av : List AV} {M : Mem} {Q : PQ} (h : Tot (Td PR d) (some .int) T_X9_mark 0 (lv0 5 av) [] M Q) : Td PR (d + 1) 98 av M Q := h
theorem td_X9_pour {d : Nat} {av : List AV} {M : Mem} {Q : PQ} (h : Tot (Td PR d) (some .int) T_X9_pour 0 (lv0 6 av) [] M Q) : Td PR (d + 1) 99 av M Q := h
theorem td_X9_reads {d : Nat} {av : List AV} {M : Mem} {Q : PQ} (h : Tot (Td PR d) (some .int) T_X9_reads 0 (lv0 4 av) [] M Q) : Td PR (d + 1) 100 av M Q := h
theorem td_X9_copy {d : Nat} {av : List AV} {M : Mem} {Q : PQ} (h : Tot (Td PR d) (some .int) T_X9_copy 0 (lv0 8 av) [] M Q) : Td PR (d + 1) 101 av M Q := h
theorem td_X9_lay {d : Nat} {av : List AV} {M : Mem} {Q : PQ} (h : Tot (Td PR d) (some .int) T_X9_lay 0 (lv0 6 av) [] M Q) : Td PR (d + 1) 102 av M Q := h
theorem td_X9_ask {d : Nat} {av : List AV} {M : Mem} {Q : PQ} (h : Tot (Td PR d) (some .int) T_X9_ask 0 (lv0 4 av) [] M Q) : Td PR (d + 1) 103 av M Q := h
theorem td_X9_item {d : Nat} {av : List AV} {M : Mem} {Q : PQ} (h : Tot (Td PR d) (some .int) T_X9_item 0 (lv0 4 av) [] M Q) : Td PR (d + 1) 104 av M Q := h
theorem td_X9_rest {d : Nat} {av : List AV} {M : Mem} {Q : PQ} (h : Tot (Td PR d) (some .int) T_X9_rest 0 (lv0 4 av) [] M Q) : Td PR (d + 1) 105 av M Q := h
theorem td_X9_tell {d : Nat} {av : List AV} {M : Mem} {Q : PQ} (h : Tot (Td PR d) (some .int) T_X9_tell 0 (lv0 2 av) [] M Q) : Td PR (d + 1) 106 av M Q := h
theorem td_X9_check {d : Nat} {av : List AV} {M : Mem} {Q : PQ} (h : Tot (Td PR d) (some .int) T_X9_check 0 (lv0 5 av) [] M Q) : Td PR (d + 1) 107 av M Q := h
theorem td_X9_keep {d : Nat} {av : List AV} {M : Mem} {Q : PQ} (h : Tot (Td PR d) (some .int) T_X9_keep 0 (lv0 1 av) [] M Q) : Td PR (d + 1) 108 av M Q := h
theorem td_X9_back {d : Nat} {av : List AV} {M : Mem} {Q : PQ} (h : Tot (Td PR d) (some .int) T_X9_back 0 (lv0 1 av) [] M Q) : Td PR (d + 1) 109 av M Q := h
theorem td_X9_count {d : Nat} {av : List AV} {M : Mem} {Q : PQ} (h : Tot (Td PR d) (some .int) T_X9_count 0 (lv0 2 av) [] M Q) : Td PR (d + 1) 110 av M Q := h
theorem td_X9_isBed {d : Nat} {av : List AV} {M : Mem} {Q : PQ} (h : Tot (Td PR d) (some .boolean) T_X9_isBed 0 (lv0 2 av) [] M Q) : Td PR (d + 1) 111 av M Q := h
theorem td_X9_isOne {d : Nat} {av : List AV} {M : Mem} {Q : PQ} (h : Tot (Td PR d) (some .boolean) T_X9_isOne 0 (lv0 2 av) [] M Q) : Td PR (d + 1) 112 av M Q := h
theorem td_X9_isTown {d : Nat} {av : List AV} {M : Mem} {Q : PQ} (h : Tot (Td PR d) (some .boolean) T_X9_isTown 0 (lv0 1 av) [] M Q) : Td PR (d + 1) 113 av M Q := h
theorem td_X9_isKind {d : Nat} {av : List AV} {M : Mem} {Q : PQ} (h : Tot (Td PR d) (some .boolean) T_X9_isKind 0 (lv0 1 av) [] M Q) : Td PR (d + 1) 114 av M Q := h
theorem td_X9_isSheet {d : Nat} {av : List AV} {M : Mem} {Q : PQ} (h : Tot (Td PR d) (some .boolean) T_X9_isSheet 0 (lv0 1 av) [] M Q) : Td PR (d + 1) 115 av M Q := h
theorem td_X9_isSlot {d : Nat} {av : List AV} {M : Mem} {Q : PQ} (h : Tot (Td PR d) (some .boolean) T_X9_isSlot 0 (lv0 1 av) [] M Q) : Td PR (d + 1) 116 av M Q := h
theorem td_X9_mostOfOne {d : Nat} {av : List AV} {M : Mem} {Q : PQ} (h : Tot (Td PR d) (some .int) T_X9_mostOfOne 0 (lv0 1 av) [] M Q) : Td PR (d + 1) 117 av M Q := h
theorem td_X9_within {d : Nat} {av : List AV} {M : Mem} {Q : PQ} (h : Tot (Td PR d) (some .int) T_X9_within 0 (lv0 2 av) [] M Q) : Td PR (d + 1) 118 av M Q := h
theorem td_X9_rightAhead {d : Nat} {av : List AV} {M : Mem} {Q : PQ} (h : Tot (Td PR d) (some .int) T_X9_rightAhead 0 (lv0 5 av) [] M Q) : Td PR (d + 1) 119 av M Q := h
theorem td_X10_in {d : Nat} {av : List AV} {M : Mem} {Q : PQ} (h : Tot (Td PR d) (some .boolean) T_X10_in 0 (lv0 3 av) [] M Q) : Td PR (d + 1) 120 av M Q := h
theorem td_X10_within {d : Nat} {av : List AV} {M : Mem} {Q : PQ} (h : Tot (Td PR d) (some .int) T_X10_within 0 (lv0 3 av) [] M Q) : Td PR (d + 1) 121 av M Q := h
theorem td_X10_copyAll {d : Nat} {av : List AV} {M : Mem} {Q : PQ} (h : Tot (Td PR d) none T_X10_copyAll 0 (lv0 3 av) [] M Q) : Td PR (d + 1) 122 av M Q := h
theorem td_X10_isBed {d : Nat} {av : List AV} {M : Mem} {Q : PQ} (h : Tot (Td PR d) (some .boolean) T_X10_isBed 0 (lv0 2 av) [] M Q) : Td PR (d + 1) 123 av M Q := h
theorem td_X10_isOne {d : Nat} {av : List AV} {M : Mem} {Q : PQ} (h : Tot (Td PR d) (some .boolean) T_X10_isOne 0 (lv0 2 av) [] M Q) : Td PR (d + 1) 124 av M Q := h
theorem td_X10_isTown {d : Nat} {av : List AV} {M : Mem} {Q : PQ} (h : Tot (Td PR d) (some .boolean) T_X10_isTown 0 (lv0 1 av) [] M Q) : Td PR (d + 1) 125 av M Q := h
theorem td_X10_of {d : Nat} {av : List AV} {M : Mem} {Q : PQ} (h : Tot (Td PR d) (some .int) T_X10_of 0 (lv0 3 av) [] M Q) : Td PR (d + 1) 126 av M Q := h
theorem td_X10_put {d : Nat} {av : List AV} {M : Mem} {Q : PQ} (h : Tot (Td PR d) none T_X10_put 0 (lv0 4 av) [] M Q) : Td PR (d + 1) 127 av M Q := h
theorem td_X10_by {d : Nat} {av : List AV} {M : Mem} {Q : PQ} (h : Tot (Td PR d) (some .int) T_X10_by 0 (lv0 3 av) [] M Q) : Td PR (d + 1) 128 av M Q := h
theorem td_X10_lays {d : Nat} {av : List AV} {M : Mem} {Q : PQ} (h : Tot (Td PR d) none T_X10_lays 0 (lv0 4 av) [] M Q) : Td PR (d + 1) 129 av M Q := h
theorem td_X10_swaps {d : Nat} {av : List AV} {M : Mem} {Q : PQ} (h : Tot (Td PR d) (some .int) T_X10_swaps 0 (lv0 4 av) [] M Q) : Td PR (d + 1) 130 av M Q := h
theorem td_X10_comes {d : Nat} {av : List AV} {M : Mem} {Q : PQ} (h : Tot (Td PR d) (some .int) T_X10_comes 0 (lv0 6 av) [] M Q) : Td PR (d + 1) 131 av M Q := h
theorem td_X10_bed {d : Nat} {av : List AV} {M : Mem} {Q : PQ} (h : Tot (Td PR d) (some .int) T_X10_bed 0 (lv0 5 av) [] M Q) : Td PR (d + 1) 132 av M Q := h
theorem td_X10_wideOf {d : Nat} {av : List AV} {M : Mem} {Q : PQ} (h : Tot (Td PR d) (some .int) T_X10_wideOf 0 (lv0 2 av) [] M Q) : Td PR (d + 1) 133 av M Q := h
theorem td_X10_takesTo {d : Nat} {av : List AV} {M : Mem} {Q : PQ} (h : Tot (Td PR d) (some .int) T_X10_takesTo 0 (lv0 3 av) [] M Q) : Td PR (d + 1) 134 av M Q := h
theorem td_X10_leadsTo {d : Nat} {av : List AV} {M : Mem} {Q : PQ} (h : Tot (Td PR d) (some .int) T_X10_leadsTo 0 (lv0 3 av) [] M Q) : Td PR (d + 1) 135 av M Q := h
theorem td_X10_worthOf {d : Nat} {av : List AV} {M : Mem} {Q : PQ} (h : Tot (Td PR d) (some .int) T_X10_worthOf 0 (lv0 4 av) [] M Q) : Td PR (d + 1) 136 av M Q := h
theorem td_X10_told {d : Nat} {av : List AV} {M : Mem} {Q : PQ} (h : Tot (Td PR d) (some .int) T_X10_told 0 (lv0 3 av) [] M Q) : Td PR (d + 1) 137 av M Q := h
theorem td_X10_isUnder {d : Nat} {av : List AV} {M : Mem} {Q : PQ} (h : Tot (Td PR d) (some .boolean) T_X10_isUnder 0 (lv0 2 av) [] M Q) : Td PR (d + 1) 138 av M Q := h
theorem td_X10_as {d : Nat} {av : List AV} {M : Mem} {Q : PQ} (h : Tot (Td PR d) (some .int) T_X10_as 0 (lv0 3 av) [] M Q) : Td PR (d + 1) 139 av M Q := h
theorem td_X10_turns {d : Nat} {av : List AV} {M : Mem} {Q : PQ} (h : Tot (Td PR d) (some .int) T_X10_turns 0 (lv0 3 av) [] M Q) : Td PR (d + 1) 140 av M Q := h
theorem td_X10_set {d : Nat} {av : List AV} {M : Mem} {Q : PQ} (h : Tot (Td PR d) (some .int) T_X10_set 0 (lv0 4 av) [] M Q) : Td PR (d + 1) 141 av M Q := h
theorem td_X10_carry {d : Nat} {av : List AV} {M : Mem} {Q : PQ} (h : Tot (Td PR d) (some .int) T_X10_carry 0 (lv0 2 av) [] M Q) : Td PR (d + 1) 142 av M Q := h
theorem td_X10_draw {d : Nat} {av : List AV} {M : Mem} {Q : PQ} (h : Tot (Td PR d) (some .int) T_X10_draw 0 (lv0 1 av) [] M Q) : Td PR (d + 1) 143 av M Q := h
theorem td_X10_deal {d : Nat} {av : List AV} {M : Mem} {Q : PQ} (h : Tot (Td PR d) (some .int) T_X10_deal 0 (lv0 7 av) [] M Q) : Td PR (d + 1) 144 av M Q := h
theorem td_X10_seed {d : Nat} {av : List AV} {M : Mem} {Q : PQ} (h : Tot (Td PR d) (some .int) T_X10_seed 0 (lv0 2 av) [] M Q) : Td PR (d + 1) 145 av M Q := h
theorem td_X10_one {d : Nat} {av : List AV} {M : Mem} {Q : PQ} (h : Tot (Td PR d) (some .int) T_X10_one 0 (lv0 4 av) [] M Q) : Td PR (d + 1) 146 av M Q := h
theorem td_X10_thereIn {d : Nat} {av : List AV} {M : Mem} {Q : PQ} (h : Tot (Td PR d) (some .int) T_X10_thereIn 0 (lv0 4 av) [] M Q) : Td PR (d + 1) 147 av M Q := h
theorem td_X10_hoursGive {d : Nat} {av : List AV} {M : Mem} {Q : PQ} (h : Tot (Td PR d) (some .int) T_X10_hoursGive 0 (lv0 4 av) [] M Q) : Td PR (d + 1) 148 av M Q := h
theorem td_X10_folk {d : Nat} {av : List AV} {M : Mem} {Q : PQ} (h : Tot (Td PR d) (some .int) T_X10_folk 0 (lv0 3 av) [] M Q) : Td PR (d + 1) 149 av M Q := h
theorem td_X10_sends {d : Nat} {av : List AV} {M : Mem} {Q : PQ} (h : Tot (Td PR d) (some .int) T_X10_sends 0 (lv0 4 av) [] M Q) : Td PR (d + 1) 150 av M Q := h
theorem td_X10_who {d : Nat} {av : List AV} {M : Mem} {Q : PQ} (h : Tot (Td PR d) (some .int) T_X10_who 0 (lv0 4 av) [] M Q) : Td PR (d + 1) 151 av M Q := h
theorem td_X10_manyOf {d : Nat} {av : List AV} {M : Mem} {Q : PQ} (h : Tot (Td PR d) (some .int) T_X10_manyOf 0 (lv0 3 av) [] M Q) : Td PR (d + 1) 152 av M Q := h
theorem td_X10_bedFor {d : Nat} {av : List AV} {M : Mem} {Q : PQ} (h : Tot (Td PR d) (some .int) T_X10_bedFor 0 (lv0 3 av) [] M Q) : Td PR (d + 1) 153 av M Q := h
theorem td_X10_liesDown {d : Nat} {av : List AV} {M : Mem} {Q : PQ} (h : Tot (Td PR d) none T_X10_liesDown 0 (lv0 3 av) [] M Q) : Td PR (d + 1) 154 av M Q := h
theorem td_X10_wakes {d : Nat} {av : List AV} {M : Mem} {Q : PQ} (h : Tot (Td PR d) none T_X10_wakes 0 (lv0 6 av) [] M Q) : Td PR (d + 1) 155 av M Q := h
theorem td_X10_night {d : Nat} {av : List AV} {M : Mem} {Q : PQ} (h : Tot (Td PR d) none T_X10_night 0 (lv0 3 av) [] M Q) : Td PR (d + 1) 156 av M Q := h
theorem td_X10_goesOn {d : Nat} {av : List AV} {M : Mem} {Q : PQ} (h : Tot (Td PR d) none T_X10_goesOn 0 (lv0 3 av) [] M Q) : Td PR (d + 1) 157 av M Q := h
theorem td_X10_nights {d : Nat} {av : List AV} {M : Mem} {Q : PQ} (h : Tot (Td PR d) (some .int) T_X10_nights 0 (lv0 3 av) [] M Q) : Td PR (d + 1) 158 av M Q := h
theorem td_X10_isHome {d : Nat} {av : List AV} {M : Mem} {Q : PQ} (h : Tot (Td PR d) (some .boolean) T_X10_isHome 0 (lv0 2 av) [] M Q) : Td PR (d + 1) 159 av M Q := h
theorem td_X10_atHome {d : Nat} {av : List AV} {M : Mem} {Q : PQ} (h : Tot (Td PR d) (some .int) T_X10_atHome 0 (lv0 3 av) [] M Q) : Td PR (d + 1) 160 av M Q := h
theorem td_X10_gone {d : Nat} {av : List AV} {M : Mem} {Q : PQ} (h : Tot (Td PR d) (some .int) T_X10_gone 0 (lv0 3 av) [] M Q) : Td PR (d + 1) 161 av M Q := h
theorem td_X10_land {d : Nat} {av : List AV} {M : Mem} {Q : PQ} (h : Tot (Td PR d) (some .int) T_X10_land 0 (lv0 2 av) [] M Q) : Td PR (d + 1) 162 av M Q := h
theorem td_X10_looksAround {d : Nat} {av : List AV} {M : Mem} {Q : PQ} (h : Tot (Td PR d) none T_X10_looksAround 0 (lv0 4 av) [] M Q) : Td PR (d + 1) 163 av M Q := h
theorem td_X10_onward {d : Nat} {av : List AV} {M : Mem} {Q : PQ} (h : Tot (Td PR d) (some .int) T_X10_onward 0 (lv0 4 av) [] M Q) : Td PR (d + 1) 164 av M Q := h
theorem td_X10_reach {d : Nat} {av : List AV} {M : Mem} {Q : PQ} (h : Tot (Td PR d) (some .int) T_X10_reach 0 (lv0 2 av) [] M Q) : Td PR (d + 1) 165 av M Q := h
theorem td_X10_way {d : Nat} {av : List AV} {M : Mem} {Q : PQ} (h : Tot (Td PR d) (some .int) T_X10_way 0 (lv0 5 av) [] M Q) : Td PR (d + 1) 166 av M Q := h
theorem td_X10_lacks {d : Nat} {av : List AV} {M : Mem} {Q : PQ} (h : Tot (Td PR d) (some .int) T_X10_lacks 0 (lv0 8 av) [] M Q) : Td PR (d + 1) 167 av M Q := h
theorem td_X10_reachedInAll {d : Nat} {av : List AV} {M : Mem} {Q : PQ} (h : Tot (Td PR d) (some .int) T_X10_reachedInAll 0 (lv0 4 av) [] M Q) : Td PR (d + 1) 168 av M Q := h
theorem td_X10_missed {d : Nat} {av : List AV} {M : Mem} {Q : PQ} (h : Tot (Td PR d) (some .int) T_X10_missed 0 (lv0 6 av) [] M Q) : Td PR (d + 1) 169 av M Q := h
theorem td_X10_thinks {d : Nat} {av : List AV} {M : Mem} {Q : PQ} (h : Tot (Td PR d) none T_X10_thinks 0 (lv0 2 av) [] M Q) : Td PR (d + 1) 170 av M Q := h
theorem td_X10_putsBack {d : Nat} {av : List AV} {M : Mem} {Q : PQ} (h : Tot (Td PR d) none T_X10_putsBack 0 (lv0 2 av) [] M Q) : Td PR (d + 1) 171 av M Q := h
theorem td_X10_behind {d : Nat} {av : List AV} {M : Mem} {Q : PQ} (h : Tot (Td PR d) (some .int) T_X10_behind 0 (lv0 4 av) [] M Q) : Td PR (d + 1) 172 av M Q := h
theorem td_X10_homeBy {d : Nat} {av : List AV} {M : Mem} {Q : PQ} (h : Tot (Td PR d) (some .int) T_X10_homeBy 0 (lv0 4 av) [] M Q) : Td PR (d + 1) 173 av M Q := h
theorem td_X10_home {d : Nat} {av : List AV} {M : Mem} {Q : PQ} (h : Tot (Td PR d) (some .int) T_X10_home 0 (lv0 3 av) [] M Q) : Td PR (d + 1) 174 av M Q := h
theorem td_X10_brought {d : Nat} {av : List AV} {M : Mem} {Q : PQ} (h : Tot (Td PR d) (some .int) T_X10_brought 0 (lv0 7 av) [] M Q) : Td PR (d + 1) 175 av M Q := h
theorem td_X10_mostBy {d : Nat} {av : List AV} {M : Mem} {Q : PQ} (h : Tot (Td PR d) (some .int) T_X10_mostBy 0 (lv0 9 av) [] M Q) : Td PR (d + 1) 176 av M Q := h
theorem td_X10_belongs {d : Nat} {av : List AV} {M : Mem} {Q : PQ} (h : Tot (Td PR d) (some .int) T_X10_belongs 0 (lv0 4 av) [] M Q) : Td PR (d + 1) 177 av M Q := h
theorem td_X10_becomes {d : Nat} {av : List AV} {M : Mem} {Q : PQ} (h : Tot (Td PR d) (some .int) T_X10_becomes 0 (lv0 4 av) [] M Q) : Td PR (d + 1) 178 av M Q := h
theorem td_X10_whose {d : Nat} {av : List AV} {M : Mem} {Q : PQ} (h : Tot (Td PR d) (some .int) T_X10_whose 0 (lv0 7 av) [] M Q) : Td PR (d + 1) 179 av M Q := h
theorem td_X10_fee {d : Nat} {av : List AV} {M : Mem} {Q : PQ} (h : Tot (Td PR d) (some .int) T_X10_fee 0 (lv0 2 av) [] M Q) : Td PR (d + 1) 180 av M Q := h
theorem td_X10_fine {d : Nat} {av : List AV} {M : Mem} {Q : PQ} (h : Tot (Td PR d) (some .int) T_X10_fine 0 (lv0 3 av) [] M Q) : Td PR (d + 1) 181 av M Q := h
theorem td_X10_feed {d : Nat} {av : List AV} {M : Mem} {Q : PQ} (h : Tot (Td PR d) (some .int) T_X10_feed 0 (lv0 6 av) [] M Q) : Td PR (d + 1) 182 av M Q := h
theorem td_X10_trim {d : Nat} {av : List AV} {M : Mem} {Q : PQ} (h : Tot (Td PR d) (some .int) T_X10_trim 0 (lv0 2 av) [] M Q) : Td PR (d + 1) 183 av M Q := h
theorem td_X10_isLetter {d : Nat} {av : List AV} {M : Mem} {Q : PQ} (h : Tot (Td PR d) (some .boolean) T_X10_isLetter 0 (lv0 2 av) [] M Q) : Td PR (d + 1) 184 av M Q := h
theorem td_X10_isFigure {d : Nat} {av : List AV} {M : Mem} {Q : PQ} (h : Tot (Td PR d) (some .boolean) T_X10_isFigure 0 (lv0 2 av) [] M Q) : Td PR (d + 1) 185 av M Q := h
theorem td_X10_go {d : Nat} {av : List AV} {M : Mem} {Q : PQ} (h : Tot (Td PR d) none T_X10_go 0 (lv0 2 av) [] M Q) : Td PR (d + 1) 186 av M Q := h
theorem td_X10_takesKey {d : Nat} {av : List AV} {M : Mem} {Q : PQ} (h : Tot (Td PR d) (some .boolean) T_X10_takesKey 0 (lv0 5 av) [] M Q) : Td PR (d + 1) 187 av M Q := h
theorem td_X10_nameOf {d : Nat} {av : List AV} {M : Mem} {Q : PQ} (h : Tot (Td PR d) (some .int) T_X10_nameOf 0 (lv0 2 av) [] M Q) : Td PR (d + 1) 188 av M Q := h
theorem td_X10_rank {d : Nat} {av : List AV} {M : Mem} {Q : PQ} (h : Tot (Td PR d) (some .int) T_X10_rank 0 (lv0 1 av) [] M Q) : Td PR (d + 1) 189 av M Q := h
theorem td_X10_settle {d : Nat} {av : List AV} {M : Mem} {Q : PQ} (h : Tot (Td PR d) none T_X10_settle 0 (lv0 2 av) [] M Q) : Td PR (d + 1) 190 av M Q := h
theorem td_X10_signHere {d : Nat} {av : List AV} {M : Mem} {Q : PQ} (h : Tot (Td PR d) (some .int) T_X10_signHere 0 (lv0 1 av) [] M Q) : Td PR (d + 1) 191 av M Q := h
theorem td_X10_takesPart {d : Nat} {av : List AV} {M : Mem} {Q : PQ} (h : Tot (Td PR d) (some .boolean) T_X10_takesPart 0 (lv0 2 av) [] M Q) : Td PR (d + 1) 192 av M Q := h
theorem td_X10_takesE {d : Nat} {av : List AV} {M : Mem} {Q : PQ} (h : Tot (Td PR d) (some .boolean) T_X10_takesE 0 (lv0 5 av) [] M Q) : Td PR (d + 1) 193 av M Q := h
theorem td_X10_notsOpen {d : Nat} {av : List AV} {M : Mem} {Q : PQ} (h : Tot (Td PR d) (some .int) T_X10_notsOpen 0 (lv0 3 av) [] M Q) : Td PR (d + 1) 194 av M Q := h
theorem td_X10_text {d : Nat} {av : List AV} {M : Mem} {Q : PQ} (h : Tot (Td PR d) (some .int) T_X10_text 0 (lv0 4 av) [] M Q) : Td PR (d + 1) 195 av M Q := h
theorem td_X10_textTold {d : Nat} {av : List AV} {M : Mem} {Q : PQ} (h : Tot (Td PR d) (some .int) T_X10_textTold 0 (lv0 3 av) [] M Q) : Td PR (d + 1) 196 av M Q := h
theorem td_X10_counts {d : Nat} {av : List AV} {M : Mem} {Q : PQ} (h : Tot (Td PR d) (some .int) T_X10_counts 0 (lv0 3 av) [] M Q) : Td PR (d + 1) 197 av M Q := h
theorem td_X10_why {d : Nat} {av : List AV} {M : Mem} {Q : PQ} (h : Tot (Td PR d) (some .int) T_X10_why 0 (lv0 3 av) [] M Q) : Td PR (d + 1) 198 av M Q := h
theorem td_X10_two {d : Nat} {av : List AV} {M : Mem} {Q : PQ} (h : Tot (Td PR d) (some .int) T_X10_two 0 (lv0 3 av) [] M Q) : Td PR (d + 1) 199 av M Q := h
theorem td_X10_worksOut {d : Nat} {av : List AV} {M : Mem} {Q : PQ} (h : Tot (Td PR d) (some .int) T_X10_worksOut 0 (lv0 6 av) [] M Q) : Td PR (d + 1) 200 av M Q := h
theorem td_X10_isSheet {d : Nat} {av : List AV} {M : Mem} {Q : PQ} (h : Tot (Td PR d) (some .boolean) T_X10_isSheet 0 (lv0 1 av) [] M Q) : Td PR (d + 1) 201 av M Q := h
theorem td_X10_isSlot {d : Nat} {av : List AV} {M : Mem} {Q : PQ} (h : Tot (Td PR d) (some .boolean) T_X10_isSlot 0 (lv0 1 av) [] M Q) : Td PR (d + 1) 202 av M Q := h
theorem td_X10_sheet {d : Nat} {av : List AV} {M : Mem} {Q : PQ} (h : Tot (Td PR d) (some .int) T_X10_sheet 0 (lv0 5 av) [] M Q) : Td PR (d + 1) 203 av M Q := h
theorem td_X10_mark {d : Nat} {av : List AV} {M : Mem} {Q : PQ} (h : Tot (Td PR d) (some .int) T_X10_mark 0 (lv0 4 av) [] M Q) : Td PR (d + 1) 204 av M Q := h
theorem td_X10_pour {d : Nat} {av : List AV} {M : Mem} {Q : PQ} (h : Tot (Td PR d) (some .int) T_X10_pour 0 (lv0 6 av) [] M Q) : Td PR (d + 1) 205 av M Q := h
theorem td_X10_reads {d : Nat} {av : List AV} {M : Mem} {Q : PQ} (h : Tot (Td PR d) (some .int) T_X10_reads 0 (lv0 4 av) [] M Q) : Td PR (d + 1) 206 av M Q := h
theorem td_X10_copy {d : Nat} {av : List AV} {M : Mem} {Q : PQ} (h : Tot (Td PR d) (some .int) T_X10_copy 0 (lv0 7 av) [] M Q) : Td PR (d + 1) 207 av M Q := h
theorem td_X10_lay {d : Nat} {av : List AV} {M : Mem} {Q : PQ} (h : Tot (Td PR d) (some .int) T_X10_lay 0 (lv0 6 av) [] M Q) : Td PR (d + 1) 208 av M Q := h
theorem td_X10_ask {d : Nat} {av : List AV} {M : Mem} {Q : PQ} (h : Tot (Td PR d) (some .int) T_X10_ask 0 (lv0 3 av) [] M Q) : Td PR (d + 1) 209 av M Q := h
theorem td_X10_item {d : Nat} {av : List AV} {M : Mem} {Q : PQ} (h : Tot (Td PR d) (some .int) T_X10_item 0 (lv0 4 av) [] M Q) : Td PR (d + 1) 210 av M Q := h
theorem td_X10_rest {d : Nat} {av : List AV} {M : Mem} {Q : PQ} (h : Tot (Td PR d) (some .int) T_X10_rest 0 (lv0 3 av) [] M Q) : Td PR (d + 1) 211 av M Q := h
theorem td_X10_tell {d : Nat} {av : List AV} {M : Mem} {Q : PQ} (h : Tot (Td PR d) (some .int) T_X10_tell 0 (lv0 2 av) [] M Q) : Td PR (d + 1) 212 av M Q := h
theorem td_X10_check {d : Nat} {av : List AV} {M : Mem} {Q : PQ} (h : Tot (Td PR d) (some .int) T_X10_check 0 (lv0 6 av) [] M Q) : Td PR (d + 1) 213 av M Q := h
theorem td_X10_keep {d : Nat} {av : List AV} {M : Mem} {Q : PQ} (h : Tot (Td PR d) (some .int) T_X10_keep 0 (lv0 1 av) [] M Q) : Td PR (d + 1) 214 av M Q := h
theorem td_X10_back {d : Nat} {av : List AV} {M : Mem} {Q : PQ} (h : Tot (Td PR d) (some .int) T_X10_back 0 (lv0 1 av) [] M Q) : Td PR (d + 1) 215 av M Q := h
theorem td_X10_count {d : Nat} {av : List AV} {M : Mem} {Q : PQ} (h : Tot (Td PR d) (some .int) T_X10_count 0 (lv0 2 av) [] M Q) : Td PR (d + 1) 216 av M Q := h
theorem td_J6_bitCount_0f7a4 {d : Nat} {av : List AV} {M : Mem} {Q : PQ} (h : Tot (Td PR d) (some .int) T_J6_bitCount_0f7a4 0 (lv0 1 av) [] M Q) : Td PR (d + 1) 217 av M Q := h
theorem td_J0_length_8abf5 {d : Nat} {av : List AV} {M : Mem} {Q : PQ} (h : Tot (Td PR d) (some .int) T_J0_length_8abf5 0 (lv0 1 av) [] M Q) : Td PR (d + 1) 218 av M Q := h
theorem td_J0_charAt_5068e {d : Nat} {av : List AV} {M : Mem} {Q : PQ} (h : Tot (Td PR d) (some .char) T_J0_charAt_5068e 0 (lv0 2 av) [] M Q) : Td PR (d + 1) 219 av M Q := h
theorem td_J0_indexOf_0f7a4 {d : Nat} {av : List AV} {M : Mem} {Q : PQ} (h : Tot (Td PR d) (some .int) T_J0_indexOf_0f7a4 0 (lv0 2 av) [] M Q) : Td PR (d + 1) 220 av M Q := h
theorem td_J0_indexOf_7cf53 {d : Nat} {av : List AV} {M : Mem} {Q : PQ} (h : Tot (Td PR d) (some .int) T_J0_indexOf_7cf53 0 (lv0 3 av) [] M Q) : Td PR (d + 1) 221 av M Q := h
theorem td_J0_coder_7d493 {d : Nat} {av : List AV} {M : Mem} {Q : PQ} (h : Tot (Td PR d) (some .byte) T_J0_coder_7d493 0 (lv0 1 av) [] M Q) : Td PR (d + 1) 222 av M Q := h
theorem td_J0_isLatin1_aae02 {d : Nat} {av : List AV} {M : Mem} {Q : PQ} (h : Tot (Td PR d) (some .boolean) T_J0_isLatin1_aae02 0 (lv0 1 av) [] M Q) : Td PR (d + 1) 223 av M Q := h
theorem td_J0_checkIndex_df160 {d : Nat} {av : List AV} {M : Mem} {Q : PQ} (h : Tot (Td PR d) none T_J0_checkIndex_df160 0 (lv0 2 av) [] M Q) : Td PR (d + 1) 224 av M Q := h
theorem td_J1_charAt_3b067 {d : Nat} {av : List AV} {M : Mem} {Q : PQ} (h : Tot (Td PR d) (some .char) T_J1_charAt_3b067 0 (lv0 2 av) [] M Q) : Td PR (d + 1) 225 av M Q := h
theorem td_J1_canEncode_9a6ad {d : Nat} {av : List AV} {M : Mem} {Q : PQ} (h : Tot (Td PR d) (some .boolean) T_J1_canEncode_9a6ad 0 (lv0 1 av) [] M Q) : Td PR (d + 1) 226 av M Q := h
theorem td_J1_indexOf_4cfef {d : Nat} {av : List AV} {M : Mem} {Q : PQ} (h : Tot (Td PR d) (some .int) T_J1_indexOf_4cfef 0 (lv0 4 av) [] M Q) : Td PR (d + 1) 227 av M Q := h
theorem td_J1_indexOfChar_4cfef {d : Nat} {av : List AV} {M : Mem} {Q : PQ} (h : Tot (Td PR d) (some .int) T_J1_indexOfChar_4cfef 0 (lv0 6 av) [] M Q) : Td PR (d + 1) 228 av M Q := h
theorem td_J3_checkIndex_8e157 {d : Nat} {av : List AV} {M : Mem} {Q : PQ} (h : Tot (Td PR d) (some .int) T_J3_checkIndex_8e157 0 (lv0 3 av) [] M Q) : Td PR (d + 1) 229 av M Q := h
end
section
-- 04.chk: what the tables say of links, names and decode rows (lists by program gen04.py)
def ALLW : List Cond := lw_tbl.filter goodWord
theorem aw {w : Cond} (i : Nat) (h : lw_tbl[i]? = some w) (g : goodWord w = true) : w ∈ ALLW := List.mem_filter.mpr ⟨List.mem_of_getElem? h, g⟩
def TF (k : Nat) : u_T := match k with
  | 0 => TX0
  | 1 => TX1
  | 2 => TX2
  | 3 => TX3
  | 4 => TX4
  | 5 => TX5
  | 6 => TX6
  | 7 => TX7
  | 8 => TX8
  | 9 => TX9
  | 10 => TX10
  | _ => TX0
def tyF (k : Nat) : Nat → FieldType := match k with
  | 0 => tyX0
  | 1 => tyX1
  | 2 => tyX2
  | 3 => tyX3
  | 4 => tyX4
  | 5 => tyX5
  | 6 => tyX6
  | 7 => tyX7
  | 8 => tyX8
  | 9 => tyX9
  | 10 => tyX10
  | _ => tyX0
def clAll : List vw_C := [(RX0, TX0, 5), (RX1, TX1, 13), (RX2, TX2, 2), (RX3, TX3, 5), (RX4, TX4, 7), (RX5, TX5, 3), (RX6, TX6, 4), (RX7, TX7, 4), (RX8, TX8, 2), (RX9, TX9, 11), (RX10, TX10, 37)]
def mkF (q : Nat × Nat × Nat × Nat × Nat) : Cond := .fieldLink (RO q.1) q.2.1 (TF q.2.2.1 q.2.2.2.1).1 (TF q.2.2.1 q.2.2.2.1).2.1 (TF q.2.2.1 q.2.2.2.1).2.2.1
def FLDS : List (Nat × Nat × Nat × Nat × Nat) := [(0, 9, 0, 0, 175), (0, 15, 0, 1, 178), (0, 18, 0, 2, 182), (0, 21, 0, 3, 185), (1, 36, 1, 2, 235), (1, 17, 1, 1, 232), (1, 43, 1, 4, 240), (1, 24, 1, 3, 238), (1, 29, 1, 5, 242), (1, 49, 1, 6, 244), (1, 52, 1, 7, 246), (1, 55, 1, 8, 248), (1, 58, 1, 9, 250), (1, 61, 1, 10, 252), (1, 33, 1, 11, 254), (1, 64, 1, 12, 256), (1, 67, 0, 0, 176), (1, 70, 0, 1, 180), (1, 73, 0, 2, 183), (1, 76, 0, 3, 186), (1, 79, 3, 0, 208), (1, 82, 3, 1, 211), (1, 85, 3, 2, 214), (1, 88, 3, 3, 217), (1, 9, 1, 0, 231), (1, 125, 0, 4, 188), (1, 131, 3, 4, 219), (1, 163, 5, 1, 308), (1, 171, 5, 2, 311), (2, 11, 2, 0, 122), (2, 22, 7, 0, 103), (2, 26, 7, 2, 109), (2, 18, 2, 1, 124), (2, 29, 7, 1, 107), (3, 7, 3, 0, 207), (3, 13, 3, 1, 210), (3, 16, 3, 2, 213), (3, 19, 3, 3, 216), (4, 22, 4, 1, 139), (4, 9, 4, 0, 138), (4, 18, 4, 6, 146), (4, 26, 4, 3, 143), (4, 29, 4, 4, 144), (4, 47, 4, 2, 141), (4, 63, 4, 5, 145), (4, 90, 7, 0, 104), (5, 11, 5, 0, 305), (5, 19, 5, 1, 307), (5, 15, 5, 2, 310), (7, 15, 7, 0, 102), (7, 19, 7, 2, 108), (7, 22, 7, 3, 110), (7, 9, 7, 1, 106), (8, 9, 8, 0, 291), (8, 19, 1, 2, 236), (8, 25, 1, 1, 233), (8, 29, 0, 1, 179), (8, 15, 8, 1, 292), (9, 28, 9, 2, 349), (9, 81, 1, 2, 237), (9, 92, 1, 1, 234), (9, 96, 0, 0, 177), (9, 101, 0, 1, 181), (9, 104, 0, 2, 184), (9, 107, 0, 3, 187), (9, 114, 1, 10, 253), (9, 131, 1, 5, 243), (9, 137, 1, 11, 255), (9, 140, 1, 4, 241), (9, 149, 1, 3, 239), (9, 153, 3, 0, 209), (9, 158, 3, 1, 212), (9, 161, 3, 2, 215), (9, 164, 3, 3, 218), (9, 181, 1, 6, 245), (9, 192, 1, 7, 247), (9, 195, 1, 8, 249), (9, 198, 1, 9, 251), (9, 47, 9, 6, 353), (9, 32, 9, 3, 350), (9, 53, 9, 7, 354), (9, 10, 9, 0, 347), (9, 19, 9, 1, 348), (9, 250, 4, 1, 140), (9, 256, 2, 0, 123), (9, 260, 1, 12, 257), (9, 267, 4, 2, 142), (9, 270, 7, 0, 105), (9, 275, 7, 3, 111), (9, 287, 5, 0, 306), (9, 290, 5, 2, 312), (9, 295, 5, 1, 309), (9, 60, 9, 8, 355), (9, 315, 6, 0, 332), (9, 318, 6, 1, 334), (9, 325, 6, 2, 336), (9, 332, 6, 3, 337), (9, 69, 9, 10, 357), (9, 65, 9, 9, 356), (9, 38, 9, 5, 352), (9, 35, 9, 4, 351), (10, 9, 10, 0, 1020), (10, 57, 10, 26, 1046), (10, 19, 10, 4, 1024), (10, 22, 10, 5, 1025), (10, 25, 10, 6, 1026), (10, 28, 10, 7, 1027), (10, 60, 10, 27, 1047), (10, 31, 10, 8, 1028), (10, 63, 10, 28, 1048), (10, 66, 10, 29, 1049), (10, 217, 10, 10, 1030), (10, 34, 10, 9, 1029), (10, 221, 10, 11, 1031), (10, 224, 10, 12, 1032), (10, 227, 10, 15, 1035), (10, 230, 10, 13, 1033), (10, 236, 10, 14, 1034), (10, 41, 10, 18, 1038), (10, 37, 10, 17, 1037), (10, 242, 10, 16, 1036), (10, 248, 10, 23, 1043), (10, 47, 10, 22, 1042), (10, 44, 10, 19, 1039), (10, 254, 10, 20, 1040), (10, 260, 10, 21, 1041), (10, 50, 10, 24, 1044), (10, 54, 10, 25, 1045), (10, 81, 10, 34, 1054), (10, 69, 10, 30, 1050), (10, 72, 10, 31, 1051), (10, 75, 10, 32, 1052), (10, 78, 10, 33, 1053), (10, 293, 10, 36, 1056), (10, 84, 10, 35, 1055), (10, 296, 10, 3, 1023), (10, 16, 10, 2, 1022), (10, 13, 10, 1, 1021)]
theorem fld_ok : ∀ q ∈ FLDS, lw_tbl[q.2.2.2.2]? = some (mkF q) ∧ goodWord (mkF q) = true := by decide +kernel
/-- fields of the JDK's -/
def mkS (q : Nat × Nat × Nat × Nat × Nat) : Cond := match q.2.2.1, q.2.2.2.1 with
  | 100, 0 => .fieldLink (RO q.1) q.2.1 "java/lang/String" "value" "[B"
  | 100, _ => .fieldLink (RO q.1) q.2.1 "java/lang/String" "coder" "B"
  | _, 0 => .fieldLink (RO q.1) q.2.1 "java/lang/String" "COMPACT_STRINGS" "Z"
  | _, _ => .fieldLink (RO q.1) q.2.1 "jdk/internal/util/Preconditions" "SIOOBE_FORMATTER" "Ljava/util/function/BiFunction;"
def FLDJ : List (Nat × Nat × Nat × Nat × Nat) := [(12, 9, 100, 0, 1523), (12, 38, 200, 0, 758), (12, 15, 100, 1, 1524), (12, 1053, 200, 1, 774)]
theorem flj_ok : ∀ q ∈ FLDJ, lw_tbl[q.2.2.2.2]? = some (mkS q) ∧ goodWord (mkS q) = true := by decide +kernel
def mkM (q : Nat × Nat × Nat × Nat × Nat) : Cond := match q.2.2.2.1 with
  | 2 => .methodLinkNest (RO q.1) q.2.1 (PR q.2.2.1).2.2.1 "BedsArePlaces"
  | 3 => .methodLink (RO q.1) q.2.1 arraycopyName
  | 4 => .methodLink (RO q.1) q.2.1 Lib.Math.abs.name
  | 5 => .methodLink (RO q.1) q.2.1 Lib.Math.max.name
  | 6 => .methodLink (RO q.1) q.2.1 Lib.Math.min.name
  | _ => .methodLink (RO q.1) q.2.1 (PR q.2.2.1).2.2.1
def MTHS : List (Nat × Nat × Nat × Nat × Nat) := [(0, 24, 900, 4, 421), (1, 39, 0, 0, 633), (1, 46, 30, 0, 637), (1, 92, 27, 0, 478), (1, 98, 13, 0, 486), (1, 102, 28, 0, 490), (1, 109, 15, 0, 567), (1, 113, 19, 0, 645), (1, 116, 20, 0, 529), (1, 119, 22, 0, 541), (1, 122, 24, 0, 554), (1, 128, 11, 0, 533), (1, 134, 12, 0, 534), (1, 138, 21, 0, 535), (1, 141, 900, 6, 540), (1, 146, 2, 0, 539), (1, 150, 3, 0, 545), (1, 153, 23, 0, 546), (1, 157, 6, 0, 550), (1, 160, 10, 0, 558), (1, 168, 53, 0, 683), (2, 32, 29, 1, 494), (4, 32, 33, 0, 721), (4, 35, 40, 0, 741), (4, 39, 56, 0, 800), (4, 43, 45, 0, 804), (4, 50, 36, 0, 725), (4, 54, 34, 0, 729), (4, 57, 37, 0, 733), (4, 60, 35, 0, 737), (4, 66, 218, 0, 750), (4, 70, 219, 0, 760), (4, 76, 39, 0, 746), (4, 93, 41, 1, 828), (4, 97, 220, 0, 834), (4, 111, 43, 1, 909), (4, 114, 46, 0, 808), (4, 118, 44, 0, 905), (4, 121, 58, 0, 897), (4, 125, 57, 0, 812), (4, 128, 47, 0, 820), (4, 132, 38, 0, 889), (4, 136, 48, 0, 893), (4, 139, 49, 0, 901), (4, 142, 42, 0, 824), (5, 22, 51, 0, 687), (5, 27, 900, 3, 976), (7, 25, 59, 0, 816), (8, 34, 4, 0, 587), (8, 38, 60, 0, 583), (8, 42, 61, 0, 605), (8, 45, 217, 1, 619), (8, 51, 64, 0, 606), (8, 54, 900, 5, 610), (9, 73, 114, 1, 385), (9, 77, 113, 1, 388), (9, 85, 8, 0, 393), (9, 89, 111, 0, 401), (9, 110, 2, 0, 405), (9, 117, 3, 0, 409), (9, 121, 4, 0, 413), (9, 124, 5, 0, 417), (9, 127, 1, 0, 428), (9, 134, 10, 0, 449), (9, 143, 9, 0, 462), (9, 146, 112, 0, 470), (9, 167, 11, 0, 474), (9, 171, 12, 0, 482), (9, 175, 117, 1, 510), (9, 178, 14, 0, 517), (9, 184, 900, 6, 500), (9, 189, 19, 0, 525), (9, 201, 16, 0, 563), (9, 204, 17, 0, 571), (9, 207, 61, 0, 579), (9, 210, 62, 0, 592), (9, 214, 65, 0, 601), (9, 217, 63, 0, 615), (9, 220, 7, 0, 629), (9, 223, 18, 0, 641), (9, 227, 25, 0, 650), (9, 230, 217, 1, 662), (9, 235, 115, 1, 671), (9, 238, 50, 0, 674), (9, 243, 26, 0, 679), (9, 247, 28, 0, 696), (9, 253, 31, 0, 705), (9, 263, 32, 0, 717), (9, 278, 54, 0, 930), (9, 283, 51, 0, 939), (9, 296, 53, 0, 947), (9, 299, 118, 1, 948), (9, 302, 52, 0, 957), (9, 306, 900, 3, 961), (9, 312, 116, 1, 968), (9, 322, 0, 0, 971), (9, 329, 55, 0, 972), (9, 336, 119, 0, 998), (9, 339, 900, 5, 503), (10, 87, 120, 1, 1138), (10, 91, 127, 0, 1150), (10, 95, 125, 1, 1141), (10, 101, 131, 0, 1146), (10, 105, 126, 0, 1162), (10, 109, 123, 0, 1158), (10, 112, 133, 0, 1166), (10, 116, 134, 0, 1170), (10, 119, 135, 0, 1174), (10, 122, 136, 0, 1178), (10, 125, 138, 1, 1186), (10, 130, 130, 0, 1194), (10, 134, 143, 0, 1210), (10, 138, 129, 0, 1223), (10, 141, 128, 0, 1243), (10, 144, 197, 0, 1239), (10, 147, 147, 0, 1247), (10, 150, 200, 0, 1251), (10, 153, 121, 1, 1258), (10, 157, 124, 0, 1231), (10, 160, 148, 0, 1235), (10, 163, 152, 1, 1289), (10, 166, 153, 0, 1285), (10, 169, 154, 0, 1281), (10, 173, 155, 0, 1292), (10, 176, 156, 0, 1277), (10, 179, 157, 0, 1273), (10, 182, 159, 0, 1304), (10, 185, 160, 0, 1300), (10, 188, 161, 0, 1308), (10, 191, 164, 0, 1320), (10, 194, 163, 0, 1316), (10, 198, 168, 0, 1337), (10, 201, 170, 0, 1345), (10, 204, 171, 0, 1349), (10, 207, 173, 0, 1357), (10, 210, 176, 0, 1369), (10, 213, 201, 1, 1381), (10, 233, 184, 0, 1409), (10, 239, 185, 0, 1413), (10, 245, 186, 0, 1405), (10, 251, 189, 1, 1437), (10, 257, 188, 0, 1429), (10, 263, 190, 0, 1433), (10, 266, 192, 0, 1425), (10, 270, 194, 0, 1440), (10, 273, 191, 0, 1444), (10, 276, 187, 0, 1417), (10, 279, 193, 0, 1421), (10, 282, 199, 1, 1255), (10, 289, 202, 1, 1484), (10, 300, 122, 1, 1508), (12, 335, 222, 0, 754), (12, 492, 223, 0, 764), (12, 495, 225, 1, 768), (12, 633, 221, 0, 838), (12, 505, 218, 0, 842), (12, 637, 227, 1, 843), (12, 1059, 229, 1, 776), (13, 9, 224, 1, 771), (13, 88, 226, 1, 846), (13, 92, 900, 5, 849), (13, 38, 900, 6, 850), (13, 95, 228, 1, 851), (11, 13, 66, 0, 381), (11, 17, 132, 0, 1134), (11, 18, 67, 0, 397), (11, 22, 137, 0, 1154), (11, 23, 68, 0, 424), (11, 26, 139, 0, 1182), (11, 27, 69, 0, 433), (11, 30, 140, 0, 1190), (11, 31, 70, 0, 437), (11, 35, 141, 0, 1198), (11, 36, 71, 0, 441), (11, 40, 142, 0, 1202), (11, 41, 72, 0, 445), (11, 44, 144, 0, 1206), (11, 45, 73, 0, 454), (11, 48, 145, 0, 1215), (11, 49, 74, 0, 458), (11, 52, 146, 0, 1219), (11, 53, 75, 0, 466), (11, 56, 149, 0, 1227), (11, 57, 76, 0, 506), (11, 60, 150, 0, 1261), (11, 61, 77, 0, 513), (11, 64, 151, 0, 1265), (11, 65, 78, 0, 521), (11, 68, 158, 0, 1269), (11, 69, 79, 0, 559), (11, 72, 162, 0, 1296), (11, 73, 80, 0, 575), (11, 76, 165, 0, 1312), (11, 77, 81, 0, 588), (11, 80, 166, 0, 1324), (11, 81, 82, 0, 597), (11, 85, 167, 0, 1329), (11, 86, 83, 0, 611), (11, 89, 169, 0, 1333), (11, 90, 84, 0, 625), (11, 93, 172, 0, 1341), (11, 94, 85, 0, 646), (11, 97, 174, 0, 1353), (11, 98, 86, 0, 654), (11, 101, 175, 0, 1361), (11, 102, 87, 0, 658), (11, 105, 177, 0, 1365), (11, 106, 88, 0, 663), (11, 109, 178, 0, 1373), (11, 110, 89, 0, 667), (11, 113, 179, 0, 1377), (11, 114, 90, 0, 692), (11, 117, 180, 0, 1385), (11, 118, 91, 0, 697), (11, 121, 181, 0, 1389), (11, 122, 92, 0, 701), (11, 125, 182, 0, 1393), (11, 126, 93, 0, 709), (11, 129, 183, 0, 1397), (11, 130, 94, 0, 713), (11, 133, 195, 0, 1401), (11, 134, 95, 0, 918), (11, 137, 196, 0, 1448), (11, 138, 96, 0, 922), (11, 141, 198, 0, 1452), (11, 142, 97, 0, 926), (11, 145, 203, 0, 1456), (11, 146, 98, 0, 935), (11, 149, 204, 0, 1461), (11, 150, 99, 0, 943), (11, 153, 205, 0, 1468), (11, 154, 100, 0, 949), (11, 157, 206, 0, 1472), (11, 158, 101, 0, 953), (11, 162, 207, 0, 1476), (11, 163, 102, 0, 964), (11, 166, 208, 0, 1480), (11, 167, 103, 0, 977), (11, 170, 209, 0, 1487), (11, 171, 104, 0, 981), (11, 174, 210, 0, 1491), (11, 175, 105, 0, 985), (11, 178, 211, 0, 1495), (11, 179, 106, 0, 990), (11, 182, 212, 0, 1500), (11, 183, 107, 0, 994), (11, 186, 213, 0, 1504), (11, 187, 108, 0, 1002), (11, 190, 214, 0, 1511), (11, 191, 109, 0, 1006), (11, 194, 215, 0, 1515), (11, 195, 110, 0, 1010), (11, 198, 216, 0, 1519)]
def NSTS : List (Nat × Nat × Nat × Nat × Nat) := [(1, 106, 118, 2, 497)]
theorem nst_ok : ∀ q ∈ NSTS, lw_tbl[q.2.2.2.2]? = some (mkM q) := by decide +kernel
theorem mth_ok : ∀ q ∈ MTHS, lw_tbl[q.2.2.2.2]? = some (mkM q) ∧ goodWord (mkM q) = true := by decide +kernel
def CSTS : List (Nat × Nat × Int32 × Nat) := [(1, 91, 1103515245, 453), (5, 26, (-1000000005), 691), (9, 80, (-1000000001), 391), (9, 84, (-1000000003), 392), (9, 130, (-1000000012), 432), (9, 213, (-1000000005), 596), (9, 242, (-1000000011), 678), (9, 282, (-1000000014), 934), (9, 286, (-1000000013), 940), (9, 293, (-99999), 941), (9, 294, 99999, 942), (9, 335, (-1000000002), 989), (10, 99, (-1000000001), 1144), (10, 100, (-1000000003), 1145), (10, 129, (-1000000012), 1189), (10, 133, 1103515245, 1214), (10, 197, (-1000000005), 1328), (10, 216, (-1000000011), 1384), (10, 285, (-1000000014), 1460), (10, 286, (-1000000013), 1465), (10, 287, (-99999), 1466), (10, 288, 99999, 1467), (10, 292, (-1000000002), 1499), (15, 265, 1431655765, 622), (15, 266, 858993459, 623), (15, 267, 252645135, 624)]
theorem cst_ok : ∀ q ∈ CSTS, lw_tbl[q.2.2.2]? = some (Cond.constant (RO q.1) q.2.1 q.2.2.1) ∧ goodWord (Cond.constant (RO q.1) q.2.1 q.2.2.1) = true := by decide +kernel
def MP : List (Nat × Nat × Nat × Nat × Nat) := [(636, 67, 634, 635, 1), (431, 67, 429, 430, 1), (408, 67, 406, 407, 0), (412, 67, 410, 411, 2), (416, 67, 414, 415, 0), (420, 67, 418, 419, 0), (553, 67, 551, 552, 0), (632, 66, 630, 631, 1), (396, 66, 394, 395, 4), (465, 66, 463, 464, 2), (452, 66, 450, 451, 0), (477, 66, 475, 476, 1), (485, 66, 483, 484, 2), (489, 66, 487, 488, 1), (520, 66, 518, 519, 1), (570, 66, 568, 569, 1), (566, 66, 564, 565, 0), (574, 66, 572, 573, 0), (644, 66, 642, 643, 1), (528, 66, 526, 527, 0), (532, 66, 530, 531, 0), (538, 66, 536, 537, 1), (544, 66, 542, 543, 0), (549, 66, 547, 548, 3), (557, 66, 555, 556, 0), (653, 66, 651, 652, 2), (682, 66, 680, 681, 2), (481, 63, 479, 480, 2), (493, 63, 491, 492, 4), (496, 63, 495, 0, 3), (640, 68, 638, 639, 1), (708, 65, 706, 707, 1), (720, 65, 718, 719, 1), (724, 65, 723, 2, 0), (732, 65, 731, 4, 0), (740, 65, 739, 6, 0), (728, 65, 727, 3, 1), (736, 65, 735, 5, 1), (892, 65, 891, 14, 1), (749, 65, 748, 8, 1), (744, 65, 743, 7, 0), (830, 65, 829, 0, 1), (827, 65, 826, 13, 0), (911, 65, 910, 0, 1), (908, 65, 907, 17, 1), (807, 65, 806, 9, 3), (811, 65, 810, 10, 2), (823, 65, 822, 12, 0), (896, 65, 895, 15, 2), (904, 65, 903, 16, 2), (677, 70, 675, 676, 0), (690, 70, 688, 689, 1), (960, 70, 958, 959, 2), (686, 70, 684, 685, 1), (933, 70, 931, 932, 2), (975, 70, 973, 974, 1), (803, 64, 801, 802, 1), (815, 64, 813, 814, 1), (900, 64, 898, 899, 1), (819, 64, 818, 11, 1), (586, 69, 584, 585, 2), (582, 69, 580, 581, 2), (595, 69, 593, 594, 2), (618, 69, 616, 617, 1), (609, 69, 607, 608, 1), (604, 69, 602, 603, 0), (384, 62, 382, 383, 4), (400, 62, 398, 399, 2), (427, 62, 425, 426, 2), (436, 62, 434, 435, 2), (440, 62, 438, 439, 3), (444, 62, 442, 443, 1), (448, 62, 446, 447, 1), (457, 62, 455, 456, 1), (461, 62, 459, 460, 2), (469, 62, 467, 468, 2), (509, 62, 507, 508, 3), (516, 62, 514, 515, 1), (524, 62, 522, 523, 1), (562, 62, 560, 561, 1), (578, 62, 576, 577, 1), (591, 62, 589, 590, 2), (600, 62, 598, 599, 0), (614, 62, 612, 613, 1), (628, 62, 626, 627, 2), (649, 62, 647, 648, 1), (657, 62, 655, 656, 2), (661, 62, 659, 660, 3), (666, 62, 664, 665, 3), (670, 62, 668, 669, 2), (695, 62, 693, 694, 0), (700, 62, 698, 699, 1), (704, 62, 702, 703, 3), (712, 62, 710, 711, 1), (716, 62, 714, 715, 0), (921, 62, 919, 920, 2), (925, 62, 923, 924, 1), (929, 62, 927, 928, 3), (938, 62, 936, 937, 3), (946, 62, 944, 945, 1), (952, 62, 950, 951, 1), (956, 62, 954, 955, 5), (967, 62, 965, 966, 3), (980, 62, 978, 979, 2), (984, 62, 982, 983, 2), (988, 62, 986, 987, 2), (993, 62, 991, 992, 1), (997, 62, 995, 996, 1), (1005, 62, 1003, 1004, 0), (1009, 62, 1007, 1008, 0), (1013, 62, 1011, 1012, 1), (404, 62, 403, 0, 1), (473, 62, 472, 1, 1), (390, 62, 389, 0, 1), (387, 62, 386, 0, 1), (673, 62, 672, 0, 1), (970, 62, 969, 0, 1), (512, 62, 511, 0, 1), (499, 62, 498, 0, 2), (1001, 62, 1000, 18, 2), (1140, 72, 1139, 0, 3), (1260, 72, 1259, 0, 3), (1510, 72, 1509, 0, 2), (1161, 72, 1160, 21, 1), (1234, 72, 1233, 30, 1), (1143, 72, 1142, 0, 1), (1165, 72, 1164, 22, 2), (1153, 72, 1152, 20, 3), (1246, 72, 1245, 33, 2), (1226, 72, 1225, 29, 3), (1197, 72, 1196, 27, 2), (1149, 72, 1148, 19, 4), (1137, 72, 1135, 1136, 4), (1169, 72, 1168, 23, 1), (1173, 72, 1172, 24, 2), (1177, 72, 1176, 25, 1), (1181, 72, 1180, 26, 1), (1157, 72, 1155, 1156, 2), (1188, 72, 1187, 0, 2), (1185, 72, 1183, 1184, 2), (1193, 72, 1191, 1192, 2), (1201, 72, 1199, 1200, 3), (1205, 72, 1203, 1204, 1), (1213, 72, 1212, 28, 0), (1209, 72, 1207, 1208, 1), (1218, 72, 1216, 1217, 1), (1222, 72, 1220, 1221, 2), (1250, 72, 1249, 34, 1), (1238, 72, 1237, 31, 1), (1230, 72, 1228, 1229, 2), (1264, 72, 1262, 1263, 3), (1268, 72, 1266, 1267, 1), (1291, 72, 1290, 0, 1), (1288, 72, 1287, 39, 1), (1284, 72, 1283, 38, 1), (1295, 72, 1294, 40, 1), (1280, 72, 1279, 37, 0), (1276, 72, 1275, 36, 1), (1272, 72, 1270, 1271, 1), (1307, 72, 1306, 42, 1), (1303, 72, 1302, 41, 0), (1311, 72, 1310, 43, 0), (1299, 72, 1297, 1298, 1), (1319, 72, 1318, 44, 1), (1323, 72, 1322, 45, 1), (1315, 72, 1313, 1314, 1), (1327, 72, 1325, 1326, 2), (1332, 72, 1330, 1331, 0), (1340, 72, 1339, 46, 1), (1336, 72, 1334, 1335, 1), (1348, 72, 1347, 47, 0), (1352, 72, 1351, 48, 0), (1344, 72, 1342, 1343, 2), (1360, 72, 1359, 49, 2), (1356, 72, 1354, 1355, 1), (1364, 72, 1362, 1363, 2), (1372, 72, 1371, 50, 4), (1368, 72, 1366, 1367, 3), (1376, 72, 1374, 1375, 3), (1380, 72, 1378, 1379, 2), (1388, 72, 1386, 1387, 0), (1392, 72, 1390, 1391, 1), (1396, 72, 1394, 1395, 3), (1400, 72, 1398, 1399, 1), (1412, 72, 1411, 52, 1), (1416, 72, 1415, 53, 1), (1408, 72, 1407, 51, 0), (1420, 72, 1419, 54, 0), (1432, 72, 1431, 57, 1), (1439, 72, 1438, 0, 1), (1436, 72, 1435, 58, 1), (1447, 72, 1446, 60, 0), (1428, 72, 1427, 56, 0), (1424, 72, 1423, 55, 0), (1443, 72, 1442, 59, 0), (1404, 72, 1402, 1403, 0), (1451, 72, 1449, 1450, 2), (1242, 72, 1241, 32, 1), (1455, 72, 1453, 1454, 1), (1257, 72, 1256, 0, 3), (1254, 72, 1253, 35, 1), (1383, 72, 1382, 0, 1), (1486, 72, 1485, 0, 1), (1459, 72, 1457, 1458, 3), (1464, 72, 1462, 1463, 3), (1471, 72, 1469, 1470, 1), (1475, 72, 1473, 1474, 1), (1479, 72, 1477, 1478, 5), (1483, 72, 1481, 1482, 3), (1490, 72, 1488, 1489, 2), (1494, 72, 1492, 1493, 2), (1498, 72, 1496, 1497, 2), (1503, 72, 1501, 1502, 1), (1507, 72, 1505, 1506, 1), (1514, 72, 1512, 1513, 0), (1518, 72, 1516, 1517, 0), (1522, 72, 1520, 1521, 1), (621, 74, 620, 0, 1), (753, 75, 751, 752, 0), (763, 75, 761, 762, 1), (837, 75, 835, 836, 1), (841, 75, 839, 840, 2), (757, 75, 755, 756, 0), (767, 75, 765, 766, 0), (773, 75, 772, 0, 2), (770, 76, 769, 0, 2), (848, 76, 847, 0, 1), (845, 76, 844, 0, 4), (853, 76, 852, 0, 4), (778, 77, 777, 0, 3)]
def npM (m : Nat) : Nat := (MP.getD m (0, 0, 0, 0, 0)).2.2.2.2
def cwM (m : Nat) : Cond := .code (PR m).2.2.1 (PR m).2.2.2.1 (PR m).2.2.2.2.1 (PR m).2.2.2.2.2.1
def kwM (m : Nat) : Cond := match (PR m).2.1 with
  | 0 => .instanceMethod (PR m).2.2.1
  | _ => .static (PR m).2.2.1
def swM (m : Nat) : Cond := match (PR m).2.1 with
  | 0 => .selects (RO (PR m).1) (PR m).2.2.1 (PR m).2.2.1
  | _ => .initialized (RO (PR m).1)
def MW (m : Nat) : Bool := match MP.getD m (0, 0, 0, 0, 0) with
  | (_, b, c, d, n) => decide (lw_tbl[b]? = some (.initialized (RO (PR m).1))) && goodWord (.initialized (RO (PR m).1)) && decide (lw_tbl[c]? = some (kwM m)) && goodWord (kwM m) &&
    (match (PR m).2.1 with | 0 => decide (lw_tbl[d]? = some (swM m)) && goodWord (swM m) | 1 => true | _ => false) &&
    decide ((PR m).2.2.1.cls = RO (PR m).1) && plainName (PR m).2.2.1.cls && decide ((PR m).2.2.1.cls ≠ "java/lang/invoke/MethodHandle") && decide ((PR m).2.2.1.cls ≠ "java/lang/invoke/VarHandle") && decide ((parseMethodDescriptor (PR m).2.2.1.desc).map (fun d => d.parameters.length) = some n) && decide ((PR m).2.2.2.2.2.1.isSome = true ∨ (PR m).2.2.2.2.2.1 = none)
theorem in_1 {w : Cond} (h : w ∈ tables_1_1) : w ∈ lw_tbl := List.mem_append_right _ (List.mem_append_left _ h)
theorem in_2 {w : Cond} (h : w ∈ tables_1_2) : w ∈ lw_tbl := List.mem_append_right _ (List.mem_append_right _ (List.mem_append_left _ h))
theorem in_3 {w : Cond} (h : w ∈ tables_1_3) : w ∈ lw_tbl := List.mem_append_right _ (List.mem_append_right _ (List.mem_append_right _ (List.mem_append_left _ h)))
theorem in_4 {w : Cond} (h : w ∈ tables_1_4) : w ∈ lw_tbl := List.mem_append_right _ (List.mem_append_right _ (List.mem_append_right _ (List.mem_append_right _ (List.mem_append_left _ h))))
theorem in_5 {w : Cond} (h : w ∈ tables_1_5) : w ∈ lw_tbl := List.mem_append_right _ (List.mem_append_right _ (List.mem_append_right _ (List.mem_append_right _ (List.mem_append_right _ (List.mem_append_left _ h)))))
theorem in_6 {w : Cond} (h : w ∈ tables_1_6) : w ∈ lw_tbl := List.mem_append_right _ (List.mem_append_right _ (List.mem_append_right _ (List.mem_append_right _ (List.mem_append_right _ (List.mem_append_right _ (List.mem_append_left _ h))))))
theorem in_7 {w : Cond} (h : w ∈ tables_1_7) : w ∈ lw_tbl := List.mem_append_right _ (List.mem_append_right _ (List.mem_append_right _ (List.mem_append_right _ (List.mem_append_right _ (List.mem_append_right _ (List.mem_append_right _ (h)))))))
set_option maxRecDepth 100000 in
theorem math_ini : Cond.initialized "java/lang/Math" ∈ ALLW := List.mem_filter.mpr ⟨in_1 (List.mem_of_getElem? (i := 12) rfl), rfl⟩
set_option maxRecDepth 100000 in
theorem math_sabs : Cond.static Lib.Math.abs.name ∈ ALLW := List.mem_filter.mpr ⟨in_2 (List.mem_of_getElem? (i := 121) rfl), rfl⟩
set_option maxRecDepth 100000 in
theorem math_cabs : Cond.code Lib.Math.abs.name Lib.Math.abs.code 1 (some .int) ∈ ALLW := List.mem_filter.mpr ⟨in_2 (List.mem_of_getElem? (i := 122) rfl), rfl⟩
set_option maxRecDepth 100000 in
theorem math_smax : Cond.static Lib.Math.max.name ∈ ALLW := List.mem_filter.mpr ⟨in_2 (List.mem_of_getElem? (i := 203) rfl), rfl⟩
set_option maxRecDepth 100000 in
theorem math_cmax : Cond.code Lib.Math.max.name Lib.Math.max.code 2 (some .int) ∈ ALLW := List.mem_filter.mpr ⟨in_2 (List.mem_of_getElem? (i := 204) rfl), rfl⟩
set_option maxRecDepth 100000 in
theorem math_smin : Cond.static Lib.Math.min.name ∈ ALLW := List.mem_filter.mpr ⟨in_2 (List.mem_of_getElem? (i := 200) rfl), rfl⟩
set_option maxRecDepth 100000 in
theorem math_cmin : Cond.code Lib.Math.min.name Lib.Math.min.code 2 (some .int) ∈ ALLW := List.mem_filter.mpr ⟨in_2 (List.mem_of_getElem? (i := 201) rfl), rfl⟩
set_option maxRecDepth 100000 in
theorem cw_0 : cwM 0 ∈ lw_tbl ∧ goodWord (cwM 0) = true := ⟨in_3 (List.mem_of_getElem? (i := 95) rfl), rfl⟩
set_option maxRecDepth 100000 in
theorem cw_1 : cwM 1 ∈ lw_tbl ∧ goodWord (cwM 1) = true := ⟨in_2 (List.mem_of_getElem? (i := 130) rfl), rfl⟩
set_option maxRecDepth 100000 in
theorem cw_2 : cwM 2 ∈ lw_tbl ∧ goodWord (cwM 2) = true := ⟨in_2 (List.mem_of_getElem? (i := 107) rfl), rfl⟩
set_option maxRecDepth 100000 in
theorem cw_3 : cwM 3 ∈ lw_tbl ∧ goodWord (cwM 3) = true := ⟨in_2 (List.mem_of_getElem? (i := 111) rfl), rfl⟩
set_option maxRecDepth 100000 in
theorem cw_4 : cwM 4 ∈ lw_tbl ∧ goodWord (cwM 4) = true := ⟨in_2 (List.mem_of_getElem? (i := 115) rfl), rfl⟩
set_option maxRecDepth 100000 in
theorem cw_5 : cwM 5 ∈ lw_tbl ∧ goodWord (cwM 5) = true := ⟨in_2 (List.mem_of_getElem? (i := 119) rfl), rfl⟩
set_option maxRecDepth 100000 in
theorem cw_6 : cwM 6 ∈ lw_tbl ∧ goodWord (cwM 6) = true := ⟨in_3 (List.mem_of_getElem? (i := 12) rfl), rfl⟩
set_option maxRecDepth 100000 in
theorem cw_7 : cwM 7 ∈ lw_tbl ∧ goodWord (cwM 7) = true := ⟨in_3 (List.mem_of_getElem? (i := 91) rfl), rfl⟩
set_option maxRecDepth 100000 in
theorem cw_8 : cwM 8 ∈ lw_tbl ∧ goodWord (cwM 8) = true := ⟨in_2 (List.mem_of_getElem? (i := 95) rfl), rfl⟩
set_option maxRecDepth 100000 in
theorem cw_9 : cwM 9 ∈ lw_tbl ∧ goodWord (cwM 9) = true := ⟨in_2 (List.mem_of_getElem? (i := 164) rfl), rfl⟩
set_option maxRecDepth 100000 in
theorem cw_10 : cwM 10 ∈ lw_tbl ∧ goodWord (cwM 10) = true := ⟨in_2 (List.mem_of_getElem? (i := 151) rfl), rfl⟩
set_option maxRecDepth 100000 in
theorem cw_11 : cwM 11 ∈ lw_tbl ∧ goodWord (cwM 11) = true := ⟨in_2 (List.mem_of_getElem? (i := 176) rfl), rfl⟩
set_option maxRecDepth 100000 in
theorem cw_12 : cwM 12 ∈ lw_tbl ∧ goodWord (cwM 12) = true := ⟨in_2 (List.mem_of_getElem? (i := 184) rfl), rfl⟩
set_option maxRecDepth 100000 in
theorem cw_13 : cwM 13 ∈ lw_tbl ∧ goodWord (cwM 13) = true := ⟨in_2 (List.mem_of_getElem? (i := 188) rfl), rfl⟩
set_option maxRecDepth 100000 in
theorem cw_14 : cwM 14 ∈ lw_tbl ∧ goodWord (cwM 14) = true := ⟨in_2 (List.mem_of_getElem? (i := 219) rfl), rfl⟩
set_option maxRecDepth 100000 in
theorem cw_15 : cwM 15 ∈ lw_tbl ∧ goodWord (cwM 15) = true := ⟨in_3 (List.mem_of_getElem? (i := 29) rfl), rfl⟩
set_option maxRecDepth 100000 in
theorem cw_16 : cwM 16 ∈ lw_tbl ∧ goodWord (cwM 16) = true := ⟨in_3 (List.mem_of_getElem? (i := 25) rfl), rfl⟩
set_option maxRecDepth 100000 in
theorem cw_17 : cwM 17 ∈ lw_tbl ∧ goodWord (cwM 17) = true := ⟨in_3 (List.mem_of_getElem? (i := 33) rfl), rfl⟩
set_option maxRecDepth 100000 in
theorem cw_18 : cwM 18 ∈ lw_tbl ∧ goodWord (cwM 18) = true := ⟨in_3 (List.mem_of_getElem? (i := 103) rfl), rfl⟩
set_option maxRecDepth 100000 in
theorem cw_19 : cwM 19 ∈ lw_tbl ∧ goodWord (cwM 19) = true := ⟨in_2 (List.mem_of_getElem? (i := 227) rfl), rfl⟩
set_option maxRecDepth 100000 in
theorem cw_20 : cwM 20 ∈ lw_tbl ∧ goodWord (cwM 20) = true := ⟨in_2 (List.mem_of_getElem? (i := 231) rfl), rfl⟩
set_option maxRecDepth 100000 in
theorem cw_21 : cwM 21 ∈ lw_tbl ∧ goodWord (cwM 21) = true := ⟨in_2 (List.mem_of_getElem? (i := 237) rfl), rfl⟩
set_option maxRecDepth 100000 in
theorem cw_22 : cwM 22 ∈ lw_tbl ∧ goodWord (cwM 22) = true := ⟨in_3 (List.mem_of_getElem? (i := 3) rfl), rfl⟩
set_option maxRecDepth 100000 in
theorem cw_23 : cwM 23 ∈ lw_tbl ∧ goodWord (cwM 23) = true := ⟨in_3 (List.mem_of_getElem? (i := 8) rfl), rfl⟩
set_option maxRecDepth 100000 in
theorem cw_24 : cwM 24 ∈ lw_tbl ∧ goodWord (cwM 24) = true := ⟨in_3 (List.mem_of_getElem? (i := 16) rfl), rfl⟩
set_option maxRecDepth 100000 in
theorem cw_25 : cwM 25 ∈ lw_tbl ∧ goodWord (cwM 25) = true := ⟨in_3 (List.mem_of_getElem? (i := 112) rfl), rfl⟩
set_option maxRecDepth 100000 in
theorem cw_26 : cwM 26 ∈ lw_tbl ∧ goodWord (cwM 26) = true := ⟨in_3 (List.mem_of_getElem? (i := 141) rfl), rfl⟩
set_option maxRecDepth 100000 in
theorem cw_27 : cwM 27 ∈ lw_tbl ∧ goodWord (cwM 27) = true := ⟨in_2 (List.mem_of_getElem? (i := 180) rfl), rfl⟩
set_option maxRecDepth 100000 in
theorem cw_28 : cwM 28 ∈ lw_tbl ∧ goodWord (cwM 28) = true := ⟨in_2 (List.mem_of_getElem? (i := 192) rfl), rfl⟩
set_option maxRecDepth 100000 in
theorem cw_29 : cwM 29 ∈ lw_tbl ∧ goodWord (cwM 29) = true := ⟨in_2 (List.mem_of_getElem? (i := 195) rfl), rfl⟩
set_option maxRecDepth 100000 in
theorem cw_30 : cwM 30 ∈ lw_tbl ∧ goodWord (cwM 30) = true := ⟨in_3 (List.mem_of_getElem? (i := 99) rfl), rfl⟩
set_option maxRecDepth 100000 in
theorem cw_31 : cwM 31 ∈ lw_tbl ∧ goodWord (cwM 31) = true := ⟨in_3 (List.mem_of_getElem? (i := 167) rfl), rfl⟩
set_option maxRecDepth 100000 in
theorem cw_32 : cwM 32 ∈ lw_tbl ∧ goodWord (cwM 32) = true := ⟨in_3 (List.mem_of_getElem? (i := 179) rfl), rfl⟩
set_option maxRecDepth 100000 in
theorem cw_33 : cwM 33 ∈ lw_tbl ∧ goodWord (cwM 33) = true := ⟨in_3 (List.mem_of_getElem? (i := 183) rfl), rfl⟩
set_option maxRecDepth 100000 in
theorem cw_34 : cwM 34 ∈ lw_tbl ∧ goodWord (cwM 34) = true := ⟨in_3 (List.mem_of_getElem? (i := 191) rfl), rfl⟩
set_option maxRecDepth 100000 in
theorem cw_35 : cwM 35 ∈ lw_tbl ∧ goodWord (cwM 35) = true := ⟨in_3 (List.mem_of_getElem? (i := 199) rfl), rfl⟩
set_option maxRecDepth 100000 in
theorem cw_36 : cwM 36 ∈ lw_tbl ∧ goodWord (cwM 36) = true := ⟨in_3 (List.mem_of_getElem? (i := 187) rfl), rfl⟩
set_option maxRecDepth 100000 in
theorem cw_37 : cwM 37 ∈ lw_tbl ∧ goodWord (cwM 37) = true := ⟨in_3 (List.mem_of_getElem? (i := 195) rfl), rfl⟩
set_option maxRecDepth 100000 in
theorem cw_38 : cwM 38 ∈ lw_tbl ∧ goodWord (cwM 38) = true := ⟨in_4 (List.mem_of_getElem? (i := 111) rfl), rfl⟩
set_option maxRecDepth 100000 in
theorem cw_39 : cwM 39 ∈ lw_tbl ∧ goodWord (cwM 39) = true := ⟨in_3 (List.mem_of_getElem? (i := 208) rfl), rfl⟩
set_option maxRecDepth 100000 in
theorem cw_40 : cwM 40 ∈ lw_tbl ∧ goodWord (cwM 40) = true := ⟨in_3 (List.mem_of_getElem? (i := 203) rfl), rfl⟩
set_option maxRecDepth 100000 in
theorem cw_41 : cwM 41 ∈ lw_tbl ∧ goodWord (cwM 41) = true := ⟨in_4 (List.mem_of_getElem? (i := 49) rfl), rfl⟩
set_option maxRecDepth 100000 in
theorem cw_42 : cwM 42 ∈ lw_tbl ∧ goodWord (cwM 42) = true := ⟨in_4 (List.mem_of_getElem? (i := 46) rfl), rfl⟩
set_option maxRecDepth 100000 in
theorem cw_43 : cwM 43 ∈ lw_tbl ∧ goodWord (cwM 43) = true := ⟨in_4 (List.mem_of_getElem? (i := 130) rfl), rfl⟩
set_option maxRecDepth 100000 in
theorem cw_44 : cwM 44 ∈ lw_tbl ∧ goodWord (cwM 44) = true := ⟨in_4 (List.mem_of_getElem? (i := 127) rfl), rfl⟩
set_option maxRecDepth 100000 in
theorem cw_45 : cwM 45 ∈ lw_tbl ∧ goodWord (cwM 45) = true := ⟨in_4 (List.mem_of_getElem? (i := 26) rfl), rfl⟩
set_option maxRecDepth 100000 in
theorem cw_46 : cwM 46 ∈ lw_tbl ∧ goodWord (cwM 46) = true := ⟨in_4 (List.mem_of_getElem? (i := 30) rfl), rfl⟩
set_option maxRecDepth 100000 in
theorem cw_47 : cwM 47 ∈ lw_tbl ∧ goodWord (cwM 47) = true := ⟨in_4 (List.mem_of_getElem? (i := 42) rfl), rfl⟩
set_option maxRecDepth 100000 in
theorem cw_48 : cwM 48 ∈ lw_tbl ∧ goodWord (cwM 48) = true := ⟨in_4 (List.mem_of_getElem? (i := 115) rfl), rfl⟩
set_option maxRecDepth 100000 in
theorem cw_49 : cwM 49 ∈ lw_tbl ∧ goodWord (cwM 49) = true := ⟨in_4 (List.mem_of_getElem? (i := 123) rfl), rfl⟩
set_option maxRecDepth 100000 in
theorem cw_50 : cwM 50 ∈ lw_tbl ∧ goodWord (cwM 50) = true := ⟨in_3 (List.mem_of_getElem? (i := 136) rfl), rfl⟩
set_option maxRecDepth 100000 in
theorem cw_51 : cwM 51 ∈ lw_tbl ∧ goodWord (cwM 51) = true := ⟨in_3 (List.mem_of_getElem? (i := 149) rfl), rfl⟩
set_option maxRecDepth 100000 in
theorem cw_52 : cwM 52 ∈ lw_tbl ∧ goodWord (cwM 52) = true := ⟨in_4 (List.mem_of_getElem? (i := 179) rfl), rfl⟩
set_option maxRecDepth 100000 in
theorem cw_53 : cwM 53 ∈ lw_tbl ∧ goodWord (cwM 53) = true := ⟨in_3 (List.mem_of_getElem? (i := 145) rfl), rfl⟩
set_option maxRecDepth 100000 in
theorem cw_54 : cwM 54 ∈ lw_tbl ∧ goodWord (cwM 54) = true := ⟨in_4 (List.mem_of_getElem? (i := 152) rfl), rfl⟩
set_option maxRecDepth 100000 in
theorem cw_55 : cwM 55 ∈ lw_tbl ∧ goodWord (cwM 55) = true := ⟨in_4 (List.mem_of_getElem? (i := 194) rfl), rfl⟩
set_option maxRecDepth 100000 in
theorem cw_56 : cwM 56 ∈ lw_tbl ∧ goodWord (cwM 56) = true := ⟨in_4 (List.mem_of_getElem? (i := 22) rfl), rfl⟩
set_option maxRecDepth 100000 in
theorem cw_57 : cwM 57 ∈ lw_tbl ∧ goodWord (cwM 57) = true := ⟨in_4 (List.mem_of_getElem? (i := 34) rfl), rfl⟩
set_option maxRecDepth 100000 in
theorem cw_58 : cwM 58 ∈ lw_tbl ∧ goodWord (cwM 58) = true := ⟨in_4 (List.mem_of_getElem? (i := 119) rfl), rfl⟩
set_option maxRecDepth 100000 in
theorem cw_59 : cwM 59 ∈ lw_tbl ∧ goodWord (cwM 59) = true := ⟨in_4 (List.mem_of_getElem? (i := 38) rfl), rfl⟩
set_option maxRecDepth 100000 in
theorem cw_60 : cwM 60 ∈ lw_tbl ∧ goodWord (cwM 60) = true := ⟨in_3 (List.mem_of_getElem? (i := 45) rfl), rfl⟩
set_option maxRecDepth 100000 in
theorem cw_61 : cwM 61 ∈ lw_tbl ∧ goodWord (cwM 61) = true := ⟨in_3 (List.mem_of_getElem? (i := 41) rfl), rfl⟩
set_option maxRecDepth 100000 in
theorem cw_62 : cwM 62 ∈ lw_tbl ∧ goodWord (cwM 62) = true := ⟨in_3 (List.mem_of_getElem? (i := 54) rfl), rfl⟩
set_option maxRecDepth 100000 in
theorem cw_63 : cwM 63 ∈ lw_tbl ∧ goodWord (cwM 63) = true := ⟨in_3 (List.mem_of_getElem? (i := 77) rfl), rfl⟩
set_option maxRecDepth 100000 in
theorem cw_64 : cwM 64 ∈ lw_tbl ∧ goodWord (cwM 64) = true := ⟨in_3 (List.mem_of_getElem? (i := 68) rfl), rfl⟩
set_option maxRecDepth 100000 in
theorem cw_65 : cwM 65 ∈ lw_tbl ∧ goodWord (cwM 65) = true := ⟨in_3 (List.mem_of_getElem? (i := 63) rfl), rfl⟩
set_option maxRecDepth 100000 in
theorem cw_66 : cwM 66 ∈ lw_tbl ∧ goodWord (cwM 66) = true := ⟨in_2 (List.mem_of_getElem? (i := 83) rfl), rfl⟩
set_option maxRecDepth 100000 in
theorem cw_67 : cwM 67 ∈ lw_tbl ∧ goodWord (cwM 67) = true := ⟨in_2 (List.mem_of_getElem? (i := 99) rfl), rfl⟩
set_option maxRecDepth 100000 in
theorem cw_68 : cwM 68 ∈ lw_tbl ∧ goodWord (cwM 68) = true := ⟨in_2 (List.mem_of_getElem? (i := 126) rfl), rfl⟩
set_option maxRecDepth 100000 in
theorem cw_69 : cwM 69 ∈ lw_tbl ∧ goodWord (cwM 69) = true := ⟨in_2 (List.mem_of_getElem? (i := 135) rfl), rfl⟩
set_option maxRecDepth 100000 in
theorem cw_70 : cwM 70 ∈ lw_tbl ∧ goodWord (cwM 70) = true := ⟨in_2 (List.mem_of_getElem? (i := 139) rfl), rfl⟩
set_option maxRecDepth 100000 in
theorem cw_71 : cwM 71 ∈ lw_tbl ∧ goodWord (cwM 71) = true := ⟨in_2 (List.mem_of_getElem? (i := 143) rfl), rfl⟩
set_option maxRecDepth 100000 in
theorem cw_72 : cwM 72 ∈ lw_tbl ∧ goodWord (cwM 72) = true := ⟨in_2 (List.mem_of_getElem? (i := 147) rfl), rfl⟩
set_option maxRecDepth 100000 in
theorem cw_73 : cwM 73 ∈ lw_tbl ∧ goodWord (cwM 73) = true := ⟨in_2 (List.mem_of_getElem? (i := 156) rfl), rfl⟩
set_option maxRecDepth 100000 in
theorem cw_74 : cwM 74 ∈ lw_tbl ∧ goodWord (cwM 74) = true := ⟨in_2 (List.mem_of_getElem? (i := 160) rfl), rfl⟩
set_option maxRecDepth 100000 in
theorem cw_75 : cwM 75 ∈ lw_tbl ∧ goodWord (cwM 75) = true := ⟨in_2 (List.mem_of_getElem? (i := 168) rfl), rfl⟩
set_option maxRecDepth 100000 in
theorem cw_76 : cwM 76 ∈ lw_tbl ∧ goodWord (cwM 76) = true := ⟨in_2 (List.mem_of_getElem? (i := 208) rfl), rfl⟩
set_option maxRecDepth 100000 in
theorem cw_77 : cwM 77 ∈ lw_tbl ∧ goodWord (cwM 77) = true := ⟨in_2 (List.mem_of_getElem? (i := 215) rfl), rfl⟩
set_option maxRecDepth 100000 in
theorem cw_78 : cwM 78 ∈ lw_tbl ∧ goodWord (cwM 78) = true := ⟨in_2 (List.mem_of_getElem? (i := 223) rfl), rfl⟩
set_option maxRecDepth 100000 in
theorem cw_79 : cwM 79 ∈ lw_tbl ∧ goodWord (cwM 79) = true := ⟨in_3 (List.mem_of_getElem? (i := 21) rfl), rfl⟩
set_option maxRecDepth 100000 in
theorem cw_80 : cwM 80 ∈ lw_tbl ∧ goodWord (cwM 80) = true := ⟨in_3 (List.mem_of_getElem? (i := 37) rfl), rfl⟩
set_option maxRecDepth 100000 in
theorem cw_81 : cwM 81 ∈ lw_tbl ∧ goodWord (cwM 81) = true := ⟨in_3 (List.mem_of_getElem? (i := 50) rfl), rfl⟩
set_option maxRecDepth 100000 in
theorem cw_82 : cwM 82 ∈ lw_tbl ∧ goodWord (cwM 82) = true := ⟨in_3 (List.mem_of_getElem? (i := 59) rfl), rfl⟩
set_option maxRecDepth 100000 in
theorem cw_83 : cwM 83 ∈ lw_tbl ∧ goodWord (cwM 83) = true := ⟨in_3 (List.mem_of_getElem? (i := 73) rfl), rfl⟩
set_option maxRecDepth 100000 in
theorem cw_84 : cwM 84 ∈ lw_tbl ∧ goodWord (cwM 84) = true := ⟨in_3 (List.mem_of_getElem? (i := 87) rfl), rfl⟩
set_option maxRecDepth 100000 in
theorem cw_85 : cwM 85 ∈ lw_tbl ∧ goodWord (cwM 85) = true := ⟨in_3 (List.mem_of_getElem? (i := 108) rfl), rfl⟩
set_option maxRecDepth 100000 in
theorem cw_86 : cwM 86 ∈ lw_tbl ∧ goodWord (cwM 86) = true := ⟨in_3 (List.mem_of_getElem? (i := 116) rfl), rfl⟩
set_option maxRecDepth 100000 in
theorem cw_87 : cwM 87 ∈ lw_tbl ∧ goodWord (cwM 87) = true := ⟨in_3 (List.mem_of_getElem? (i := 120) rfl), rfl⟩
set_option maxRecDepth 100000 in
theorem cw_88 : cwM 88 ∈ lw_tbl ∧ goodWord (cwM 88) = true := ⟨in_3 (List.mem_of_getElem? (i := 125) rfl), rfl⟩
set_option maxRecDepth 100000 in
theorem cw_89 : cwM 89 ∈ lw_tbl ∧ goodWord (cwM 89) = true := ⟨in_3 (List.mem_of_getElem? (i := 129) rfl), rfl⟩
set_option maxRecDepth 100000 in
theorem cw_90 : cwM 90 ∈ lw_tbl ∧ goodWord (cwM 90) = true := ⟨in_3 (List.mem_of_getElem? (i := 154) rfl), rfl⟩
set_option maxRecDepth 100000 in
theorem cw_91 : cwM 91 ∈ lw_tbl ∧ goodWord (cwM 91) = true := ⟨in_3 (List.mem_of_getElem? (i := 159) rfl), rfl⟩
set_option maxRecDepth 100000 in
theorem cw_92 : cwM 92 ∈ lw_tbl ∧ goodWord (cwM 92) = true := ⟨in_3 (List.mem_of_getElem? (i := 163) rfl), rfl⟩
set_option maxRecDepth 100000 in
theorem cw_93 : cwM 93 ∈ lw_tbl ∧ goodWord (cwM 93) = true := ⟨in_3 (List.mem_of_getElem? (i := 171) rfl), rfl⟩
set_option maxRecDepth 100000 in
theorem cw_94 : cwM 94 ∈ lw_tbl ∧ goodWord (cwM 94) = true := ⟨in_3 (List.mem_of_getElem? (i := 175) rfl), rfl⟩
set_option maxRecDepth 100000 in
theorem cw_95 : cwM 95 ∈ lw_tbl ∧ goodWord (cwM 95) = true := ⟨in_4 (List.mem_of_getElem? (i := 140) rfl), rfl⟩
set_option maxRecDepth 100000 in
theorem cw_96 : cwM 96 ∈ lw_tbl ∧ goodWord (cwM 96) = true := ⟨in_4 (List.mem_of_getElem? (i := 144) rfl), rfl⟩
set_option maxRecDepth 100000 in
theorem cw_97 : cwM 97 ∈ lw_tbl ∧ goodWord (cwM 97) = true := ⟨in_4 (List.mem_of_getElem? (i := 148) rfl), rfl⟩
set_option maxRecDepth 100000 in
theorem cw_98 : cwM 98 ∈ lw_tbl ∧ goodWord (cwM 98) = true := ⟨in_4 (List.mem_of_getElem? (i := 157) rfl), rfl⟩
set_option maxRecDepth 100000 in
theorem cw_99 : cwM 99 ∈ lw_tbl ∧ goodWord (cwM 99) = true := ⟨in_4 (List.mem_of_getElem? (i := 165) rfl), rfl⟩
set_option maxRecDepth 100000 in
theorem cw_100 : cwM 100 ∈ lw_tbl ∧ goodWord (cwM 100) = true := ⟨in_4 (List.mem_of_getElem? (i := 171) rfl), rfl⟩
set_option maxRecDepth 100000 in
theorem cw_101 : cwM 101 ∈ lw_tbl ∧ goodWord (cwM 101) = true := ⟨in_4 (List.mem_of_getElem? (i := 175) rfl), rfl⟩
set_option maxRecDepth 100000 in
theorem cw_102 : cwM 102 ∈ lw_tbl ∧ goodWord (cwM 102) = true := ⟨in_4 (List.mem_of_getElem? (i := 186) rfl), rfl⟩
set_option maxRecDepth 100000 in
theorem cw_103 : cwM 103 ∈ lw_tbl ∧ goodWord (cwM 103) = true := ⟨in_4 (List.mem_of_getElem? (i := 199) rfl), rfl⟩
set_option maxRecDepth 100000 in
theorem cw_104 : cwM 104 ∈ lw_tbl ∧ goodWord (cwM 104) = true := ⟨in_4 (List.mem_of_getElem? (i := 203) rfl), rfl⟩
set_option maxRecDepth 100000 in
theorem cw_105 : cwM 105 ∈ lw_tbl ∧ goodWord (cwM 105) = true := ⟨in_4 (List.mem_of_getElem? (i := 207) rfl), rfl⟩
set_option maxRecDepth 100000 in
theorem cw_106 : cwM 106 ∈ lw_tbl ∧ goodWord (cwM 106) = true := ⟨in_4 (List.mem_of_getElem? (i := 212) rfl), rfl⟩
set_option maxRecDepth 100000 in
theorem cw_107 : cwM 107 ∈ lw_tbl ∧ goodWord (cwM 107) = true := ⟨in_4 (List.mem_of_getElem? (i := 216) rfl), rfl⟩
set_option maxRecDepth 100000 in
theorem cw_108 : cwM 108 ∈ lw_tbl ∧ goodWord (cwM 108) = true := ⟨in_4 (List.mem_of_getElem? (i := 224) rfl), rfl⟩
set_option maxRecDepth 100000 in
theorem cw_109 : cwM 109 ∈ lw_tbl ∧ goodWord (cwM 109) = true := ⟨in_4 (List.mem_of_getElem? (i := 228) rfl), rfl⟩
set_option maxRecDepth 100000 in
theorem cw_110 : cwM 110 ∈ lw_tbl ∧ goodWord (cwM 110) = true := ⟨in_4 (List.mem_of_getElem? (i := 232) rfl), rfl⟩
set_option maxRecDepth 100000 in
theorem cw_111 : cwM 111 ∈ lw_tbl ∧ goodWord (cwM 111) = true := ⟨in_2 (List.mem_of_getElem? (i := 103) rfl), rfl⟩
set_option maxRecDepth 100000 in
theorem cw_112 : cwM 112 ∈ lw_tbl ∧ goodWord (cwM 112) = true := ⟨in_2 (List.mem_of_getElem? (i := 172) rfl), rfl⟩
set_option maxRecDepth 100000 in
theorem cw_113 : cwM 113 ∈ lw_tbl ∧ goodWord (cwM 113) = true := ⟨in_2 (List.mem_of_getElem? (i := 89) rfl), rfl⟩
set_option maxRecDepth 100000 in
theorem cw_114 : cwM 114 ∈ lw_tbl ∧ goodWord (cwM 114) = true := ⟨in_2 (List.mem_of_getElem? (i := 86) rfl), rfl⟩
set_option maxRecDepth 100000 in
theorem cw_115 : cwM 115 ∈ lw_tbl ∧ goodWord (cwM 115) = true := ⟨in_3 (List.mem_of_getElem? (i := 132) rfl), rfl⟩
set_option maxRecDepth 100000 in
theorem cw_116 : cwM 116 ∈ lw_tbl ∧ goodWord (cwM 116) = true := ⟨in_4 (List.mem_of_getElem? (i := 189) rfl), rfl⟩
set_option maxRecDepth 100000 in
theorem cw_117 : cwM 117 ∈ lw_tbl ∧ goodWord (cwM 117) = true := ⟨in_2 (List.mem_of_getElem? (i := 211) rfl), rfl⟩
set_option maxRecDepth 100000 in
theorem cw_118 : cwM 118 ∈ lw_tbl ∧ goodWord (cwM 118) = true := ⟨in_2 (List.mem_of_getElem? (i := 198) rfl), rfl⟩
set_option maxRecDepth 100000 in
theorem cw_119 : cwM 119 ∈ lw_tbl ∧ goodWord (cwM 119) = true := ⟨in_4 (List.mem_of_getElem? (i := 220) rfl), rfl⟩
set_option maxRecDepth 100000 in
theorem cw_120 : cwM 120 ∈ lw_tbl ∧ goodWord (cwM 120) = true := ⟨in_5 (List.mem_of_getElem? (i := 119) rfl), rfl⟩
set_option maxRecDepth 100000 in
theorem cw_121 : cwM 121 ∈ lw_tbl ∧ goodWord (cwM 121) = true := ⟨in_5 (List.mem_of_getElem? (i := 239) rfl), rfl⟩
set_option maxRecDepth 100000 in
theorem cw_122 : cwM 122 ∈ lw_tbl ∧ goodWord (cwM 122) = true := ⟨in_7 (List.mem_of_getElem? (i := 9) rfl), rfl⟩
set_option maxRecDepth 100000 in
theorem cw_123 : cwM 123 ∈ lw_tbl ∧ goodWord (cwM 123) = true := ⟨in_5 (List.mem_of_getElem? (i := 140) rfl), rfl⟩
set_option maxRecDepth 100000 in
theorem cw_124 : cwM 124 ∈ lw_tbl ∧ goodWord (cwM 124) = true := ⟨in_5 (List.mem_of_getElem? (i := 213) rfl), rfl⟩
set_option maxRecDepth 100000 in
theorem cw_125 : cwM 125 ∈ lw_tbl ∧ goodWord (cwM 125) = true := ⟨in_5 (List.mem_of_getElem? (i := 122) rfl), rfl⟩
set_option maxRecDepth 100000 in
theorem cw_126 : cwM 126 ∈ lw_tbl ∧ goodWord (cwM 126) = true := ⟨in_5 (List.mem_of_getElem? (i := 144) rfl), rfl⟩
set_option maxRecDepth 100000 in
theorem cw_127 : cwM 127 ∈ lw_tbl ∧ goodWord (cwM 127) = true := ⟨in_5 (List.mem_of_getElem? (i := 132) rfl), rfl⟩
set_option maxRecDepth 100000 in
theorem cw_128 : cwM 128 ∈ lw_tbl ∧ goodWord (cwM 128) = true := ⟨in_5 (List.mem_of_getElem? (i := 225) rfl), rfl⟩
set_option maxRecDepth 100000 in
theorem cw_129 : cwM 129 ∈ lw_tbl ∧ goodWord (cwM 129) = true := ⟨in_5 (List.mem_of_getElem? (i := 205) rfl), rfl⟩
set_option maxRecDepth 100000 in
theorem cw_130 : cwM 130 ∈ lw_tbl ∧ goodWord (cwM 130) = true := ⟨in_5 (List.mem_of_getElem? (i := 176) rfl), rfl⟩
set_option maxRecDepth 100000 in
theorem cw_131 : cwM 131 ∈ lw_tbl ∧ goodWord (cwM 131) = true := ⟨in_5 (List.mem_of_getElem? (i := 128) rfl), rfl⟩
set_option maxRecDepth 100000 in
theorem cw_132 : cwM 132 ∈ lw_tbl ∧ goodWord (cwM 132) = true := ⟨in_5 (List.mem_of_getElem? (i := 116) rfl), rfl⟩
set_option maxRecDepth 100000 in
theorem cw_133 : cwM 133 ∈ lw_tbl ∧ goodWord (cwM 133) = true := ⟨in_5 (List.mem_of_getElem? (i := 148) rfl), rfl⟩
set_option maxRecDepth 100000 in
theorem cw_134 : cwM 134 ∈ lw_tbl ∧ goodWord (cwM 134) = true := ⟨in_5 (List.mem_of_getElem? (i := 152) rfl), rfl⟩
set_option maxRecDepth 100000 in
theorem cw_135 : cwM 135 ∈ lw_tbl ∧ goodWord (cwM 135) = true := ⟨in_5 (List.mem_of_getElem? (i := 156) rfl), rfl⟩
set_option maxRecDepth 100000 in
theorem cw_136 : cwM 136 ∈ lw_tbl ∧ goodWord (cwM 136) = true := ⟨in_5 (List.mem_of_getElem? (i := 160) rfl), rfl⟩
set_option maxRecDepth 100000 in
theorem cw_137 : cwM 137 ∈ lw_tbl ∧ goodWord (cwM 137) = true := ⟨in_5 (List.mem_of_getElem? (i := 136) rfl), rfl⟩
set_option maxRecDepth 100000 in
theorem cw_138 : cwM 138 ∈ lw_tbl ∧ goodWord (cwM 138) = true := ⟨in_5 (List.mem_of_getElem? (i := 167) rfl), rfl⟩
set_option maxRecDepth 100000 in
theorem cw_139 : cwM 139 ∈ lw_tbl ∧ goodWord (cwM 139) = true := ⟨in_5 (List.mem_of_getElem? (i := 164) rfl), rfl⟩
set_option maxRecDepth 100000 in
theorem cw_140 : cwM 140 ∈ lw_tbl ∧ goodWord (cwM 140) = true := ⟨in_5 (List.mem_of_getElem? (i := 172) rfl), rfl⟩
set_option maxRecDepth 100000 in
theorem cw_141 : cwM 141 ∈ lw_tbl ∧ goodWord (cwM 141) = true := ⟨in_5 (List.mem_of_getElem? (i := 180) rfl), rfl⟩
set_option maxRecDepth 100000 in
theorem cw_142 : cwM 142 ∈ lw_tbl ∧ goodWord (cwM 142) = true := ⟨in_5 (List.mem_of_getElem? (i := 184) rfl), rfl⟩
set_option maxRecDepth 100000 in
theorem cw_143 : cwM 143 ∈ lw_tbl ∧ goodWord (cwM 143) = true := ⟨in_5 (List.mem_of_getElem? (i := 192) rfl), rfl⟩
set_option maxRecDepth 100000 in
theorem cw_144 : cwM 144 ∈ lw_tbl ∧ goodWord (cwM 144) = true := ⟨in_5 (List.mem_of_getElem? (i := 188) rfl), rfl⟩
set_option maxRecDepth 100000 in
theorem cw_145 : cwM 145 ∈ lw_tbl ∧ goodWord (cwM 145) = true := ⟨in_5 (List.mem_of_getElem? (i := 197) rfl), rfl⟩
set_option maxRecDepth 100000 in
theorem cw_146 : cwM 146 ∈ lw_tbl ∧ goodWord (cwM 146) = true := ⟨in_5 (List.mem_of_getElem? (i := 201) rfl), rfl⟩
set_option maxRecDepth 100000 in
theorem cw_147 : cwM 147 ∈ lw_tbl ∧ goodWord (cwM 147) = true := ⟨in_5 (List.mem_of_getElem? (i := 229) rfl), rfl⟩
set_option maxRecDepth 100000 in
theorem cw_148 : cwM 148 ∈ lw_tbl ∧ goodWord (cwM 148) = true := ⟨in_5 (List.mem_of_getElem? (i := 217) rfl), rfl⟩
set_option maxRecDepth 100000 in
theorem cw_149 : cwM 149 ∈ lw_tbl ∧ goodWord (cwM 149) = true := ⟨in_5 (List.mem_of_getElem? (i := 209) rfl), rfl⟩
set_option maxRecDepth 100000 in
theorem cw_150 : cwM 150 ∈ lw_tbl ∧ goodWord (cwM 150) = true := ⟨in_6 (List.mem_of_getElem? (i := 3) rfl), rfl⟩
set_option maxRecDepth 100000 in
theorem cw_151 : cwM 151 ∈ lw_tbl ∧ goodWord (cwM 151) = true := ⟨in_6 (List.mem_of_getElem? (i := 7) rfl), rfl⟩
set_option maxRecDepth 100000 in
theorem cw_152 : cwM 152 ∈ lw_tbl ∧ goodWord (cwM 152) = true := ⟨in_6 (List.mem_of_getElem? (i := 30) rfl), rfl⟩
set_option maxRecDepth 100000 in
theorem cw_153 : cwM 153 ∈ lw_tbl ∧ goodWord (cwM 153) = true := ⟨in_6 (List.mem_of_getElem? (i := 27) rfl), rfl⟩
set_option maxRecDepth 100000 in
theorem cw_154 : cwM 154 ∈ lw_tbl ∧ goodWord (cwM 154) = true := ⟨in_6 (List.mem_of_getElem? (i := 23) rfl), rfl⟩
set_option maxRecDepth 100000 in
theorem cw_155 : cwM 155 ∈ lw_tbl ∧ goodWord (cwM 155) = true := ⟨in_6 (List.mem_of_getElem? (i := 34) rfl), rfl⟩
set_option maxRecDepth 100000 in
theorem cw_156 : cwM 156 ∈ lw_tbl ∧ goodWord (cwM 156) = true := ⟨in_6 (List.mem_of_getElem? (i := 19) rfl), rfl⟩
set_option maxRecDepth 100000 in
theorem cw_157 : cwM 157 ∈ lw_tbl ∧ goodWord (cwM 157) = true := ⟨in_6 (List.mem_of_getElem? (i := 15) rfl), rfl⟩
set_option maxRecDepth 100000 in
theorem cw_158 : cwM 158 ∈ lw_tbl ∧ goodWord (cwM 158) = true := ⟨in_6 (List.mem_of_getElem? (i := 11) rfl), rfl⟩
set_option maxRecDepth 100000 in
theorem cw_159 : cwM 159 ∈ lw_tbl ∧ goodWord (cwM 159) = true := ⟨in_6 (List.mem_of_getElem? (i := 46) rfl), rfl⟩
set_option maxRecDepth 100000 in
theorem cw_160 : cwM 160 ∈ lw_tbl ∧ goodWord (cwM 160) = true := ⟨in_6 (List.mem_of_getElem? (i := 42) rfl), rfl⟩
set_option maxRecDepth 100000 in
theorem cw_161 : cwM 161 ∈ lw_tbl ∧ goodWord (cwM 161) = true := ⟨in_6 (List.mem_of_getElem? (i := 50) rfl), rfl⟩
set_option maxRecDepth 100000 in
theorem cw_162 : cwM 162 ∈ lw_tbl ∧ goodWord (cwM 162) = true := ⟨in_6 (List.mem_of_getElem? (i := 38) rfl), rfl⟩
set_option maxRecDepth 100000 in
theorem cw_163 : cwM 163 ∈ lw_tbl ∧ goodWord (cwM 163) = true := ⟨in_6 (List.mem_of_getElem? (i := 58) rfl), rfl⟩
set_option maxRecDepth 100000 in
theorem cw_164 : cwM 164 ∈ lw_tbl ∧ goodWord (cwM 164) = true := ⟨in_6 (List.mem_of_getElem? (i := 62) rfl), rfl⟩
set_option maxRecDepth 100000 in
theorem cw_165 : cwM 165 ∈ lw_tbl ∧ goodWord (cwM 165) = true := ⟨in_6 (List.mem_of_getElem? (i := 54) rfl), rfl⟩
set_option maxRecDepth 100000 in
theorem cw_166 : cwM 166 ∈ lw_tbl ∧ goodWord (cwM 166) = true := ⟨in_6 (List.mem_of_getElem? (i := 66) rfl), rfl⟩
set_option maxRecDepth 100000 in
theorem cw_167 : cwM 167 ∈ lw_tbl ∧ goodWord (cwM 167) = true := ⟨in_6 (List.mem_of_getElem? (i := 71) rfl), rfl⟩
set_option maxRecDepth 100000 in
theorem cw_168 : cwM 168 ∈ lw_tbl ∧ goodWord (cwM 168) = true := ⟨in_6 (List.mem_of_getElem? (i := 79) rfl), rfl⟩
set_option maxRecDepth 100000 in
theorem cw_169 : cwM 169 ∈ lw_tbl ∧ goodWord (cwM 169) = true := ⟨in_6 (List.mem_of_getElem? (i := 75) rfl), rfl⟩
set_option maxRecDepth 100000 in
theorem cw_170 : cwM 170 ∈ lw_tbl ∧ goodWord (cwM 170) = true := ⟨in_6 (List.mem_of_getElem? (i := 87) rfl), rfl⟩
set_option maxRecDepth 100000 in
theorem cw_171 : cwM 171 ∈ lw_tbl ∧ goodWord (cwM 171) = true := ⟨in_6 (List.mem_of_getElem? (i := 91) rfl), rfl⟩
set_option maxRecDepth 100000 in
theorem cw_172 : cwM 172 ∈ lw_tbl ∧ goodWord (cwM 172) = true := ⟨in_6 (List.mem_of_getElem? (i := 83) rfl), rfl⟩
set_option maxRecDepth 100000 in
theorem cw_173 : cwM 173 ∈ lw_tbl ∧ goodWord (cwM 173) = true := ⟨in_6 (List.mem_of_getElem? (i := 99) rfl), rfl⟩
set_option maxRecDepth 100000 in
theorem cw_174 : cwM 174 ∈ lw_tbl ∧ goodWord (cwM 174) = true := ⟨in_6 (List.mem_of_getElem? (i := 95) rfl), rfl⟩
set_option maxRecDepth 100000 in
theorem cw_175 : cwM 175 ∈ lw_tbl ∧ goodWord (cwM 175) = true := ⟨in_6 (List.mem_of_getElem? (i := 103) rfl), rfl⟩
set_option maxRecDepth 100000 in
theorem cw_176 : cwM 176 ∈ lw_tbl ∧ goodWord (cwM 176) = true := ⟨in_6 (List.mem_of_getElem? (i := 111) rfl), rfl⟩
set_option maxRecDepth 100000 in
theorem cw_177 : cwM 177 ∈ lw_tbl ∧ goodWord (cwM 177) = true := ⟨in_6 (List.mem_of_getElem? (i := 107) rfl), rfl⟩
set_option maxRecDepth 100000 in
theorem cw_178 : cwM 178 ∈ lw_tbl ∧ goodWord (cwM 178) = true := ⟨in_6 (List.mem_of_getElem? (i := 115) rfl), rfl⟩
set_option maxRecDepth 100000 in
theorem cw_179 : cwM 179 ∈ lw_tbl ∧ goodWord (cwM 179) = true := ⟨in_6 (List.mem_of_getElem? (i := 119) rfl), rfl⟩
set_option maxRecDepth 100000 in
theorem cw_180 : cwM 180 ∈ lw_tbl ∧ goodWord (cwM 180) = true := ⟨in_6 (List.mem_of_getElem? (i := 127) rfl), rfl⟩
set_option maxRecDepth 100000 in
theorem cw_181 : cwM 181 ∈ lw_tbl ∧ goodWord (cwM 181) = true := ⟨in_6 (List.mem_of_getElem? (i := 131) rfl), rfl⟩
set_option maxRecDepth 100000 in
theorem cw_182 : cwM 182 ∈ lw_tbl ∧ goodWord (cwM 182) = true := ⟨in_6 (List.mem_of_getElem? (i := 135) rfl), rfl⟩
set_option maxRecDepth 100000 in
theorem cw_183 : cwM 183 ∈ lw_tbl ∧ goodWord (cwM 183) = true := ⟨in_6 (List.mem_of_getElem? (i := 139) rfl), rfl⟩
set_option maxRecDepth 100000 in
theorem cw_184 : cwM 184 ∈ lw_tbl ∧ goodWord (cwM 184) = true := ⟨in_6 (List.mem_of_getElem? (i := 151) rfl), rfl⟩
set_option maxRecDepth 100000 in
theorem cw_185 : cwM 185 ∈ lw_tbl ∧ goodWord (cwM 185) = true := ⟨in_6 (List.mem_of_getElem? (i := 155) rfl), rfl⟩
set_option maxRecDepth 100000 in
theorem cw_186 : cwM 186 ∈ lw_tbl ∧ goodWord (cwM 186) = true := ⟨in_6 (List.mem_of_getElem? (i := 147) rfl), rfl⟩
set_option maxRecDepth 100000 in
theorem cw_187 : cwM 187 ∈ lw_tbl ∧ goodWord (cwM 187) = true := ⟨in_6 (List.mem_of_getElem? (i := 159) rfl), rfl⟩
set_option maxRecDepth 100000 in
theorem cw_188 : cwM 188 ∈ lw_tbl ∧ goodWord (cwM 188) = true := ⟨in_6 (List.mem_of_getElem? (i := 171) rfl), rfl⟩
set_option maxRecDepth 100000 in
theorem cw_189 : cwM 189 ∈ lw_tbl ∧ goodWord (cwM 189) = true := ⟨in_6 (List.mem_of_getElem? (i := 178) rfl), rfl⟩
set_option maxRecDepth 100000 in
theorem cw_190 : cwM 190 ∈ lw_tbl ∧ goodWord (cwM 190) = true := ⟨in_6 (List.mem_of_getElem? (i := 175) rfl), rfl⟩
set_option maxRecDepth 100000 in
theorem cw_191 : cwM 191 ∈ lw_tbl ∧ goodWord (cwM 191) = true := ⟨in_6 (List.mem_of_getElem? (i := 186) rfl), rfl⟩
set_option maxRecDepth 100000 in
theorem cw_192 : cwM 192 ∈ lw_tbl ∧ goodWord (cwM 192) = true := ⟨in_6 (List.mem_of_getElem? (i := 167) rfl), rfl⟩
set_option maxRecDepth 100000 in
theorem cw_193 : cwM 193 ∈ lw_tbl ∧ goodWord (cwM 193) = true := ⟨in_6 (List.mem_of_getElem? (i := 163) rfl), rfl⟩
set_option maxRecDepth 100000 in
theorem cw_194 : cwM 194 ∈ lw_tbl ∧ goodWord (cwM 194) = true := ⟨in_6 (List.mem_of_getElem? (i := 182) rfl), rfl⟩
set_option maxRecDepth 100000 in
theorem cw_195 : cwM 195 ∈ lw_tbl ∧ goodWord (cwM 195) = true := ⟨in_6 (List.mem_of_getElem? (i := 143) rfl), rfl⟩
set_option maxRecDepth 100000 in
theorem cw_196 : cwM 196 ∈ lw_tbl ∧ goodWord (cwM 196) = true := ⟨in_6 (List.mem_of_getElem? (i := 190) rfl), rfl⟩
set_option maxRecDepth 100000 in
theorem cw_197 : cwM 197 ∈ lw_tbl ∧ goodWord (cwM 197) = true := ⟨in_5 (List.mem_of_getElem? (i := 221) rfl), rfl⟩
set_option maxRecDepth 100000 in
theorem cw_198 : cwM 198 ∈ lw_tbl ∧ goodWord (cwM 198) = true := ⟨in_6 (List.mem_of_getElem? (i := 194) rfl), rfl⟩
set_option maxRecDepth 100000 in
theorem cw_199 : cwM 199 ∈ lw_tbl ∧ goodWord (cwM 199) = true := ⟨in_5 (List.mem_of_getElem? (i := 236) rfl), rfl⟩
set_option maxRecDepth 100000 in
theorem cw_200 : cwM 200 ∈ lw_tbl ∧ goodWord (cwM 200) = true := ⟨in_5 (List.mem_of_getElem? (i := 233) rfl), rfl⟩
set_option maxRecDepth 100000 in
theorem cw_201 : cwM 201 ∈ lw_tbl ∧ goodWord (cwM 201) = true := ⟨in_6 (List.mem_of_getElem? (i := 122) rfl), rfl⟩
set_option maxRecDepth 100000 in
theorem cw_202 : cwM 202 ∈ lw_tbl ∧ goodWord (cwM 202) = true := ⟨in_6 (List.mem_of_getElem? (i := 225) rfl), rfl⟩
set_option maxRecDepth 100000 in
theorem cw_203 : cwM 203 ∈ lw_tbl ∧ goodWord (cwM 203) = true := ⟨in_6 (List.mem_of_getElem? (i := 198) rfl), rfl⟩
set_option maxRecDepth 100000 in
theorem cw_204 : cwM 204 ∈ lw_tbl ∧ goodWord (cwM 204) = true := ⟨in_6 (List.mem_of_getElem? (i := 203) rfl), rfl⟩
set_option maxRecDepth 100000 in
theorem cw_205 : cwM 205 ∈ lw_tbl ∧ goodWord (cwM 205) = true := ⟨in_6 (List.mem_of_getElem? (i := 210) rfl), rfl⟩
set_option maxRecDepth 100000 in
theorem cw_206 : cwM 206 ∈ lw_tbl ∧ goodWord (cwM 206) = true := ⟨in_6 (List.mem_of_getElem? (i := 214) rfl), rfl⟩
set_option maxRecDepth 100000 in
theorem cw_207 : cwM 207 ∈ lw_tbl ∧ goodWord (cwM 207) = true := ⟨in_6 (List.mem_of_getElem? (i := 218) rfl), rfl⟩
set_option maxRecDepth 100000 in
theorem cw_208 : cwM 208 ∈ lw_tbl ∧ goodWord (cwM 208) = true := ⟨in_6 (List.mem_of_getElem? (i := 222) rfl), rfl⟩
set_option maxRecDepth 100000 in
theorem cw_209 : cwM 209 ∈ lw_tbl ∧ goodWord (cwM 209) = true := ⟨in_6 (List.mem_of_getElem? (i := 229) rfl), rfl⟩
set_option maxRecDepth 100000 in
theorem cw_210 : cwM 210 ∈ lw_tbl ∧ goodWord (cwM 210) = true := ⟨in_6 (List.mem_of_getElem? (i := 233) rfl), rfl⟩
set_option maxRecDepth 100000 in
theorem cw_211 : cwM 211 ∈ lw_tbl ∧ goodWord (cwM 211) = true := ⟨in_6 (List.mem_of_getElem? (i := 237) rfl), rfl⟩
set_option maxRecDepth 100000 in
theorem cw_212 : cwM 212 ∈ lw_tbl ∧ goodWord (cwM 212) = true := ⟨in_7 (List.mem_of_getElem? (i := 2) rfl), rfl⟩
set_option maxRecDepth 100000 in
theorem cw_213 : cwM 213 ∈ lw_tbl ∧ goodWord (cwM 213) = true := ⟨in_7 (List.mem_of_getElem? (i := 6) rfl), rfl⟩
set_option maxRecDepth 100000 in
theorem cw_214 : cwM 214 ∈ lw_tbl ∧ goodWord (cwM 214) = true := ⟨in_7 (List.mem_of_getElem? (i := 13) rfl), rfl⟩
set_option maxRecDepth 100000 in
theorem cw_215 : cwM 215 ∈ lw_tbl ∧ goodWord (cwM 215) = true := ⟨in_7 (List.mem_of_getElem? (i := 17) rfl), rfl⟩
set_option maxRecDepth 100000 in
theorem cw_216 : cwM 216 ∈ lw_tbl ∧ goodWord (cwM 216) = true := ⟨in_7 (List.mem_of_getElem? (i := 21) rfl), rfl⟩
set_option maxRecDepth 100000 in
theorem cw_217 : cwM 217 ∈ lw_tbl ∧ goodWord (cwM 217) = true := ⟨in_3 (List.mem_of_getElem? (i := 80) rfl), rfl⟩
set_option maxRecDepth 100000 in
theorem cw_218 : cwM 218 ∈ lw_tbl ∧ goodWord (cwM 218) = true := ⟨in_3 (List.mem_of_getElem? (i := 212) rfl), rfl⟩
set_option maxRecDepth 100000 in
theorem cw_219 : cwM 219 ∈ lw_tbl ∧ goodWord (cwM 219) = true := ⟨in_3 (List.mem_of_getElem? (i := 222) rfl), rfl⟩
set_option maxRecDepth 100000 in
theorem cw_220 : cwM 220 ∈ lw_tbl ∧ goodWord (cwM 220) = true := ⟨in_4 (List.mem_of_getElem? (i := 56) rfl), rfl⟩
set_option maxRecDepth 100000 in
theorem cw_221 : cwM 221 ∈ lw_tbl ∧ goodWord (cwM 221) = true := ⟨in_4 (List.mem_of_getElem? (i := 60) rfl), rfl⟩
set_option maxRecDepth 100000 in
theorem cw_222 : cwM 222 ∈ lw_tbl ∧ goodWord (cwM 222) = true := ⟨in_3 (List.mem_of_getElem? (i := 216) rfl), rfl⟩
set_option maxRecDepth 100000 in
theorem cw_223 : cwM 223 ∈ lw_tbl ∧ goodWord (cwM 223) = true := ⟨in_3 (List.mem_of_getElem? (i := 226) rfl), rfl⟩
set_option maxRecDepth 100000 in
theorem cw_224 : cwM 224 ∈ lw_tbl ∧ goodWord (cwM 224) = true := ⟨in_3 (List.mem_of_getElem? (i := 232) rfl), rfl⟩
set_option maxRecDepth 100000 in
theorem cw_225 : cwM 225 ∈ lw_tbl ∧ goodWord (cwM 225) = true := ⟨in_3 (List.mem_of_getElem? (i := 229) rfl), rfl⟩
set_option maxRecDepth 100000 in
theorem cw_226 : cwM 226 ∈ lw_tbl ∧ goodWord (cwM 226) = true := ⟨in_4 (List.mem_of_getElem? (i := 67) rfl), rfl⟩
set_option maxRecDepth 100000 in
theorem cw_227 : cwM 227 ∈ lw_tbl ∧ goodWord (cwM 227) = true := ⟨in_4 (List.mem_of_getElem? (i := 64) rfl), rfl⟩
set_option maxRecDepth 100000 in
theorem cw_228 : cwM 228 ∈ lw_tbl ∧ goodWord (cwM 228) = true := ⟨in_4 (List.mem_of_getElem? (i := 72) rfl), rfl⟩
set_option maxRecDepth 100000 in
theorem cw_229 : cwM 229 ∈ lw_tbl ∧ goodWord (cwM 229) = true := ⟨in_3 (List.mem_of_getElem? (i := 237) rfl), rfl⟩
theorem cwl_0 : ∀ w ∈ [cwM 0, cwM 1, cwM 2, cwM 3, cwM 4, cwM 5, cwM 6, cwM 7, cwM 8, cwM 9, cwM 10, cwM 11, cwM 12, cwM 13, cwM 14, cwM 15, cwM 16, cwM 17, cwM 18, cwM 19], w ∈ lw_tbl ∧ goodWord w = true := List.forall_mem_cons.mpr ⟨cw_0, List.forall_mem_cons.mpr ⟨cw_1, List.forall_mem_cons.mpr ⟨cw_2, List.forall_mem_cons.mpr ⟨cw_3, List.forall_mem_cons.mpr ⟨cw_4, List.forall_mem_cons.mpr ⟨cw_5, List.forall_mem_cons.mpr ⟨cw_6, List.forall_mem_cons.mpr ⟨cw_7, List.forall_mem_cons.mpr ⟨cw_8, List.forall_mem_cons.mpr ⟨cw_9, List.forall_mem_cons.mpr ⟨cw_10, List.forall_mem_cons.mpr ⟨cw_11, List.forall_mem_cons.mpr ⟨cw_12, List.forall_mem_cons.mpr ⟨cw_13, List.forall_mem_cons.mpr ⟨cw_14, List.forall_mem_cons.mpr ⟨cw_15, List.forall_mem_cons.mpr ⟨cw_16, List.forall_mem_cons.mpr ⟨cw_17, List.forall_mem_cons.mpr ⟨cw_18, List.forall_mem_cons.mpr ⟨cw_19, fun _ h => absurd h List.not_mem_nil⟩⟩⟩⟩⟩⟩⟩⟩⟩⟩⟩⟩⟩⟩⟩⟩⟩⟩⟩⟩
theorem cwr_0 {m : Nat} (h1 : 0 ≤ m) (h2 : m < 20) : cwM m ∈ lw_tbl ∧ goodWord (cwM m) = true := by
  have h : cwM m ∈ (List.range' 0 20).map cwM := List.mem_map.mpr ⟨m, List.mem_range'_1.mpr ⟨h1, h2⟩, rfl⟩
  exact cwl_0 _ h
theorem cwl_20 : ∀ w ∈ [cwM 20, cwM 21, cwM 22, cwM 23, cwM 24, cwM 25, cwM 26, cwM 27, cwM 28, cwM 29, cwM 30, cwM 31, cwM 32, cwM 33, cwM 34, cwM 35, cwM 36, cwM 37, cwM 38, cwM 39], w ∈ lw_tbl ∧ goodWord w = true := List.forall_mem_cons.mpr ⟨cw_20, List.forall_mem_cons.mpr ⟨cw_21, List.forall_mem_cons.mpr ⟨cw_22, List.forall_mem_cons.mpr ⟨cw_23, List.forall_mem_cons.mpr ⟨cw_24, List.forall_mem_cons.mpr ⟨cw_25, List.forall_mem_cons.mpr ⟨cw_26, List.forall_mem_cons.mpr ⟨cw_27, List.forall_mem_cons.mpr ⟨cw_28, List.forall_mem_cons.mpr ⟨cw_29, List.forall_mem_cons.mpr ⟨cw_30, List.forall_mem_cons.mpr ⟨cw_31, List.forall_mem_cons.mpr ⟨cw_32, List.forall_mem_cons.mpr ⟨cw_33, List.forall_mem_cons.mpr ⟨cw_34, List.forall_mem_cons.mpr ⟨cw_35, List.forall_mem_cons.mpr ⟨cw_36, List.forall_mem_cons.mpr ⟨cw_37, List.forall_mem_cons.mpr ⟨cw_38, List.forall_mem_cons.mpr ⟨cw_39, fun _ h => absurd h List.not_mem_nil⟩⟩⟩⟩⟩⟩⟩⟩⟩⟩⟩⟩⟩⟩⟩⟩⟩⟩⟩⟩
theorem cwr_20 {m : Nat} (h1 : 20 ≤ m) (h2 : m < 40) : cwM m ∈ lw_tbl ∧ goodWord (cwM m) = true := by
  have h : cwM m ∈ (List.range' 20 20).map cwM := List.mem_map.mpr ⟨m, List.mem_range'_1.mpr ⟨h1, h2⟩, rfl⟩
  exact cwl_20 _ h
theorem cwl_40 : ∀ w ∈ [cwM 40, cwM 41, cwM 42, cwM 43, cwM 44, cwM 45, cwM 46, cwM 47, cwM 48, cwM 49, cwM 50, cwM 51, cwM 52, cwM 53, cwM 54, cwM 55, cwM 56, cwM 57, cwM 58, cwM 59], w ∈ lw_tbl ∧ goodWord w = true := List.forall_mem_cons.mpr ⟨cw_40, List.forall_mem_cons.mpr ⟨cw_41, List.forall_mem_cons.mpr ⟨cw_42, List.forall_mem_cons.mpr ⟨cw_43, List.forall_mem_cons.mpr ⟨cw_44, List.forall_mem_cons.mpr ⟨cw_45, List.forall_mem_cons.mpr ⟨cw_46, List.forall_mem_cons.mpr ⟨cw_47, List.forall_mem_cons.mpr ⟨cw_48, List.forall_mem_cons.mpr ⟨cw_49, List.forall_mem_cons.mpr ⟨cw_50, List.forall_mem_cons.mpr ⟨cw_51, List.forall_mem_cons.mpr ⟨cw_52, List.forall_mem_cons.mpr ⟨cw_53, List.forall_mem_cons.mpr ⟨cw_54, List.forall_mem_cons.mpr ⟨cw_55, List.forall_mem_cons.mpr ⟨cw_56, List.forall_mem_cons.mpr ⟨cw_57, List.forall_mem_cons.mpr ⟨cw_58, List.forall_mem_cons.mpr ⟨cw_59, fun _ h => absurd h List.not_mem_nil⟩⟩⟩⟩⟩⟩⟩⟩⟩⟩⟩⟩⟩⟩⟩⟩⟩⟩⟩⟩
theorem cwr_40 {m : Nat} (h1 : 40 ≤ m) (h2 : m < 60) : cwM m ∈ lw_tbl ∧ goodWord (cwM m) = true := by
  have h : cwM m ∈ (List.range' 40 20).map cwM := List.mem_map.mpr ⟨m, List.mem_range'_1.mpr ⟨h1, h2⟩, rfl⟩
  exact cwl_40 _ h
theorem cwl_60 : ∀ w ∈ [cwM 60, cwM 61, cwM 62, cwM 63, cwM 64, cwM 65, cwM 66, cwM 67, cwM 68, cwM 69, cwM 70, cwM 71, cwM 72, cwM 73, cwM 74, cwM 75, cwM 76, cwM 77, cwM 78, cwM 79], w ∈ lw_tbl ∧ goodWord w = true := List.forall_mem_cons.mpr ⟨cw_60, List.forall_mem_cons.mpr ⟨cw_61, List.forall_mem_cons.mpr ⟨cw_62, List.forall_mem_cons.mpr ⟨cw_63, List.forall_mem_cons.mpr ⟨cw_64, List.forall_mem_cons.mpr ⟨cw_65, List.forall_mem_cons.mpr ⟨cw_66, List.forall_mem_cons.mpr ⟨cw_67, List.forall_mem_cons.mpr ⟨cw_68, List.forall_mem_cons.mpr ⟨cw_69, List.forall_mem_cons.mpr ⟨cw_70, List.forall_mem_cons.mpr ⟨cw_71, List.forall_mem_cons.mpr ⟨cw_72, List.forall_mem_cons.mpr ⟨cw_73, List.forall_mem_cons.mpr ⟨cw_74, List.forall_mem_cons.mpr ⟨cw_75, List.forall_mem_cons.mpr ⟨cw_76, List.forall_mem_cons.mpr ⟨cw_77, List.forall_mem_cons.mpr ⟨cw_78, List.forall_mem_cons.mpr ⟨cw_79, fun _ h => absurd h List.not_mem_nil⟩⟩⟩⟩⟩⟩⟩⟩⟩⟩⟩⟩⟩⟩⟩⟩⟩⟩⟩⟩
theorem cwr_60 {m : Nat} (h1 : 60 ≤ m) (h2 : m < 80) : cwM m ∈ lw_tbl ∧ goodWord (cwM m) = true := by
  have h : cwM m ∈ (List.range' 60 20).map cwM := List.mem_map.mpr ⟨m, List.mem_range'_1.mpr ⟨h1, h2⟩, rfl⟩
  exact cwl_60 _ h
theorem cwl_80 : ∀ w ∈ [cwM 80, cwM 81, cwM 82, cwM 83, cwM 84, cwM 85, cwM 86, cwM 87, cwM 88, cwM 89, cwM 90, cwM 91, cwM 92, cwM 93, cwM 94, cwM 95, cwM 96, cwM 97, cwM 98, cwM 99], w ∈ lw_tbl ∧ goodWord w = true := List.forall_mem_cons.mpr ⟨cw_80, List.forall_mem_cons.mpr ⟨cw_81, List.forall_mem_cons.mpr ⟨cw_82, List.forall_mem_cons.mpr ⟨cw_83, List.forall_mem_cons.mpr ⟨cw_84, List.forall_mem_cons.mpr ⟨cw_85, List.forall_mem_cons.mpr ⟨cw_86, List.forall_mem_cons.mpr ⟨cw_87, List.forall_mem_cons.mpr ⟨cw_88, List.forall_mem_cons.mpr ⟨cw_89, List.forall_mem_cons.mpr ⟨cw_90, List.forall_mem_cons.mpr ⟨cw_91, List.forall_mem_cons.mpr ⟨cw_92, List.forall_mem_cons.mpr ⟨cw_93, List.forall_mem_cons.mpr ⟨cw_94, List.forall_mem_cons.mpr ⟨cw_95, List.forall_mem_cons.mpr ⟨cw_96, List.forall_mem_cons.mpr ⟨cw_97, List.forall_mem_cons.mpr ⟨cw_98, List.forall_mem_cons.mpr ⟨cw_99, fun _ h => absurd h List.not_mem_nil⟩⟩⟩⟩⟩⟩⟩⟩⟩⟩⟩⟩⟩⟩⟩⟩⟩⟩⟩⟩
theorem cwr_80 {m : Nat} (h1 : 80 ≤ m) (h2 : m < 100) : cwM m ∈ lw_tbl ∧ goodWord (cwM m) = true := by
  have h : cwM m ∈ (List.range' 80 20).map cwM := List.mem_map.mpr ⟨m, List.mem_range'_1.mpr ⟨h1, h2⟩, rfl⟩
  exact cwl_80 _ h
theorem cwl_100 : ∀ w ∈ [cwM 100, cwM 101, cwM 102, cwM 103, cwM 104, cwM 105, cwM 106, cwM 107, cwM 108, cwM 109, cwM 110, cwM 111, cwM 112, cwM 113, cwM 114, cwM 115, cwM 116, cwM 117, cwM 118, cwM 119], w ∈ lw_tbl ∧ goodWord w = true := List.forall_mem_cons.mpr ⟨cw_100, List.forall_mem_cons.mpr ⟨cw_101, List.forall_mem_cons.mpr ⟨cw_102, List.forall_mem_cons.mpr ⟨cw_103, List.forall_mem_cons.mpr ⟨cw_104, List.forall_mem_cons.mpr ⟨cw_105, List.forall_mem_cons.mpr ⟨cw_106, List.forall_mem_cons.mpr ⟨cw_107, List.forall_mem_cons.mpr ⟨cw_108, List.forall_mem_cons.mpr ⟨cw_109, List.forall_mem_cons.mpr ⟨cw_110, List.forall_mem_cons.mpr ⟨cw_111, List.forall_mem_cons.mpr ⟨cw_112, List.forall_mem_cons.mpr ⟨cw_113, List.forall_mem_cons.mpr ⟨cw_114, List.forall_mem_cons.mpr ⟨cw_115, List.forall_mem_cons.mpr ⟨cw_116, List.forall_mem_cons.mpr ⟨cw_117, List.forall_mem_cons.mpr ⟨cw_118, List.forall_mem_cons.mpr ⟨cw_119, fun _ h => absurd h List.not_mem_nil⟩⟩⟩⟩⟩⟩⟩⟩⟩⟩⟩⟩⟩⟩⟩⟩⟩⟩⟩⟩
theorem cwr_100 {m : Nat} (h1 : 100 ≤ m) (h2 : m < 120) : cwM m ∈ lw_tbl ∧ goodWord (cwM m) = true := by
  have h : cwM m ∈ (List.range' 100 20).map cwM := List.mem_map.mpr ⟨m, List.mem_range'_1.mpr ⟨h1, h2⟩, rfl⟩
  exact cwl_100 _ h
theorem cwl_120 : ∀ w ∈ [cwM 120, cwM 121, cwM 122, cwM 123, cwM 124, cwM 125, cwM 126, cwM 127, cwM 128, cwM 129, cwM 130, cwM 131, cwM 132, cwM 133, cwM 134, cwM 135, cwM 136, cwM 137, cwM 138, cwM 139], w ∈ lw_tbl ∧ goodWord w = true := List.forall_mem_cons.mpr ⟨cw_120, List.forall_mem_cons.mpr ⟨cw_121, List.forall_mem_cons.mpr ⟨cw_122, List.forall_mem_cons.mpr ⟨cw_123, List.forall_mem_cons.mpr ⟨cw_124, List.forall_mem_cons.mpr ⟨cw_125, List.forall_mem_cons.mpr ⟨cw_126, List.forall_mem_cons.mpr ⟨cw_127, List.forall_mem_cons.mpr ⟨cw_128, List.forall_mem_cons.mpr ⟨cw_129, List.forall_mem_cons.mpr ⟨cw_130, List.forall_mem_cons.mpr ⟨cw_131, List.forall_mem_cons.mpr ⟨cw_132, List.forall_mem_cons.mpr ⟨cw_133, List.forall_mem_cons.mpr ⟨cw_134, List.forall_mem_cons.mpr ⟨cw_135, List.forall_mem_cons.mpr ⟨cw_136, List.forall_mem_cons.mpr ⟨cw_137, List.forall_mem_cons.mpr ⟨cw_138, List.forall_mem_cons.mpr ⟨cw_139, fun _ h => absurd h List.not_mem_nil⟩⟩⟩⟩⟩⟩⟩⟩⟩⟩⟩⟩⟩⟩⟩⟩⟩⟩⟩⟩
theorem cwr_120 {m : Nat} (h1 : 120 ≤ m) (h2 : m < 140) : cwM m ∈ lw_tbl ∧ goodWord (cwM m) = true := by
  have h : cwM m ∈ (List.range' 120 20).map cwM := List.mem_map.mpr ⟨m, List.mem_range'_1.mpr ⟨h1, h2⟩, rfl⟩
  exact cwl_120 _ h
theorem cwl_140 : ∀ w ∈ [cwM 140, cwM 141, cwM 142, cwM 143, cwM 144, cwM 145, cwM 146, cwM 147, cwM 148, cwM 149, cwM 150, cwM 151, cwM 152, cwM 153, cwM 154, cwM 155, cwM 156, cwM 157, cwM 158, cwM 159], w ∈ lw_tbl ∧ goodWord w = true := List.forall_mem_cons.mpr ⟨cw_140, List.forall_mem_cons.mpr ⟨cw_141, List.forall_mem_cons.mpr ⟨cw_142, List.forall_mem_cons.mpr ⟨cw_143, List.forall_mem_cons.mpr ⟨cw_144, List.forall_mem_cons.mpr ⟨cw_145, List.forall_mem_cons.mpr ⟨cw_146, List.forall_mem_cons.mpr ⟨cw_147, List.forall_mem_cons.mpr ⟨cw_148, List.forall_mem_cons.mpr ⟨cw_149, List.forall_mem_cons.mpr ⟨cw_150, List.forall_mem_cons.mpr ⟨cw_151, List.forall_mem_cons.mpr ⟨cw_152, List.forall_mem_cons.mpr ⟨cw_153, List.forall_mem_cons.mpr ⟨cw_154, List.forall_mem_cons.mpr ⟨cw_155, List.forall_mem_cons.mpr ⟨cw_156, List.forall_mem_cons.mpr ⟨cw_157, List.forall_mem_cons.mpr ⟨cw_158, List.forall_mem_cons.mpr ⟨cw_159, fun _ h => absurd h List.not_mem_nil⟩⟩⟩⟩⟩⟩⟩⟩⟩⟩⟩⟩⟩⟩⟩⟩⟩⟩⟩⟩
theorem cwr_140 {m : Nat} (h1 : 140 ≤ m) (h2 : m < 160) : cwM m ∈ lw_tbl ∧ goodWord (cwM m) = true := by
  have h : cwM m ∈ (List.range' 140 20).map cwM := List.mem_map.mpr ⟨m, List.mem_range'_1.mpr ⟨h1, h2⟩, rfl⟩
  exact cwl_140 _ h
theorem cwl_160 : ∀ w ∈ [cwM 160, cwM 161, cwM 162, cwM 163, cwM 164, cwM 165, cwM 166, cwM 167, cwM 168, cwM 169, cwM 170, cwM 171, cwM 172, cwM 173, cwM 174, cwM 175, cwM 176, cwM 177, cwM 178, cwM 179], w ∈ lw_tbl ∧ goodWord w = true := List.forall_mem_cons.mpr ⟨cw_160, List.forall_mem_cons.mpr ⟨cw_161, List.forall_mem_cons.mpr ⟨cw_162, List.forall_mem_cons.mpr ⟨cw_163, List.forall_mem_cons.mpr ⟨cw_164, List.forall_mem_cons.mpr ⟨cw_165, List.forall_mem_cons.mpr ⟨cw_166, List.forall_mem_cons.mpr ⟨cw_167, List.forall_mem_cons.mpr ⟨cw_168, List.forall_mem_cons.mpr ⟨cw_169, List.forall_mem_cons.mpr ⟨cw_170, List.forall_mem_cons.mpr ⟨cw_171, List.forall_mem_cons.mpr ⟨cw_172, List.forall_mem_cons.mpr ⟨cw_173, List.forall_mem_cons.mpr ⟨cw_174, List.forall_mem_cons.mpr ⟨cw_175, List.forall_mem_cons.mpr ⟨cw_176, List.forall_mem_cons.mpr ⟨cw_177, List.forall_mem_cons.mpr ⟨cw_178, List.forall_mem_cons.mpr ⟨cw_179, fun _ h => absurd h List.not_mem_nil⟩⟩⟩⟩⟩⟩⟩⟩⟩⟩⟩⟩⟩⟩⟩⟩⟩⟩⟩⟩
theorem cwr_160 {m : Nat} (h1 : 160 ≤ m) (h2 : m < 180) : cwM m ∈ lw_tbl ∧ goodWord (cwM m) = true := by
  have h : cwM m ∈ (List.range' 160 20).map cwM := List.mem_map.mpr ⟨m, List.mem_range'_1.mpr ⟨h1, h2⟩, rfl⟩
  exact cwl_160 _ h
theorem cwl_180 : ∀ w ∈ [cwM 180, cwM 181, cwM 182, cwM 183, cwM 184, cwM 185, cwM 186, cwM 187, cwM 188, cwM 189, cwM 190, cwM 191, cwM 192, cwM 193, cwM 194, cwM 195, cwM 196, cwM 197, cwM 198, cwM 199], w ∈ lw_tbl ∧ goodWord w = true := List.forall_mem_cons.mpr ⟨cw_180, List.forall_mem_cons.mpr ⟨cw_181, List.forall_mem_cons.mpr ⟨cw_182, List.forall_mem_cons.mpr ⟨cw_183, List.forall_mem_cons.mpr ⟨cw_184, List.forall_mem_cons.mpr ⟨cw_185, List.forall_mem_cons.mpr ⟨cw_186, List.forall_mem_cons.mpr ⟨cw_187, List.forall_mem_cons.mpr ⟨cw_188, List.forall_mem_cons.mpr ⟨cw_189, List.forall_mem_cons.mpr ⟨cw_190, List.forall_mem_cons.mpr ⟨cw_191, List.forall_mem_cons.mpr ⟨cw_192, List.forall_mem_cons.mpr ⟨cw_193, List.forall_mem_cons.mpr ⟨cw_194, List.forall_mem_cons.mpr ⟨cw_195, List.forall_mem_cons.mpr ⟨cw_196, List.forall_mem_cons.mpr ⟨cw_197, List.forall_mem_cons.mpr ⟨cw_198, List.forall_mem_cons.mpr ⟨cw_199, fun _ h => absurd h List.not_mem_nil⟩⟩⟩⟩⟩⟩⟩⟩⟩⟩⟩⟩⟩⟩⟩⟩⟩⟩⟩⟩
theorem cwr_180 {m : Nat} (h1 : 180 ≤ m) (h2 : m < 200) : cwM m ∈ lw_tbl ∧ goodWord (cwM m) = true := by
  have h : cwM m ∈ (List.range' 180 20).map cwM := List.mem_map.mpr ⟨m, List.mem_range'_1.mpr ⟨h1, h2⟩, rfl⟩
  exact cwl_180 _ h
theorem cwl_200 : ∀ w ∈ [cwM 200, cwM 201, cwM 202, cwM 203, cwM 204, cwM 205, cwM 206, cwM 207, cwM 208, cwM 209, cwM 210, cwM 211, cwM 212, cwM 213, cwM 214, cwM 215, cwM 216, cwM 217, cwM 218, cwM 219], w ∈ lw_tbl ∧ goodWord w = true := List.forall_mem_cons.mpr ⟨cw_200, List.forall_mem_cons.mpr ⟨cw_201, List.forall_mem_cons.mpr ⟨cw_202, List.forall_mem_cons.mpr ⟨cw_203, List.forall_mem_cons.mpr ⟨cw_204, List.forall_mem_cons.mpr ⟨cw_205, List.forall_mem_cons.mpr ⟨cw_206, List.forall_mem_cons.mpr ⟨cw_207, List.forall_mem_cons.mpr ⟨cw_208, List.forall_mem_cons.mpr ⟨cw_209, List.forall_mem_cons.mpr ⟨cw_210, List.forall_mem_cons.mpr ⟨cw_211, List.forall_mem_cons.mpr ⟨cw_212, List.forall_mem_cons.mpr ⟨cw_213, List.forall_mem_cons.mpr ⟨cw_214, List.forall_mem_cons.mpr ⟨cw_215, List.forall_mem_cons.mpr ⟨cw_216, List.forall_mem_cons.mpr ⟨cw_217, List.forall_mem_cons.mpr ⟨cw_218, List.forall_mem_cons.mpr ⟨cw_219, fun _ h => absurd h List.not_mem_nil⟩⟩⟩⟩⟩⟩⟩⟩⟩⟩⟩⟩⟩⟩⟩⟩⟩⟩⟩⟩
theorem cwr_200 {m : Nat} (h1 : 200 ≤ m) (h2 : m < 220) : cwM m ∈ lw_tbl ∧ goodWord (cwM m) = true := by
  have h : cwM m ∈ (List.range' 200 20).map cwM := List.mem_map.mpr ⟨m, List.mem_range'_1.mpr ⟨h1, h2⟩, rfl⟩
  exact cwl_200 _ h
theorem cwl_220 : ∀ w ∈ [cwM 220, cwM 221, cwM 222, cwM 223, cwM 224, cwM 225, cwM 226, cwM 227, cwM 228, cwM 229], w ∈ lw_tbl ∧ goodWord w = true := List.forall_mem_cons.mpr ⟨cw_220, List.forall_mem_cons.mpr ⟨cw_221, List.forall_mem_cons.mpr ⟨cw_222, List.forall_mem_cons.mpr ⟨cw_223, List.forall_mem_cons.mpr ⟨cw_224, List.forall_mem_cons.mpr ⟨cw_225, List.forall_mem_cons.mpr ⟨cw_226, List.forall_mem_cons.mpr ⟨cw_227, List.forall_mem_cons.mpr ⟨cw_228, List.forall_mem_cons.mpr ⟨cw_229, fun _ h => absurd h List.not_mem_nil⟩⟩⟩⟩⟩⟩⟩⟩⟩⟩
theorem cwr_220 {m : Nat} (h1 : 220 ≤ m) (h2 : m < 230) : cwM m ∈ lw_tbl ∧ goodWord (cwM m) = true := by
  have h : cwM m ∈ (List.range' 220 10).map cwM := List.mem_map.mpr ⟨m, List.mem_range'_1.mpr ⟨h1, h2⟩, rfl⟩
  exact cwl_220 _ h
theorem cw_ok {m : Nat} (h : m < 230) : cwM m ∈ lw_tbl ∧ goodWord (cwM m) = true := by
  by_cases h220 : 220 ≤ m
  · exact cwr_220 h220 (by omega)
  by_cases h200 : 200 ≤ m
  · exact cwr_200 h200 (by omega)
  by_cases h180 : 180 ≤ m
  · exact cwr_180 h180 (by omega)
  by_cases h160 : 160 ≤ m
  · exact cwr_160 h160 (by omega)
  by_cases h140 : 140 ≤ m
  · exact cwr_140 h140 (by omega)
  by_cases h120 : 120 ≤ m
  · exact cwr_120 h120 (by omega)
  by_cases h100 : 100 ≤ m
  · exact cwr_100 h100 (by omega)
  by_cases h80 : 80 ≤ m
  · exact cwr_80 h80 (by omega)
  by_cases h60 : 60 ≤ m
  · exact cwr_60 h60 (by omega)
  by_cases h40 : 40 ≤ m
  · exact cwr_40 h40 (by omega)
  by_cases h20 : 20 ≤ m
  · exact cwr_20 h20 (by omega)
  by_cases h0 : 0 ≤ m
  · exact cwr_0 h0 (by omega)
  exact (h0 (Nat.zero_le m)).elim
theorem mw_0 : ∀ m, m < 60 → MW (0 + m) = true := by decide +kernel
theorem mw_60 : ∀ m, m < 60 → MW (60 + m) = true := by decide +kernel
theorem mw_120 : ∀ m, m < 60 → MW (120 + m) = true := by decide +kernel
theorem mw_180 : ∀ m, m < 50 → MW (180 + m) = true := by decide +kernel
theorem mw_ok {m : Nat} (h : m < 230) : MW m = true := by
  by_cases h180 : 180 ≤ m
  · have e := mw_180 (m - 180) (by omega)
    rwa [show 180 + (m - 180) = m by omega] at e
  by_cases h120 : 120 ≤ m
  · have e := mw_120 (m - 120) (by omega)
    rwa [show 120 + (m - 120) = m by omega] at e
  by_cases h60 : 60 ≤ m
  · have e := mw_60 (m - 60) (by omega)
    rwa [show 60 + (m - 60) = m by omega] at e
  by_cases h0 : 0 ≤ m
  · have e := mw_0 (m - 0) (by omega)
    rwa [show 0 + (m - 0) = m by omega] at e
  exact (h0 (Nat.zero_le m)).elim
def okSw (pc : Nat) (lo : Int) (offs : Array Int) : Int → List (Int32 × Nat) → Bool
  | _, [] => true
  | j, (v, t) :: r => decide (v.toInt = lo + j) && (match offs[j.toNat]? with | some o => decide ((pc : Int) + o = (t : Int)) | none => false) && okSw pc lo offs (j + 1) r
def okLk (pc : Nat) : List (Int × Int) → List (Int32 × Nat) → Bool
  | [], [] => true
  | (a, o) :: r, (v, t) :: q => decide (v.toInt = a) && decide ((pc : Int) + o = (t : Int)) && okLk pc r q
  | _, _ => false
def okE (o : Nat) (b : ByteArray) (pc : Nat) (e : Ent) : Bool := match e with
  | ((ins, n), a, bb, x, tb) => decide (decode b pc = .ok (ins, n)) && (match ins with
    | .iconst i => n == 1 && decide (Int32.ofInt i = x)
    | .bipush i => n == 2 && decide ((Int8.ofInt i).toInt32 = x)
    | .sipush i => n == 3 && decide ((Int16.ofInt i).toInt32 = x)
    | .ldc i => n == 2 && (match a with
      | 0 => CSTS.any (fun q => q.1 == o && q.2.1 == i && decide (q.2.2.1 = x))
      | 1 => o == 4 && decide (sIdx[bb]? = some i)
      | _ => false)
    | .ldc_w i => n == 3 && CSTS.any (fun q => q.1 == o && q.2.1 == i && decide (q.2.2.1 = x))
    | .iload_n k => n == 1 && k.val == a
    | .aload_n k => n == 1 && k.val == a
    | .istore_n k => n == 1 && k.val == a
    | .astore_n k => n == 1 && k.val == a
    | .iload k => n == 2 && k == a
    | .aload k => n == 2 && k == a
    | .istore k => n == 2 && k == a
    | .astore k => n == 2 && k == a
    | .iinc k c => n == 3 && k == a && decide (Int32.ofInt c = x)
    | .goto off => n == 3 && decide ((pc : Int) + off = (a : Int))
    | .ifCond _ off => n == 3 && decide ((pc : Int) + off = (a : Int))
    | .if_icmp _ off => n == 3 && decide ((pc : Int) + off = (a : Int))
    | .tableswitch d lo hi offs => decide ((pc : Int) + d = (a : Int)) && decide (hi = lo + tb.length - 1) && okSw pc lo offs 0 tb
    | .lookupswitch d ps => decide ((pc : Int) + d = (a : Int)) && ((ps.toList.zip (ps.toList.drop 1)).all (fun (a, next) => a.1 < next.1)) && okLk pc ps.toList tb
    | .getfield i => n == 3 && (FLDS.any (fun q => q.1 == o && q.2.1 == i && q.2.2.1 == a && q.2.2.2.1 == bb) || (a == 100 && (bb == 0 || bb == 1) && FLDJ.any (fun q => q.1 == o && q.2.1 == i && q.2.2.1 == a && q.2.2.2.1 == bb)))
    | .putfield i => n == 3 && FLDS.any (fun q => q.1 == o && q.2.1 == i && q.2.2.1 == a && q.2.2.2.1 == bb)
    | .getstatic i => n == 3 && (a == 0 || a == 1) && FLDJ.any (fun q => q.1 == o && q.2.1 == i && q.2.2.1 == 200 && q.2.2.2.1 == a)
    | .invokevirtual i => n == 3 && decide (a < 230) && MTHS.any (fun q => q.1 == o && q.2.1 == i && q.2.2.1 == a && q.2.2.2.1 == 0) && bb == npM a + 1 && (PR a).2.1 == 0 && decide (tb = [(0, (PR a).1)])
    | .invokestatic i => n == 3 && ((bb == 105 && MTHS.any (fun q => q.1 == o && q.2.1 == i && q.2.2.2.1 == 3)) || ((bb == 106 || bb == 107 || bb == 108) && MTHS.any (fun q => q.1 == o && q.2.1 == i && q.2.2.2.1 == bb - 102)) || (decide (bb < 100) && decide (a < 230) && bb == npM a && (PR a).2.1 == 1 && (MTHS.any (fun q => q.1 == o && q.2.1 == i && q.2.2.1 == a && q.2.2.2.1 == 1) || NSTS.any (fun q => q.1 == o && q.2.1 == i && q.2.2.1 == a && q.2.2.2.1 == 2))))
    | _ => n == 1)
def okT (o : Nat) (b : ByteArray) : Nat → Tab → Bool
  | _, [] => true
  | i, r :: q => (List.range r.length).all (fun j => match r.getD j none with | some e => okE o b (16 * i + j) e | none => true) && decide (r.length ≤ 16) && okT o b (i + 1) q
def okM (r : MRec) : Bool := okT r.1 r.2.2.2.1 0 r.2.2.2.2.2.2
theorem okT_at {o : Nat} {b : ByteArray} : ∀ (T : Tab) (i : Nat), okT o b i T = true → ∀ (k j : Nat) (e : Ent), ((T.getD k []).getD j none) = some e → okE o b (16 * (i + k) + j) e = true := by
  intro T
  induction T with
  | nil => intro i h k j e he; simp at he
  | cons r q ih =>
    intro i h k j e he
    simp only [okT, Bool.and_eq_true] at h
    cases k with
    | zero =>
      have hj : j < r.length := by
        rcases Nat.lt_or_ge j r.length with z | z
        · exact z
        · simp [List.getD_cons_zero, List.getD_eq_getElem?_getD, List.getElem?_eq_none z] at he
      have h1 := List.all_eq_true.mp h.1.1 j (List.mem_range.mpr hj)
      rw [List.getD_cons_zero] at he
      rw [he] at h1
      exact h1
    | succ k =>
      have h2 := ih (i + 1) h.2 k j e (by rw [List.getD_cons_succ] at he; exact he)
      rwa [show i + 1 + k = i + (k + 1) by omega] at h2
theorem okM_at {r : MRec} (h : okM r = true) {pc : Nat} {e : Ent} (he : cof r.2.2.2.2.2.2 pc = some e) : okE r.1 r.2.2.2.1 pc e = true := by
  have h1 := okT_at r.2.2.2.2.2.2 0 h (pc / 16) (pc % 16) e he
  rwa [show 16 * (0 + pc / 16) + pc % 16 = pc by omega] at h1
end
section
-- 05.dec0: the tables are the code (by program gen04.py)
theorem ok_0 : ∀ m, m < 15 → okM (PR (0 + m)) = true := by decide +kernel
theorem ok_15 : ∀ m, m < 15 → okM (PR (15 + m)) = true := by decide +kernel
theorem ok_30 : ∀ m, m < 15 → okM (PR (30 + m)) = true := by decide +kernel
theorem ok_45 : ∀ m, m < 15 → okM (PR (45 + m)) = true := by decide +kernel
end
section
-- 05.dec1: the tables are the code (by program gen04.py)
theorem ok_60 : ∀ m, m < 15 → okM (PR (60 + m)) = true := by decide +kernel
theorem ok_75 : ∀ m, m < 15 → okM (PR (75 + m)) = true := by decide +kernel
theorem ok_90 : ∀ m, m < 15 → okM (PR (90 + m)) = true := by decide +kernel
theorem ok_105 : ∀ m, m < 15 → okM (PR (105 + m)) = true := by decide +kernel
end
section
-- 05.dec2: the tables are the code (by program gen04.py)
theorem ok_120 : ∀ m, m < 15 → okM (PR (120 + m)) = true := by decide +kernel
theorem ok_135 : ∀ m, m < 15 → okM (PR (135 + m)) = true := by decide +kernel
theorem ok_150 : ∀ m, m < 15 → okM (PR (150 + m)) = true := by decide +kernel
theorem ok_165 : ∀ m, m < 15 → okM (PR (165 + m)) = true := by decide +kernel
end
section
-- 05.dec3: the tables are the code (by program gen04.py)
theorem ok_180 : ∀ m, m < 15 → okM (PR (180 + m)) = true := by decide +kernel
theorem ok_195 : ∀ m, m < 15 → okM (PR (195 + m)) = true := by decide +kernel
theorem ok_210 : ∀ m, m < 15 → okM (PR (210 + m)) = true := by decide +kernel
theorem ok_225 : ∀ m, m < 5 → okM (PR (225 + m)) = true := by decide +kernel
end
section
-- 05.decL: the law
theorem okl_0 : okT 11 cL_law 0 ((T_L_law.drop 0).take 12) = true := by decide +kernel
theorem okl_12 : okT 11 cL_law 12 ((T_L_law.drop 12).take 12) = true := by decide +kernel
theorem okl_24 : okT 11 cL_law 24 ((T_L_law.drop 24).take 12) = true := by decide +kernel
theorem okl_36 : okT 11 cL_law 36 ((T_L_law.drop 36).take 12) = true := by decide +kernel
theorem okl_48 : okT 11 cL_law 48 ((T_L_law.drop 48).take 12) = true := by decide +kernel
theorem okl_60 : okT 11 cL_law 60 ((T_L_law.drop 60).take 12) = true := by decide +kernel
theorem okl_72 : okT 11 cL_law 72 ((T_L_law.drop 72).take 12) = true := by decide +kernel
theorem okl_84 : okT 11 cL_law 84 ((T_L_law.drop 84).take 12) = true := by decide +kernel
theorem okl_96 : okT 11 cL_law 96 ((T_L_law.drop 96).take 12) = true := by decide +kernel
theorem okT_app {o : Nat} {b : ByteArray} : ∀ (T U : Tab) (i : Nat), okT o b i T = true → okT o b (i + T.length) U = true → okT o b i (T ++ U) = true := by
  intro T
  induction T with
  | nil => intro U i _ h; exact h
  | cons r q ih =>
    intro U i h1 h2
    simp only [okT, Bool.and_eq_true, List.cons_append] at h1 ⊢
    refine ⟨h1.1, ih U (i + 1) h1.2 ?_⟩
    rwa [show i + 1 + q.length = i + (r :: q).length by simp; omega]
theorem okt_96 : okT 11 cL_law 96 (T_L_law.drop 96) = true := okl_96
theorem okt_84 : okT 11 cL_law 84 (T_L_law.drop 84) = true := okT_app ((T_L_law.drop 84).take 12) (T_L_law.drop 96) 84 okl_84 okt_96
theorem okt_72 : okT 11 cL_law 72 (T_L_law.drop 72) = true := okT_app ((T_L_law.drop 72).take 12) (T_L_law.drop 84) 72 okl_72 okt_84
theorem okt_60 : okT 11 cL_law 60 (T_L_law.drop 60) = true := okT_app ((T_L_law.drop 60).take 12) (T_L_law.drop 72) 60 okl_60 okt_72
theorem okt_48 : okT 11 cL_law 48 (T_L_law.drop 48) = true := okT_app ((T_L_law.drop 48).take 12) (T_L_law.drop 60) 48 okl_48 okt_60
theorem okt_36 : okT 11 cL_law 36 (T_L_law.drop 36) = true := okT_app ((T_L_law.drop 36).take 12) (T_L_law.drop 48) 36 okl_36 okt_48
theorem okt_24 : okT 11 cL_law 24 (T_L_law.drop 24) = true := okT_app ((T_L_law.drop 24).take 12) (T_L_law.drop 36) 24 okl_24 okt_36
theorem okt_12 : okT 11 cL_law 12 (T_L_law.drop 12) = true := okT_app ((T_L_law.drop 12).take 12) (T_L_law.drop 24) 12 okl_12 okt_24
theorem okt_0 : okT 11 cL_law 0 (T_L_law.drop 0) = true := okT_app ((T_L_law.drop 0).take 12) (T_L_law.drop 12) 0 okl_0 okt_12
theorem ok_law : okM r_L_law = true := okt_0
theorem okM_ok {m : Nat} (h : m < 230) : okM (PR m) = true := by
  by_cases h225 : 225 ≤ m
  · have e := ok_225 (m - 225) (by omega)
    rwa [show 225 + (m - 225) = m by omega] at e
  by_cases h210 : 210 ≤ m
  · have e := ok_210 (m - 210) (by omega)
    rwa [show 210 + (m - 210) = m by omega] at e
  by_cases h195 : 195 ≤ m
  · have e := ok_195 (m - 195) (by omega)
    rwa [show 195 + (m - 195) = m by omega] at e
  by_cases h180 : 180 ≤ m
  · have e := ok_180 (m - 180) (by omega)
    rwa [show 180 + (m - 180) = m by omega] at e
  by_cases h165 : 165 ≤ m
  · have e := ok_165 (m - 165) (by omega)
    rwa [show 165 + (m - 165) = m by omega] at e
  by_cases h150 : 150 ≤ m
  · have e := ok_150 (m - 150) (by omega)
    rwa [show 150 + (m - 150) = m by omega] at e
  by_cases h135 : 135 ≤ m
  · have e := ok_135 (m - 135) (by omega)
    rwa [show 135 + (m - 135) = m by omega] at e
  by_cases h120 : 120 ≤ m
  · have e := ok_120 (m - 120) (by omega)
    rwa [show 120 + (m - 120) = m by omega] at e
  by_cases h105 : 105 ≤ m
  · have e := ok_105 (m - 105) (by omega)
    rwa [show 105 + (m - 105) = m by omega] at e
  by_cases h90 : 90 ≤ m
  · have e := ok_90 (m - 90) (by omega)
    rwa [show 90 + (m - 90) = m by omega] at e
  by_cases h75 : 75 ≤ m
  · have e := ok_75 (m - 75) (by omega)
    rwa [show 75 + (m - 75) = m by omega] at e
  by_cases h60 : 60 ≤ m
  · have e := ok_60 (m - 60) (by omega)
    rwa [show 60 + (m - 60) = m by omega] at e
  by_cases h45 : 45 ≤ m
  · have e := ok_45 (m - 45) (by omega)
    rwa [show 45 + (m - 45) = m by omega] at e
  by_cases h30 : 30 ≤ m
  · have e := ok_30 (m - 30) (by omega)
    rwa [show 30 + (m - 30) = m by omega] at e
  by_cases h15 : 15 ≤ m
  · have e := ok_15 (m - 15) (by omega)
    rwa [show 15 + (m - 15) = m by omega] at e
  by_cases h0 : 0 ≤ m
  · have e := ok_0 (m - 0) (by omega)
    rwa [show 0 + (m - 0) = m by omega] at e
  exact (h0 (Nat.zero_le m)).elim
end
section
-- 06.sound: the small machine is the machine: worlds, contexts, one step, methods
theorem allw_good {w : Cond} (h : w ∈ ALLW) : (w.onTables && w.keeps) = true ∨ ∃ ty, w = .arrayClass ty := good_of_word (List.mem_filter.mp h).2
theorem goodAll {ws : List Cond} (h : ∀ w ∈ ws, w ∈ ALLW) : GoodIn ALLW ws := fun w hw => ⟨h w hw, allw_good (h w hw)⟩
theorem aw2 {w : Cond} {i : Nat} (h : lw_tbl[i]? = some w ∧ goodWord w = true) : w ∈ ALLW := aw i h.1 h.2
def wsOf (m : Nat) : List Cond := cwM m :: ALLW
theorem cw_in {m : Nat} (h : m < 230) : cwM m ∈ ALLW := List.mem_filter.mpr (cw_ok h)
theorem wsOf_in {m : Nat} (h : m < 230) : ∀ w ∈ wsOf m, w ∈ ALLW := List.forall_mem_cons.mpr ⟨cw_in h, fun _ h => h⟩
def encA (ad : Id3 → Nat) (fm : Value) : AV → Value
  | .inl x => .int x
  | .inr c => if c.1 = 82 then fm else .ref (ad c)
def rm (d : Nat) : Room := { frames := d, cells := 0, slots := 0, locals := 40 * d }
def ety (t : Nat) : FieldType := match t with
  | 0 => .int
  | 1 => .boolean
  | 2 => .char
  | 3 => .object RX0
  | 4 => .object RX3
  | 5 => .object RX7
  | 6 => .object RX5
  | _ => .object RX6
def tysA (cy : Nat → ClassId) : List (ClassId × FieldType) := [(cy 0, ety 0), (cy 1, ety 1), (cy 2, ety 2), (cy 3, ety 3), (cy 4, ety 4), (cy 5, ety 5), (cy 6, ety 6), (cy 7, ety 7)]
theorem tysA_at (cy : Nat → ClassId) {t : Nat} (h : t ≤ 7) : (tysA cy)[t]? = some (cy t, ety t) := by
  rcases (show t = 0 ∨ t = 1 ∨ t = 2 ∨ t = 3 ∨ t = 4 ∨ t = 5 ∨ t = 6 ∨ t = 7 by omega) with rfl | rfl | rfl | rfl | rfl | rfl | rfl | rfl <;> rfl
def cellE (ad : Id3 → Nat) (cy : Nat → ClassId) (M : Mem) (c : Id3) : va_E :=
  if kcls c.1 < 11 then .inr (kcls c.1, (List.range (NF (kcls c.1))).map fun s => encA ad .null (gfv M c.1 c.2.1 c.2.2 s))
  else if aty c.1 < 3 then .inl (cy (aty c.1), alen c.1, .inl (M c.1 c.2.1 c.2.2))
  else .inl (cy (aty c.1), alen c.1, .inr (.inr (.inr (.inr fun n => some (ad (aref c.1 c.2.1 n))))))
def wsM (ad : Id3 → Nat) (cy : Nat → ClassId) (M : Mem) : va_W := cids.map fun c => (ad c, cellE ad cy M c)
def WA (ad : Id3 → Nat) : Nat → Prop := fun q => ∃ c ∈ cids, ad c = q
def sLenL : List Nat := sByt.map List.length
def KSt (ad : Id3 → Nat) (fm : Value) (A : Nat → Prop) (U : State) (H : Heap) : Prop :=
  vk_S 11 sLenL sByt (fun i => ad (80, i, 0)) (fun i => ad (81, i, 0)) A U H ∧ (∀ i, i < 11 → vk_R RX4 (sIdx.getD i 0) (sTxt.getD i "") (ad (80, i, 0)) U) ∧
  va_Z "java/lang/String" "COMPACT_STRINGS" "Z" (.int 1) A U H ∧ va_Z "jdk/internal/util/Preconditions" "SIOOBE_FORMATTER" "Ljava/util/function/BiFunction;" fm A U H ∧ ∀ q ∈ NSTS, va_Nw (mkM q) U
def vAV (V : Prop) : AV → Prop
  | .inl _ => True
  | .inr c => c ∈ cids ∨ (c.1 = 80 ∧ c.2.1 < 11 ∧ c.2.2 = 0) ∨ (c.1 = 81 ∧ c.2.1 < 11 ∧ c.2.2 = 0) ∨ c = (82, 0, 0) ∨ (c = (90, 0, 0) ∧ V)
-- facts of the layout, by the kernel
theorem cid_nd : cids.Nodup := by decide +kernel
theorem cid_lt : ∀ c ∈ cids, c.1 < 70 := by decide +kernel
theorem cid_aref : ∀ c ∈ cids, 3 ≤ aty c.1 → ∀ n, n < alen c.1 → aref c.1 c.2.1 n ∈ cids := by decide +kernel
theorem cid_draft : ∀ t, t < 16 → (9, t, 0) ∈ cids := by decide +kernel
theorem cid_one : ∀ c ∈ cids, c.1 = 11 → c = (11, 0, 0) := by decide +kernel
theorem cid_text : ∀ c ∈ cids, c.1 = 9 → c.2.1 < 16 := by decide +kernel
def refOk (v : AV) : Bool := match v with
  | .inr d => decide (d ∈ cids)
  | .inl _ => true
theorem cid_ref0 : ∀ c ∈ cids, kcls c.1 < 11 → ∀ s, s < NF (kcls c.1) → ¬ (c.1 = 11 ∧ s = 6) → refOk (gfv (fun _ _ _ _ => 0) c.1 c.2.1 c.2.2 s) = true := by decide +kernel
theorem gfv_int {M : Mem} {k i j s : Nat} {x : Int32} (h : gfv M k i j s = .inl x) : x = M k i j s := by
  unfold gfv at h
  split at h <;> first | (cases h; rfl) | (split at h <;> first | (cases h; rfl) | cases h)
theorem gfv_ref {M M' : Mem} {k i j s : Nat} {c : Id3} (h : gfv M k i j s = .inr c) (hn : ¬ (k = 11 ∧ s = 6)) : gfv M' k i j s = .inr c := by
  unfold gfv at h ⊢
  split at h <;> first | (cases h; done) | (split at h <;> first | (cases h; done) | (cases h; rfl) | exact absurd ⟨rfl, rfl⟩ hn)
theorem fld_lt : ∀ q ∈ FLDS, q.2.2.1 < 11 ∧ q.2.2.2.1 < NF q.2.2.1 := by decide +kernel
theorem fty_ok : ∀ q ∈ FLDS, (fty q.2.2.1 q.2.2.2.1 = 0 → (TF q.2.2.1 q.2.2.2.1).2.2.2 = false ∧ tyF q.2.2.1 q.2.2.2.1 = .int) ∧ (fty q.2.2.1 q.2.2.2.1 = 1 → (TF q.2.2.1 q.2.2.2.1).2.2.2 = false ∧ tyF q.2.2.1 q.2.2.2.1 = .boolean) ∧ (fty q.2.2.1 q.2.2.2.1 = 3 → q.2.2.1 = 4 ∧ q.2.2.2.1 = 6 ∧ (TF q.2.2.1 q.2.2.2.1).2.2.2 = false ∧ tyF q.2.2.1 q.2.2.2.1 = .object RX7) := by decide +kernel
theorem cl_at {k : Nat} (h : k < 11) : clAll[k]? = some (RO k, TF k, NF k) := by
  rcases (show k = 0 ∨ k = 1 ∨ k = 2 ∨ k = 3 ∨ k = 4 ∨ k = 5 ∨ k = 6 ∨ k = 7 ∨ k = 8 ∨ k = 9 ∨ k = 10 by omega) with rfl | rfl | rfl | rfl | rfl | rfl | rfl | rfl | rfl | rfl | rfl <;> rfl
theorem ty_at {k : Nat} (h : k < 11) : ∀ s, s < NF k → parseFieldDescriptor (TF k s).2.2.1 = some (tyF k s) := by
  rcases (show k = 0 ∨ k = 1 ∨ k = 2 ∨ k = 3 ∨ k = 4 ∨ k = 5 ∨ k = 6 ∨ k = 7 ∨ k = 8 ∨ k = 9 ∨ k = 10 by omega) with rfl | rfl | rfl | rfl | rfl | rfl | rfl | rfl | rfl | rfl | rfl
  · exact tyX0_ok
  · exact tyX1_ok
  · exact tyX2_ok
  · exact tyX3_ok
  · exact tyX4_ok
  · exact tyX5_ok
  · exact tyX6_ok
  · exact tyX7_ok
  · exact tyX8_ok
  · exact tyX9_ok
  · exact tyX10_ok
theorem nm_at {k : Nat} (h : k < 11) : ∀ a, a < NF k → ∀ b, b < NF k → a ≠ b → (TF k a).2.1 ≠ (TF k b).2.1 := by
  rcases (show k = 0 ∨ k = 1 ∨ k = 2 ∨ k = 3 ∨ k = 4 ∨ k = 5 ∨ k = 6 ∨ k = 7 ∨ k = 8 ∨ k = 9 ∨ k = 10 by omega) with rfl | rfl | rfl | rfl | rfl | rfl | rfl | rfl | rfl | rfl | rfl
  · exact nmX0
  · exact nmX1
  · exact nmX2
  · exact nmX3
  · exact nmX4
  · exact nmX5
  · exact nmX6
  · exact nmX7
  · exact nmX8
  · exact nmX9
  · exact nmX10
theorem uw_all : ∀ k, k < 11 → ∀ w ∈ u_ws (RO k) (TF k) (NF k), w ∈ lw_tbl ∧ goodWord w = true := by decide +kernel
theorem uw_at {k : Nat} (h : k < 11) : ∀ w ∈ u_ws (RO k) (TF k) (NF k), w ∈ ALLW := fun w hw => List.mem_filter.mpr (uw_all k h w hw)
end
section
-- 07.sound2: contexts, locals, one step
theorem topI_inv {st : List AV} {K : Int32 → List AV → Prop} (h : topI st K) : ∃ x r, st = .inl x :: r ∧ K x r := by
  unfold topI at h; split at h
  · exact ⟨_, _, rfl, h⟩
  · exact h.elim
theorem topII_inv {st : List AV} {K : Int32 → Int32 → List AV → Prop} (h : topII st K) : ∃ x y r, st = .inl y :: .inl x :: r ∧ K x y r := by
  unfold topII at h; split at h
  · exact ⟨_, _, _, rfl, h⟩
  · exact h.elim
theorem topR_inv {st : List AV} {K : Nat → Nat → Nat → List AV → Prop} (h : topR st K) : ∃ k i j r, st = .inr (k, i, j) :: r ∧ K k i j r := by
  unfold topR at h; split at h
  · exact ⟨_, _, _, _, rfl, h⟩
  · exact h.elim
theorem topIR_inv {st : List AV} {K : Int32 → Nat → Nat → Nat → List AV → Prop} (h : topIR st K) : ∃ x k i j r, st = .inl x :: .inr (k, i, j) :: r ∧ K x k i j r := by
  unfold topIR at h; split at h
  · exact ⟨_, _, _, _, _, rfl, h⟩
  · exact h.elim
theorem topIIR_inv {st : List AV} {K : Int32 → Int32 → Nat → Nat → Nat → List AV → Prop} (h : topIIR st K) : ∃ z x k i j r, st = .inl z :: .inl x :: .inr (k, i, j) :: r ∧ K z x k i j r := by
  unfold topIIR at h; split at h
  · exact ⟨_, _, _, _, _, _, rfl, h⟩
  · exact h.elim
theorem topV_inv {st : List AV} {K : AV → List AV → Prop} (h : topV st K) : ∃ v r, st = v :: r ∧ K v r := by
  unfold topV at h; split at h
  · exact ⟨_, _, rfl, h⟩
  · exact h.elim
theorem topVV_inv {st : List AV} {K : AV → AV → List AV → Prop} (h : topVV st K) : ∃ v u r, st = v :: u :: r ∧ K v u r := by
  unfold topVV at h; split at h
  · exact ⟨_, _, _, rfl, h⟩
  · exact h.elim
theorem topVR_inv {st : List AV} {K : AV → Nat → Nat → Nat → List AV → Prop} (h : topVR st K) : ∃ v k i j r, st = v :: .inr (k, i, j) :: r ∧ K v k i j r := by
  unfold topVR at h; split at h
  · exact ⟨_, _, _, _, _, rfl, h⟩
  · exact h.elim
theorem topCp_inv {st : List AV} {K : Int32 → Int32 → Id3 → Int32 → Id3 → List AV → Prop} (h : topCp st K) : ∃ n dp c1 sp c0 r, st = .inl n :: .inl dp :: .inr c1 :: .inl sp :: .inr c0 :: r ∧ K n dp c1 sp c0 r := by
  unfold topCp at h; split at h
  · exact ⟨_, _, _, _, _, _, rfl, h⟩
  · exact h.elim
theorem locI_inv {lv : LV} {a : Nat} {K : Int32 → Prop} (h : locI lv a K) : ∃ x, lv[a]? = some (some (.inl x)) ∧ K x := by
  unfold locI at h; split at h
  · rename_i x e
    refine ⟨x, ?_, h⟩
    rw [List.getD_eq_getElem?_getD] at e
    cases q : lv[a]? with
    | none => rw [q] at e; cases e
    | some v => rw [q] at e; exact congrArg some e
  · exact h.elim
theorem locR_inv {lv : LV} {a : Nat} {K : Id3 → Prop} (h : locR lv a K) : ∃ x, lv[a]? = some (some (.inr x)) ∧ K x := by
  unfold locR at h; split at h
  · rename_i x e
    refine ⟨x, ?_, h⟩
    rw [List.getD_eq_getElem?_getD] at e
    cases q : lv[a]? with
    | none => rw [q] at e; cases e
    | some v => rw [q] at e; exact congrArg some e
  · exact h.elim
def lvH (ad : Id3 → Nat) (fm : Value) (ls : Array Slot) (lv : LV) : Prop := ls.size = lv.length ∧ lv_wf ls ∧ ∀ (i : Nat) (v : AV), lv[i]? = some (some v) → ls[i]? = some (.val (encA ad fm v))
def asc (ad : Id3 → Nat) (fm : Value) (lv : LV) : List (Nat × Value) := (List.range lv.length).filterMap fun i => match lv[i]? with
  | some (some v) => some (i, encA ad fm v)
  | _ => none
theorem asc_mem {ad : Id3 → Nat} {fm : Value} {lv : LV} {q : Nat × Value} : q ∈ asc ad fm lv ↔ ∃ v, lv[q.1]? = some (some v) ∧ q.2 = encA ad fm v := by
  unfold asc
  rw [List.mem_filterMap]
  constructor
  · rintro ⟨i, -, h⟩
    split at h
    · rename_i v e
      cases h
      exact ⟨v, e, rfl⟩
    · cases h
  · rintro ⟨v, h1, h2⟩
    refine ⟨q.1, ?_, ?_⟩
    · have := (List.getElem?_eq_some_iff.mp h1).1
      exact List.mem_range.mpr this
    · rw [h1]
      exact congrArg some (Prod.ext rfl h2.symm)
theorem lvH.has {ad : Id3 → Nat} {fm : Value} {ls : Array Slot} {lv : LV} (h : lvH ad fm ls lv) : lv_has ls lv.length (asc ad fm lv) := by
  refine ⟨h.1, h.2.1, fun q hq => ?_⟩
  obtain ⟨v, h1, h2⟩ := asc_mem.mp hq
  rw [h2]
  exact h.2.2 _ _ h1
theorem enc_cat {ad : Id3 → Nat} {fm : Value} (hf : fm = .null ∨ ∃ t, fm = .ref t) (v : AV) : (encA ad fm v).category = 1 := by
  rcases v with x | c
  · rfl
  · show (if c.1 = 82 then fm else .ref (ad c)).category = 1
    split
    · rcases hf with rfl | ⟨t, rfl⟩ <;> rfl
    · rfl
theorem lvH.upd {ad : Id3 → Nat} {fm : Value} {ls : Array Slot} {lv : LV} {i : Nat} {v : AV} {L : List (Nat × Value)} (hf : fm = .null ∨ ∃ t, fm = .ref t) (hL : ∀ q ∈ asc ad fm lv, q ∈ L) (h : lv_has ls lv.length ((i, encA ad fm v) :: L.filter (fun q => !(q.1 == i) && !(q.1 + 1 == i && q.2.category == 2)))) : lvH ad fm ls (lv.set i (some v)) := by
  refine ⟨by rw [List.length_set]; exact h.1, h.2.1, fun j u hj => ?_⟩
  by_cases hji : j = i
  · subst hji
    have hl : j < (lv.set j (some v)).length := (List.getElem?_eq_some_iff.mp hj).1
    rw [List.length_set] at hl
    rw [List.getElem?_set_self hl] at hj
    cases hj
    exact h.2.2 (j, encA ad fm v) List.mem_cons_self
  · rw [List.getElem?_set_ne (Ne.symm hji)] at hj
    refine h.2.2 (j, encA ad fm u) (List.mem_cons_of_mem _ (List.mem_filter.mpr ⟨hL _ (asc_mem.mpr ⟨u, hj, rfl⟩), ?_⟩))
    have h1 : (encA ad fm u).category = 1 := enc_cat hf u
    simp [hji, h1]
def Cx (p : Program) (s : State) (m : MethodId) (args : Array Value) (meth : Method) (c : Code) (D : va_G) (ad : Id3 → Nat) (cy : Nat → ClassId) (fm : Value) (A : Nat → Prop) (V90 : Prop) (G0 : Mem) (o : Nat) (b : ByteArray) (nL : Nat) (ret : Option FieldType) : Prop :=
  (p.tables.exec = Jvm.exec ∧ c.code = b ∧ c.maxLocals = nL ∧ meth.sig.returnType = ret ∧ meth.locks = false) ∧ s.vm.findClass (RO o) = some m.cls ∧ (∀ w ∈ ALLW, w.before args s = true) ∧ va_K D clAll (tysA cy) s ∧ (∀ c ∈ cids, A (ad c)) ∧ (∀ c c', c ∈ cids → c' ∈ cids → ad c = ad c' → c = c') ∧ KSt ad fm A s s.heap ∧ (fm = .null ∨ ∃ t, fm = .ref t) ∧
  (V90 → va_X (ad (90, 0, 0)) (G0 91 0 0 0).toNatClampNeg (G0 90 0 0) s s.heap ∧ ad (90, 0, 0) < s.heap.size ∧ ¬ A (ad (90, 0, 0)) ∧ Int32.ofNat (G0 91 0 0 0).toNatClampNeg = G0 91 0 0 0)
section SND
variable {p : Program} {l : Launch} {e : Env} {R : Room} {s : State} {m : MethodId} {args : Array Value} {below : List Frame} {meth : Method} {c : Code} {D : va_G} {ad : Id3 → Nat} {cy : Nat → ClassId} {fm : Value} {A : Nat → Prop} {V90 : Prop} {G0 : Mem} {o : Nat} {b : ByteArray} {nL : Nat} {ret : Option FieldType} {cells slots : Nat} {Z : State → Prop}
def SW (p : Program) (l : Launch) (e : Env) (R : Room) (s : State) (m : MethodId) (args : Array Value) (below : List Frame) (meth : Method) (c : Code) (D : va_G) (ad : Id3 → Nat) (cy : Nat → ClassId) (fm : Value) (A : Nat → Prop) (V90 : Prop) (G0 : Mem) (nL cells slots : Nat) (Z : State → Prop) : CF := fun pc lv st M =>
  ∀ (ls : Array Slot) (H : Heap) (locs : List Loc), lv.length = nL → lvH ad fm ls lv → (∀ v, some v ∈ lv → vAV V90 v) → (∀ v ∈ st, vAV V90 v) → (∀ k, 83 ≤ k → M k = G0 k) → va_P D clAll (wsM ad cy M) H → va_S A s.heap H locs →
    W p l e R s m args below meth c H locs cells slots Z (F0 m pc ls (st.map (encA ad fm)))
theorem ws_get {M : Mem} {q : Id3} (h : q ∈ cids) : ∃ i : Nat, cids[i]? = some q ∧ (wsM ad cy M)[i]? = some (ad q, cellE ad cy M q) := by
  obtain ⟨i, hi⟩ := List.getElem?_of_mem h
  exact ⟨i, hi, by unfold wsM; rw [List.getElem?_map, hi]; rfl⟩
theorem ws_D (hA : ∀ c ∈ cids, A (ad c)) (hinj : ∀ c c', c ∈ cids → c' ∈ cids → ad c = ad c' → c = c') (M : Mem) : va_D A (wsM ad cy M) := by
  unfold wsM
  refine ⟨fun i j x y hi hj hxy => ?_, fun k q hk => ?_⟩
  · rw [List.getElem?_map] at hi hj
    cases h1 : cids[i]? with
    | none => rw [h1] at hi; cases hi
    | some a =>
      cases h2 : cids[j]? with
      | none => rw [h2] at hj; cases hj
      | some a' =>
        rw [h1] at hi; rw [h2] at hj; cases hi; cases hj
        have e := hinj a a' (List.mem_of_getElem? h1) (List.mem_of_getElem? h2) hxy
        subst e
        exact (List.getElem?_inj (List.getElem?_eq_some_iff.mp h1).1 cid_nd).mp (h1.trans h2.symm)
  · rw [List.getElem?_map] at hk
    cases h1 : cids[k]? with
    | none => rw [h1] at hk; cases hk
    | some a => rw [h1] at hk; cases hk; exact hA a (List.mem_of_getElem? h1)
theorem ws_set {M M' : Mem} {i : Nat} {q : Id3} (hi : cids[i]? = some q) (h : ∀ q' ∈ cids, q' ≠ q → cellE ad cy M' q' = cellE ad cy M q') : (wsM ad cy M).set i (ad q, cellE ad cy M' q) = wsM ad cy M' := by
  apply List.ext_getElem?
  intro k
  unfold wsM
  by_cases hk : k = i
  · subst hk
    have hl := (List.getElem?_eq_some_iff.mp hi).1
    rw [List.getElem?_set_self (by simpa using hl), List.getElem?_map, hi]
    rfl
  · rw [List.getElem?_set_ne (Ne.symm hk), List.getElem?_map, List.getElem?_map]
    cases h1 : cids[k]? with
    | none => rfl
    | some a =>
      have hne : a ≠ q := fun z => hk ((List.getElem?_inj (List.getElem?_eq_some_iff.mp h1).1 cid_nd).mp (h1.trans (by rw [z, hi])))
      show some (ad a, _) = some (ad a, _)
      rw [h a (List.mem_of_getElem? h1) hne]
theorem mr_same (M : Mem) (k i j : Nat) (f : Nat → Int32) : mr M k i j f k i j = f := by simp [mr]
theorem mr_ne {M : Mem} {k i j k' i' j' : Nat} {f : Nat → Int32} (h : ¬ (k' = k ∧ i' = i ∧ j' = j)) : mr M k i j f k' i' j' = M k' i' j' := by simp only [mr, if_neg h]
theorem mr_k {M : Mem} {k i j k' : Nat} {f : Nat → Int32} (h : k' ≠ k) : mr M k i j f k' = M k' := by
  funext i' j'
  exact mr_ne (fun z => h z.1)
theorem mr_hi {M : Mem} {q : Id3} (h : q ∈ cids) {f : Nat → Int32} (hg : ∀ k, 83 ≤ k → M k = G0 k) : ∀ k, 83 ≤ k → mr M q.1 q.2.1 q.2.2 f k = G0 k := fun k hk => by
  rw [mr_k (fun z => by have := cid_lt q h; omega)]
  exact hg k hk
/-- what gfv reads: the cell's own row, and the draft's slot -/
theorem gfv_cell {M M' : Mem} {k i j : Nat} (h : M' k i j = M k i j) (hc : (k, i, j) ∈ cids) (s : Nat) : gfv M' k i j s = gfv M k i j s := by
  by_cases hd : k = 11 ∧ s = 6
  · obtain ⟨rfl, rfl⟩ := hd
    have e := cid_one _ hc rfl
    cases e
    show (Sum.inr (9, (M' 11 0 0 6).toNatClampNeg, 0) : AV) = .inr (9, (M 11 0 0 6).toNatClampNeg, 0)
    rw [h]
  · cases hg : gfv M k i j s with
    | inr d => exact gfv_ref hg hd
    | inl x =>
      cases hg' : gfv M' k i j s with
      | inr d => rw [gfv_ref (M' := M) hg' hd] at hg; cases hg
      | inl y => rw [gfv_int hg, gfv_int hg', h]
theorem cell_eq {M M' : Mem} {q : Id3} (hq : q ∈ cids) (h : M' q.1 q.2.1 q.2.2 = M q.1 q.2.1 q.2.2) : cellE ad cy M' q = cellE ad cy M q := by
  unfold cellE
  have e : (fun s => encA ad .null (gfv M' q.1 q.2.1 q.2.2 s)) = fun s => encA ad .null (gfv M q.1 q.2.1 q.2.2 s) := by
    funext s
    rw [gfv_cell h hq s]
  rw [e, h]
theorem cell_ne {M : Mem} {q q' : Id3} {f : Nat → Int32} (h : q' ∈ cids) (hne : q' ≠ q) : cellE ad cy (mr M q.1 q.2.1 q.2.2 f) q' = cellE ad cy M q' :=
  cell_eq h (mr_ne (fun z => hne (Prod.ext z.1 (Prod.ext z.2.1 z.2.2))))
theorem gfv_ok {M : Mem} {q : Id3} (hq : q ∈ cids) (hk : kcls q.1 < 11) {s : Nat} (hs : s < NF (kcls q.1)) (hd : q.1 = 11 ∧ s = 6 → (M 11 0 0 6).toNatClampNeg < 16) : (∃ d ∈ cids, gfv M q.1 q.2.1 q.2.2 s = .inr d) ∨ gfv M q.1 q.2.1 q.2.2 s = .inl (M q.1 q.2.1 q.2.2 s) := by
  by_cases h6 : q.1 = 11 ∧ s = 6
  · refine Or.inl ⟨(9, (M 11 0 0 6).toNatClampNeg, 0), cid_draft _ (hd h6), ?_⟩
    rw [h6.1, h6.2]
    rfl
  · cases hg : gfv M q.1 q.2.1 q.2.2 s with
    | inl x => exact Or.inr (by rw [gfv_int hg])
    | inr d =>
      have h0 := cid_ref0 q hq hk s hs h6
      rw [gfv_ref hg h6] at h0
      exact Or.inl ⟨d, of_decide_eq_true h0, rfl⟩
theorem enc_ref {q : Id3} (h : q.1 ≠ 82) : encA ad fm (.inr q) = .ref (ad q) := if_neg h
theorem enc_cid {q : Id3} (h : q ∈ cids) : encA ad fm (.inr q) = .ref (ad q) := enc_ref (by have := cid_lt q h; omega)
theorem vAV.cid {q : Id3} (h : vAV V90 (.inr q)) (hk : q.1 < 80) : q ∈ cids := by
  rcases h with h | h | h | h | h
  · exact h
  · omega
  · omega
  · rw [h] at hk; exact absurd hk (by decide)
  · rw [h.1] at hk; exact absurd hk (by decide)
theorem kcls_lt {k : Nat} (h : kcls k < 11) : k < 80 := by
  unfold kcls at h
  split at h <;> first | omega | exact absurd h (by decide)
theorem aty_lt {k : Nat} (h : aty k ≤ 7) : k < 80 := by
  unfold aty at h
  split at h <;> first | omega | exact absurd h (by decide)
theorem kcls_aty {k : Nat} (h : kcls k < 11) : aty k = 99 := by
  unfold kcls at h
  split at h <;> first | rfl | exact absurd h (by decide)
theorem aty_kcls {k : Nat} (h : aty k ≤ 7) : kcls k = 99 := by
  unfold aty at h
  split at h <;> first | rfl | exact absurd h (by decide)
theorem dec_of {pc : Nat} {e : Ent} (h : okE o b pc e = true) : decode b pc = .ok e.1 := by
  obtain ⟨⟨ins, n⟩, a, bb, x, tb⟩ := e
  simp only [okE, Bool.and_eq_true, decide_eq_true_eq] at h
  exact h.1
theorem vcons {v : AV} {r : List AV} (h1 : vAV V90 v) (h2 : ∀ u ∈ r, vAV V90 u) : ∀ u ∈ v :: r, vAV V90 u := List.forall_mem_cons.mpr ⟨h1, h2⟩
theorem vtail {v : AV} {r : List AV} (h : ∀ u ∈ v :: r, vAV V90 u) : ∀ u ∈ r, vAV V90 u := (List.forall_mem_cons.mp h).2
theorem vhead {v : AV} {r : List AV} (h : ∀ u ∈ v :: r, vAV V90 u) : vAV V90 v := (List.forall_mem_cons.mp h).1
theorem vset {lv : LV} {i : Nat} {v : AV} (h : ∀ u, some u ∈ lv → vAV V90 u) (hv : vAV V90 v) : ∀ u, some u ∈ lv.set i (some v) → vAV V90 u := by
  intro u hu
  rcases List.mem_or_eq_of_mem_set hu with z | z
  · exact h u z
  · cases z; exact hv
theorem swP_inv {tb : List (Int32 × Nat)} {x : Int32} {d : Nat} {K : Nat → Prop} (h : swP tb x d K) : (∃ (j t : Nat), tb[j]? = some (x, t) ∧ K t) ∨ ((∀ (j : Nat) (v : Int32) (t : Nat), tb[j]? = some (v, t) → ¬ x = v) ∧ K d) := by
  induction tb with
  | nil => exact Or.inr ⟨fun j v t z => by simp at z, h⟩
  | cons q r ih =>
    obtain ⟨v, t⟩ := q
    by_cases e : x = v
    · exact Or.inl ⟨0, t, by rw [e]; rfl, h.1 e⟩
    · rcases ih (h.2 e) with ⟨j, t', h1, h2⟩ | ⟨h1, h2⟩
      · exact Or.inl ⟨j + 1, t', h1, h2⟩
      · refine Or.inr ⟨fun j v' t' z => ?_, h2⟩
        cases j with
        | zero => cases z; exact e
        | succ j => exact h1 j v' t' z
theorem okSw_at {pc : Nat} {lo : Int} {offs : Array Int} : ∀ (tb : List (Int32 × Nat)) (i : Nat), okSw pc lo offs (i : Int) tb = true → ∀ (j : Nat) (v : Int32) (t : Nat), tb[j]? = some (v, t) → v.toInt = lo + ((i + j : Nat) : Int) ∧ ∃ o, offs[i + j]? = some o ∧ (pc : Int) + o = (t : Int) := by
  intro tb
  induction tb with
  | nil => intro i _ j v t z; simp at z
  | cons q r ih =>
    intro i h j v t z
    obtain ⟨v0, t0⟩ := q
    simp only [okSw, Bool.and_eq_true, decide_eq_true_eq] at h
    cases j with
    | zero =>
      cases z
      refine ⟨h.1.1, ?_⟩
      have h2 := h.1.2
      rw [show ((i : Nat) : Int).toNat = i from rfl] at h2
      split at h2
      · rename_i o e
        exact ⟨o, e, of_decide_eq_true h2⟩
      · cases h2
    | succ j =>
      have h3 := ih (i + 1) (by have := h.2; rwa [show ((i + 1 : Nat) : Int) = (i : Int) + 1 by omega]) j v t z
      rwa [show i + 1 + j = i + (j + 1) by omega] at h3
theorem okLk_sw {pc : Nat} {x : Int32} {d : Int} {td : Nat} (hd : (pc : Int) + d = (td : Int)) {K : Nat → Prop} : ∀ (ps : List (Int × Int)) (tb : List (Int32 × Nat)), okLk pc ps tb = true → swP tb x td K → ∃ (off : Int) (t : Nat), Op.lookupswitch.offset ps d x.toInt = off ∧ (pc : Int) + off = (t : Int) ∧ K t := by
  intro ps
  induction ps with
  | nil =>
    intro tb h q
    cases tb with
    | nil => exact ⟨d, td, rfl, hd, q⟩
    | cons a r => simp [okLk] at h
  | cons a r ih =>
    intro tb h q
    cases tb with
    | nil => simp [okLk] at h
    | cons v u =>
      obtain ⟨a, o⟩ := a
      obtain ⟨v, t⟩ := v
      simp only [okLk, Bool.and_eq_true, decide_eq_true_eq] at h
      rw [Op.lookupswitch.offset_cons]
      by_cases e : x = v
      · refine ⟨o, t, ?_, h.1.2, q.1 e⟩
        rw [if_pos (by rw [e, h.1.1])]
      · obtain ⟨off, t', h1, h2, h3⟩ := ih u h.2 (q.2 e)
        refine ⟨off, t', ?_, h2, h3⟩
        rw [if_neg (fun z => e (Int32.toInt_inj.mp (by rw [h.1.1]; exact z.symm)))]
        exact h1
end SND
end
section
-- 08.sound3: one step of the small machine is one step of the machine
def Pcm (D : va_G) (ad : Id3 → Nat) (cy : Nat → ClassId) (fm : Value) (av : List AV) (M : Mem) : Array Value → State → Prop := va_Pc (av.map (encA ad fm)) (fun U => va_P D clAll (wsM ad cy M) U.heap ∧ va_K D clAll (tysA cy) U ∧ KSt ad fm (WA ad) U U.heap)
def Qcm (D : va_G) (ad : Id3 → Nat) (cy : Nat → ClassId) (fm : Value) (Zq : PQ) (M : Mem) : Array Value → State → Outcome → State → Prop := fun _ st oc t => (∃ (r : Option AV) (M' : Mem), oc = .returned (r.map (encA ad fm)) ∧ Zq r M' ∧ (∀ v, r = some v → vAV False v) ∧ (∀ k, 83 ≤ k → M' k = M k) ∧ va_P D clAll (wsM ad cy M') t.heap) ∧ va_F (WA ad) st t
def HRt (p : Program) (l : Launch) (e : Env) (R : Room) (s : State) (m : MethodId) (args : Array Value) (below : List Frame) (meth : Method) (c : Code) (D : va_G) (ad : Id3 → Nat) (cy : Nat → ClassId) (fm : Value) (A : Nat → Prop) (V90 : Prop) (G0 : Mem) (b : ByteArray) (ret : Option FieldType) (cells slots : Nat) (Z : State → Prop) (Q : PQ) : Prop :=
  (∀ (v : Int32) (M : Mem) (pc : Nat) (ls : Array Slot) (H : Heap) (locs : List Loc), decode b pc = .ok (.ireturn, 1) → retP ret v (Q (some (.inl v)) M) → (∀ k, 83 ≤ k → M k = G0 k) → va_P D clAll (wsM ad cy M) H → va_S A s.heap H locs → W p l e R s m args below meth c H locs cells slots Z (F0 m pc ls [.int v])) ∧
  (∀ (k i j : Nat) (M : Mem) (pc : Nat) (ls : Array Slot) (H : Heap) (locs : List Loc), decode b pc = .ok (.areturn, 1) → (k = 80 ∧ isObj ret = true) → vAV V90 (.inr (k, i, j)) → Q (some (.inr (k, i, j))) M → (∀ k, 83 ≤ k → M k = G0 k) → va_P D clAll (wsM ad cy M) H → va_S A s.heap H locs → W p l e R s m args below meth c H locs cells slots Z (F0 m pc ls [encA ad fm (.inr (k, i, j))])) ∧
  (∀ (M : Mem) (pc : Nat) (ls : Array Slot) (H : Heap) (locs : List Loc), decode b pc = .ok (.return_, 1) → ret.isNone = true → Q none M → (∀ k, 83 ≤ k → M k = G0 k) → va_P D clAll (wsM ad cy M) H → va_S A s.heap H locs → W p l e R s m args below meth c H locs cells slots Z (F0 m pc ls []))
def HCl (l : Launch) (D : va_G) (ad : Id3 → Nat) (cy : Nat → ClassId) (fm : Value) (d : Nat) (Γ : GA) : Prop :=
  ∀ (mid : Nat) (av : List AV) (M : Mem) (Zq : PQ), Γ mid av M Zq → mid < 230 → (∀ v ∈ av, vAV False v) → av.length ≤ (PR mid).2.2.2.2.1 → Met l (PR mid).2.2.1 (wsOf mid) (rm d) (Pcm D ad cy fm av M) (Qcm D ad cy fm Zq M) 0 0 (WA ad)
theorem pcm_blind {D : va_G} {ad : Id3 → Nat} {cy : Nat → ClassId} {fm : Value} {av : List AV} {M : Mem} : FrameBlind (Pcm D ad cy fm av M) := by
  intro a U g mk q
  obtain ⟨q0, qP, qK, ks⟩ := q
  exact ⟨q0, qP, va_K.moved (u := U) (U := U.calling g mk a) (Vm.Alike.refl U.vm) qK, vk_S.moved (u := U) (U := U.calling g mk a) (Vm.Alike.refl U.vm) ks.1, fun i hi => vk_R.same (u := U) rfl (ks.2.1 i hi), va_Z.moved (u := U) (U := U.calling g mk a) (Vm.Alike.refl U.vm) ks.2.2.1, va_Z.moved (u := U) (U := U.calling g mk a) (Vm.Alike.refl U.vm) ks.2.2.2.1, fun q hq => va_Nw.same (u := U) (by first | rfl | (have := hq; simp only [NSTS, List.mem_singleton] at this; subst this; rfl)) rfl (ks.2.2.2.2 q hq)⟩
section SND3
variable {p : Program} {l : Launch} {e : Env} {R : Room} {s : State} {m : MethodId} {args : Array Value} {below : List Frame} {meth : Method} {c : Code} {D : va_G} {ad : Id3 → Nat} {cy : Nat → ClassId} {fm : Value} {A : Nat → Prop} {V90 : Prop} {G0 : Mem} {o : Nat} {b : ByteArray} {nL : Nat} {ret : Option FieldType} {cells slots : Nat} {Z : State → Prop} {d : Nat}
theorem kst_at {H : Heap} {locs : List Loc} (ks : KSt ad fm A s s.heap) (hA : ∀ c ∈ cids, A (ad c)) (hS : va_S A s.heap H locs) {U : State} (hU : U.heap = H) (hW : s.WarmedH U.vm) : KSt ad fm (WA ad) U U.heap := by
  have hAB : ∀ q, WA ad q → A q := fun q ⟨c, h1, h2⟩ => by rw [← h2]; exact hA c h1
  rw [hU]
  exact ⟨((ks.1.kept (H1 := H) (fun a h1 h2 => hS.2.1 a h1 h2)).moved hW.alike).narrow hAB, fun i hi => vk_R.warm hW (ks.2.1 i hi), ((ks.2.2.1.kept (H1 := H) (fun a h1 h2 => hS.2.1 a h1 h2)).moved hW.alike).narrow hAB, ((ks.2.2.2.1.kept (H1 := H) (fun a h1 h2 => hS.2.1 a h1 h2)).moved hW.alike).narrow hAB, fun q hq => by
    have h1 := ks.2.2.2.2 q hq
    have h2 := hq
    simp only [NSTS, List.mem_singleton] at h2
    subst h2
    exact va_Nw.warmM hW h1⟩
/-- behind a call of any kind -/
theorem call_back {H : Heap} {locs : List Loc} {pc : Nat} {ls : Array Slot} {st0 rest : List Value} {a : Array Value} {Zq : PQ} {M : Mem} (hr : va_Run p l e R s m args below meth c H locs cells slots 0 0 (F0 m pc ls st0) rest (Qcm D ad cy fm Zq M a) (WA ad)) (hS : va_S A s.heap H locs) (hA : ∀ c ∈ cids, A (ad c))
    (kk : ∀ (r : Option AV) (M' : Mem) (H1 : Heap) (locs1 : List Loc), Zq r M' → (∀ v, r = some v → vAV False v) → (∀ k, 83 ≤ k → M' k = M k) → va_P D clAll (wsM ad cy M') H1 → va_S A s.heap H1 locs1 → W p l e R s m args below meth c H1 locs1 cells slots Z (F0 m (pc + 3) ls ((r.map (encA ad fm)).toList ++ rest))) : W p l e R s m args below meth c H locs cells slots Z (F0 m pc ls st0) := by
  have hAB : ∀ q, WA ad q → A q := fun q ⟨c, h1, h2⟩ => by rw [← h2]; exact hA c h1
  intro T hT X
  obtain ⟨v, st₀, t, T', L, h0, X', hL, e1, e2, ⟨⟨r, M', hv, hz, hr1, hg, hP⟩, hf⟩, st⟩ := hr T hT X
  cases hv
  have hz' : H.size ≤ t.heap.size := by rw [← h0]; exact hf.1
  have hk : ∀ q : Nat, q < H.size → ¬ WA ad q → t.heap[q]? = H[q]? := fun q h1 h2 => by rw [← h0]; exact hf.2 q (by rw [h0]; exact h1) h2
  obtain ⟨t2, a1, b1⟩ := kk r M' T'.heap (locs ++ L) hz hr1 hg (by rw [e1]; exact hP) ⟨Nat.le_trans hS.1 (by rw [e1]; exact hz'), fun q h1 h2 => by rw [e1, hk q (Nat.lt_of_lt_of_le h1 hS.1) (fun z => h2 (hAB q z))]; exact hS.2.1 q h1 h2, fun q hq => by
      rcases List.mem_append.mp hq with h | h
      · exact hS.2.2 q h
      · exact hAB _ (hL q h)⟩ T' rfl X'
  exact ⟨t2, st t2 a1, b1⟩
theorem no90_ok {av : List AV} (h1 : ∀ v ∈ av, vAV V90 v) (h2 : av.all no90 = true) : ∀ v ∈ av, vAV False v := by
  intro v hv
  have h3 := List.all_eq_true.mp h2 v hv
  have h4 := h1 v hv
  rcases v with x | q
  · trivial
  · rcases h4 with h | h | h | h | h
    · exact Or.inl h
    · exact Or.inr (Or.inl h)
    · exact Or.inr (Or.inr (Or.inl h))
    · exact Or.inr (Or.inr (Or.inr (Or.inl h)))
    · rw [h.1] at h3; exact absurd h3 (by decide)
theorem vAV.weak {v : AV} (h : vAV False v) : vAV V90 v := by
  rcases v with x | q
  · trivial
  · rcases h with h | h | h | h | h
    · exact Or.inl h
    · exact Or.inr (Or.inl h)
    · exact Or.inr (Or.inr (Or.inl h))
    · exact Or.inr (Or.inr (Or.inr (Or.inl h)))
    · exact h.2.elim
theorem cat_sum (hf : fm = .null ∨ ∃ t, fm = .ref t) (r : List AV) : ((r.map (encA ad fm)).map fun v => v.category).sum = r.length := by
  induction r with
  | nil => rfl
  | cons v r ih =>
    rw [List.map_cons, List.map_cons, List.sum_cons, ih, enc_cat hf v, List.length_cons]
    omega
theorem toList_map {α β : Type} (r : Option α) (f : α → β) : (r.map f).toList = r.toList.map f := by cases r <;> rfl
theorem mw_facts {mid : Nat} (h : mid < 230) : Cond.initialized (RO (PR mid).1) ∈ ALLW ∧ kwM mid ∈ ALLW ∧ ((PR mid).2.1 = 0 → swM mid ∈ ALLW) ∧ (PR mid).2.2.1.cls = RO (PR mid).1 ∧ plainName (PR mid).2.2.1.cls = true ∧ (PR mid).2.2.1.cls ≠ "java/lang/invoke/MethodHandle" ∧ (PR mid).2.2.1.cls ≠ "java/lang/invoke/VarHandle" ∧ (parseMethodDescriptor (PR mid).2.2.1.desc).map (fun d => d.parameters.length) = some (npM mid) := by
  have q := mw_ok h
  unfold MW at q
  unfold npM
  generalize MP.getD mid (0, 0, 0, 0, 0) = z at q ⊢
  obtain ⟨_, b', c', d', n'⟩ := z
  simp only [Bool.and_eq_true, decide_eq_true_eq] at q
  obtain ⟨⟨⟨⟨⟨⟨⟨⟨⟨⟨q1, q2⟩, q3⟩, q4⟩, q5⟩, q6⟩, q7⟩, q8⟩, q9⟩, q10⟩, q11⟩ := q
  refine ⟨aw2 ⟨q1, q2⟩, aw2 ⟨q3, q4⟩, fun h0 => ?_, q6, q7, q8, q9, q10⟩
  rw [h0] at q5
  simp only [Bool.and_eq_true, decide_eq_true_eq] at q5
  exact aw2 q5
end SND3
end
section
-- 09.sound4: one step, instruction by instruction: cells, fields, arrays, texts, calls
def isI (v : AV) : Bool := match v with
  | .inl _ => true
  | .inr _ => false
theorem cid_int : ∀ c ∈ cids, kcls c.1 < 11 → ∀ s, s < NF (kcls c.1) → fty (kcls c.1) s ≤ 1 → isI (gfv (fun _ _ _ _ => 0) c.1 c.2.1 c.2.2 s) = true ∧ ¬ (c.1 = 11 ∧ s = 6) := by decide +kernel
theorem sLen_eq : ∀ i, i < 11 → sLenL.getD i 0 = sLen i := by decide +kernel
theorem PR_own : ∀ m, m < 230 → (PR m).1 ≤ 16 := by decide +kernel
theorem kcls_or (k : Nat) : kcls k < 11 ∨ kcls k = 99 := by
  unfold kcls
  split <;> first | exact Or.inl (by decide) | exact Or.inr rfl
theorem any_at {α : Type} {L : List α} {f : α → Bool} (h : L.any f = true) : ∃ q ∈ L, f q = true := by
  simpa [List.any_eq_true] using h
section SND4
variable {p : Program} {l : Launch} {e : Env} {R : Room} {s : State} {m : MethodId} {args : Array Value} {below : List Frame} {meth : Method} {c : Code} {D : va_G} {ad : Id3 → Nat} {cy : Nat → ClassId} {fm : Value} {A : Nat → Prop} {V90 : Prop} {G0 : Mem} {o : Nat} {b : ByteArray} {nL : Nat} {ret : Option FieldType} {cells slots : Nat} {Z : State → Prop} {d : Nat}
variable {M : Mem} {rest : List Value} {k i j a bb pc idx : Nat} {ls : Array Slot} {H : Heap} {locs : List Loc}
theorem cell_obj {q : Id3} (h : kcls q.1 < 11) : cellE ad cy M q = .inr (kcls q.1, (List.range (NF (kcls q.1))).map fun s => encA ad .null (gfv M q.1 q.2.1 q.2.2 s)) := if_pos h
theorem cell_arr {q : Id3} (h : aty q.1 < 3) : cellE ad cy M q = .inl (cy (aty q.1), alen q.1, .inl (M q.1 q.2.1 q.2.2)) := by
  unfold cellE
  rw [if_neg (by rw [aty_kcls (by omega)]; decide), if_pos h]
theorem cell_refs {q : Id3} (h1 : 3 ≤ aty q.1) (h2 : aty q.1 ≤ 7) : cellE ad cy M q = .inl (cy (aty q.1), alen q.1, .inr (.inr (.inr (.inr fun n => some (ad (aref q.1 q.2.1 n)))))) := by
  unfold cellE
  rw [if_neg (by rw [aty_kcls h2]; decide), if_neg (by omega)]
theorem fs_at {q : Id3} {n t : Nat} (h : t < n) : ((List.range n).map fun s => encA ad .null (gfv M q.1 q.2.1 q.2.2 s))[t]? = some (encA ad .null (gfv M q.1 q.2.1 q.2.2 t)) := by
  rw [List.getElem?_map, List.getElem?_range h]
  rfl
theorem gfv_slot {M' : Mem} {t : Nat} (h : M' k i j t = M k i j t) (hc : (k, i, j) ∈ cids) : gfv M' k i j t = gfv M k i j t := by
  by_cases hd : k = 11 ∧ t = 6
  · obtain ⟨rfl, rfl⟩ := hd
    have e := cid_one _ hc rfl
    cases e
    show (Sum.inr (9, (M' 11 0 0 6).toNatClampNeg, 0) : AV) = .inr (9, (M 11 0 0 6).toNatClampNeg, 0)
    rw [h]
  · cases hg : gfv M k i j t with
    | inr d => exact gfv_ref hg hd
    | inl x =>
      cases hg' : gfv M' k i j t with
      | inr d => rw [gfv_ref (M' := M) hg' hd] at hg; cases hg
      | inl y => rw [gfv_int hg, gfv_int hg', h]
theorem gfv_isI (hc : (k, i, j) ∈ cids) {t : Nat} (hk : kcls k < 11) (ht : t < NF (kcls k)) (hf : fty (kcls k) t ≤ 1) : gfv M k i j t = .inl (M k i j t) := by
  obtain ⟨h1, h2⟩ := cid_int _ hc hk t ht hf
  cases hg : gfv M k i j t with
  | inl x => rw [gfv_int hg]
  | inr d => rw [gfv_ref hg h2] at h1; cases h1
theorem snd_get (C : Cx p s m args meth c D ad cy fm A V90 G0 o b nL ret) (hd : decode b pc = .ok (.getfield idx, 3)) (hl : FLDS.any (fun q => q.1 == o && q.2.1 == idx && q.2.2.1 == a && q.2.2.2.1 == bb) = true) (hk : kcls k = a) (hq : vAV V90 (.inr (k, i, j))) (h6 : k = 11 ∧ bb = 6 → (M 11 0 0 6).toNatClampNeg < 16)
    (hP : va_P D clAll (wsM ad cy M) H) (kk : vAV V90 (gfv M k i j bb) → W p l e R s m args below meth c H locs cells slots Z (F0 m (pc + 3) ls (encA ad fm (gfv M k i j bb) :: rest))) :
    W p l e R s m args below meth c H locs cells slots Z (F0 m pc ls (encA ad fm (.inr (k, i, j)) :: rest)) := by
  obtain ⟨⟨hx, hb, hml, hr, hlk⟩, hown, hts, hK, hA, hinj, ks, hfm, hscr⟩ := C
  obtain ⟨q, hm, hq'⟩ := any_at hl
  simp only [Bool.and_eq_true, beq_iff_eq] at hq'
  obtain ⟨⟨⟨rfl, rfl⟩, rfl⟩, rfl⟩ := hq'
  have hlt := fld_lt q hm
  have hk11 : kcls k < 11 := by rw [hk]; exact hlt.1
  have hc := hq.cid (kcls_lt hk11)
  obtain ⟨i0, hi, hws⟩ := ws_get (ad := ad) (cy := cy) (M := M) hc
  rw [cell_obj hk11] at hws
  rw [enc_cid hc]
  refine va_get (D := D) (ci := kcls k) (C := RO (kcls k)) (T := TF (kcls k)) (N := NF (kcls k)) hx hb hts (uw_at hk11) hown hK hP i0 hws (cl_at hk11) q.2.2.2.1 (by rw [hk]; exact hlt.2) (by rw [hk]; exact hts _ (aw2 (fld_ok q hm))) (fun _ h9 => h9) (fs_at (by rw [hk]; exact hlt.2)) hd ?_
  rcases gfv_ok hc hk11 (s := q.2.2.2.1) (by rw [hk]; exact hlt.2) h6 with ⟨d, h1, h2⟩ | h2
  · have h3 := kk (by rw [h2]; exact Or.inl h1)
    rw [h2] at h3 ⊢
    rw [enc_cid h1] at h3 ⊢
    exact h3
  · have h3 := kk (by rw [h2]; trivial)
    rw [h2] at h3 ⊢
    exact h3
theorem upd_at (f : Nat → Int32) (t : Nat) (x : Int32) : upd f t x t = x := by simp [upd]
theorem upd_ne {f : Nat → Int32} {t u : Nat} {x : Int32} (h : u ≠ t) : upd f t x u = f u := by simp [upd, h]
theorem mu_at (M : Mem) (k i j t : Nat) (x : Int32) : mu M k i j t x k i j = upd (M k i j) t x := mr_same _ _ _ _ _
theorem fs_set {q : Id3} (hc : q ∈ cids) {n t : Nat} {v : Value} {x : Int32} (ht : t < n) (hv : v = encA ad .null (gfv (mu M q.1 q.2.1 q.2.2 t x) q.1 q.2.1 q.2.2 t)) : ((List.range n).map fun s => encA ad .null (gfv M q.1 q.2.1 q.2.2 s)).set t v = (List.range n).map fun s => encA ad .null (gfv (mu M q.1 q.2.1 q.2.2 t x) q.1 q.2.1 q.2.2 s) := by
  apply List.ext_getElem?
  intro u
  by_cases hu : u = t
  · subst hu
    rw [List.getElem?_set_self (by simpa using ht), fs_at ht, hv]
  · rw [List.getElem?_set_ne (Ne.symm hu)]
    have h1 : gfv (mu M q.1 q.2.1 q.2.2 t x) q.1 q.2.1 q.2.2 u = gfv M q.1 q.2.1 q.2.2 u := gfv_slot (by rw [mu_at, upd_ne hu]) hc
    by_cases hn : u < n
    · rw [fs_at hn, fs_at (M := mu M q.1 q.2.1 q.2.2 t x) hn, h1]
    · rw [List.getElem?_eq_none (by simp; omega), List.getElem?_eq_none (by simp; omega)]
theorem snd_put0 (C : Cx p s m args meth c D ad cy fm A V90 G0 o b nL ret) (hd : decode b pc = .ok (.putfield idx, 3)) (hl : FLDS.any (fun q => q.1 == o && q.2.1 == idx && q.2.2.1 == a && q.2.2.2.1 == bb) = true) (hk : kcls k = a) (hq : vAV V90 (.inr (k, i, j))) {x : Int32} {v : Value} {ty : FieldType} (hfin : (TF a bb).2.2.2 = false) (hty : tyF a bb = ty) (hn : narrow ty v = v) (hfit : fits ty v = true)
    (hv : (k, i, j) ∈ cids → bb < NF (kcls k) → v = encA ad .null (gfv (mu M k i j bb x) k i j bb))
    (hP : va_P D clAll (wsM ad cy M) H) (hS : va_S A s.heap H locs) (kk : ∀ (H1 : Heap) (locs1 : List Loc), (k, i, j) ∈ cids → va_P D clAll (wsM ad cy (mu M k i j bb x)) H1 → va_S A s.heap H1 locs1 → W p l e R s m args below meth c H1 locs1 cells slots Z (F0 m (pc + 3) ls rest)) :
    W p l e R s m args below meth c H locs cells slots Z (F0 m pc ls (v :: encA ad fm (.inr (k, i, j)) :: rest)) := by
  obtain ⟨⟨hx, hb, hml, hr, hlk⟩, hown, hts, hK, hA, hinj, ks, hfm, hscr⟩ := C
  obtain ⟨q, hm, hq'⟩ := any_at hl
  simp only [Bool.and_eq_true, beq_iff_eq] at hq'
  obtain ⟨⟨⟨rfl, rfl⟩, e1⟩, rfl⟩ := hq'
  have hlt := fld_lt q hm
  have hk11 : kcls k < 11 := by rw [hk, ← e1]; exact hlt.1
  have hN : q.2.2.2.1 < NF (kcls k) := by rw [hk, ← e1]; exact hlt.2
  have hc := hq.cid (kcls_lt hk11)
  obtain ⟨i0, hi, hws⟩ := ws_get (ad := ad) (cy := cy) (M := M) hc
  rw [cell_obj hk11] at hws
  rw [enc_cid hc]
  subst hk
  have hF := aw2 (fld_ok q hm)
  unfold mkF at hF
  rw [e1] at hF
  refine va_put (D := D) (ci := kcls k) (C := RO (kcls k)) (T := TF (kcls k)) (N := NF (kcls k)) hx hb hts (uw_at hk11) (tyF (kcls k)) (ty_at hk11) (nm_at hk11) hown hK hP (ws_D hA hinj M) hS i0 hws (cl_at hk11) q.2.2.2.1 hN (hts _ hF) (fun _ h9 => h9) hfin ((ty_at hk11 _ hN).trans (congrArg some hty)) hn hfit (by simpa using hN) hd (fun H1 locs1 hP1 hD1 hS1 => ?_)
  refine kk H1 locs1 hc ?_ hS1
  have e2 := fs_set (ad := ad) (M := M) (q := (k, i, j)) hc (x := x) hN (hv hc hN)
  have e3 := ws_set (ad := ad) (cy := cy) (M := M) (M' := mu M k i j q.2.2.2.1 x) hi (fun q' h1 h2 => cell_ne h1 h2)
  rw [cell_obj hk11] at e3
  rw [← e3]
  rw [e2] at hP1
  exact hP1
theorem snd_iald (C : Cx p s m args meth c D ad cy fm A V90 G0 o b nL ret) (hd : decode b pc = .ok (.iaload, 1)) (ht : aty k = 0) (hq : vAV V90 (.inr (k, i, j))) {x : Int32} (hin : vp_in x (alen k))
    (hP : va_P D clAll (wsM ad cy M) H) (kk : W p l e R s m args below meth c H locs cells slots Z (F0 m (pc + 1) ls (.int (M k i j x.toNatClampNeg) :: rest))) :
    W p l e R s m args below meth c H locs cells slots Z (F0 m pc ls (.int x :: encA ad fm (.inr (k, i, j)) :: rest)) := by
  obtain ⟨⟨hx, hb, hml, hr, hlk⟩, hown, hts, hK, hA, hinj, ks, hfm, hscr⟩ := C
  have hc := hq.cid (aty_lt (k := k) (by omega))
  obtain ⟨i0, hi, hws⟩ := ws_get (ad := ad) (cy := cy) (M := M) hc
  rw [cell_arr (by show aty k < 3; omega)] at hws
  rw [enc_cid hc]
  exact va_iald (D := D) hx hb hK hP i0 0 hws (by show _ = some (cy (aty k), FieldType.int); rw [ht]; rfl) hin hd kk
theorem snd_zald (C : Cx p s m args meth c D ad cy fm A V90 G0 o b nL ret) (hd : decode b pc = .ok (.baload, 1)) (ht : aty k = 1) (hq : vAV V90 (.inr (k, i, j))) {x : Int32} (hin : vp_in x (alen k))
    (hP : va_P D clAll (wsM ad cy M) H) (kk : W p l e R s m args below meth c H locs cells slots Z (F0 m (pc + 1) ls (.int (M k i j x.toNatClampNeg) :: rest))) :
    W p l e R s m args below meth c H locs cells slots Z (F0 m pc ls (.int x :: encA ad fm (.inr (k, i, j)) :: rest)) := by
  obtain ⟨⟨hx, hb, hml, hr, hlk⟩, hown, hts, hK, hA, hinj, ks, hfm, hscr⟩ := C
  have hc := hq.cid (aty_lt (k := k) (by omega))
  obtain ⟨i0, hi, hws⟩ := ws_get (ad := ad) (cy := cy) (M := M) hc
  rw [cell_arr (by show aty k < 3; omega)] at hws
  rw [enc_cid hc]
  exact va_zald (D := D) hx hb hK hP i0 1 hws (by show _ = some (cy (aty k), FieldType.boolean); rw [ht]; rfl) hin hd kk
theorem snd_cald (C : Cx p s m args meth c D ad cy fm A V90 G0 o b nL ret) (hd : decode b pc = .ok (.caload, 1)) (ht : aty k = 2) (hq : vAV V90 (.inr (k, i, j))) {x : Int32} (hin : vp_in x (alen k))
    (hP : va_P D clAll (wsM ad cy M) H) (kk : W p l e R s m args below meth c H locs cells slots Z (F0 m (pc + 1) ls (.int (M k i j x.toNatClampNeg) :: rest))) :
    W p l e R s m args below meth c H locs cells slots Z (F0 m pc ls (.int x :: encA ad fm (.inr (k, i, j)) :: rest)) := by
  obtain ⟨⟨hx, hb, hml, hr, hlk⟩, hown, hts, hK, hA, hinj, ks, hfm, hscr⟩ := C
  have hc := hq.cid (aty_lt (k := k) (by omega))
  obtain ⟨i0, hi, hws⟩ := ws_get (ad := ad) (cy := cy) (M := M) hc
  rw [cell_arr (by show aty k < 3; omega)] at hws
  rw [enc_cid hc]
  exact va_cald (D := D) hx hb hK hP i0 2 hws (by show _ = some (cy (aty k), FieldType.char); rw [ht]; rfl) hin hd kk
theorem snd_iast (C : Cx p s m args meth c D ad cy fm A V90 G0 o b nL ret) (hd : decode b pc = .ok (.iastore, 1)) (ht : aty k = 0) (hq : vAV V90 (.inr (k, i, j))) {x z : Int32} (hin : vp_in x (alen k))
    (hP : va_P D clAll (wsM ad cy M) H) (hS : va_S A s.heap H locs) (kk : ∀ (H1 : Heap) (locs1 : List Loc), (k, i, j) ∈ cids → va_P D clAll (wsM ad cy (mu M k i j x.toNatClampNeg z)) H1 → va_S A s.heap H1 locs1 → W p l e R s m args below meth c H1 locs1 cells slots Z (F0 m (pc + 1) ls rest)) :
    W p l e R s m args below meth c H locs cells slots Z (F0 m pc ls (.int z :: .int x :: encA ad fm (.inr (k, i, j)) :: rest)) := by
  obtain ⟨⟨hx, hb, hml, hr, hlk⟩, hown, hts, hK, hA, hinj, ks, hfm, hscr⟩ := C
  have hc := hq.cid (aty_lt (k := k) (by omega))
  obtain ⟨i0, hi, hws⟩ := ws_get (ad := ad) (cy := cy) (M := M) hc
  rw [cell_arr (by show aty k < 3; omega)] at hws
  rw [enc_cid hc]
  refine va_iast (D := D) hx hb hK hP (ws_D hA hinj M) hS i0 0 hws (by show _ = some (cy (aty k), FieldType.int); rw [ht]; rfl) hin hd (fun H1 locs1 hP1 hD1 hS1 => ?_)
  refine kk H1 locs1 hc ?_ hS1
  have e3 := ws_set (ad := ad) (cy := cy) (M := M) (M' := mu M k i j x.toNatClampNeg z) hi (fun q' h1 h2 => cell_ne h1 h2)
  rw [cell_arr (by show aty k < 3; omega), mu_at] at e3
  rw [← e3]
  exact hP1
theorem snd_zast (C : Cx p s m args meth c D ad cy fm A V90 G0 o b nL ret) (hd : decode b pc = .ok (.bastore, 1)) (ht : aty k = 1) (hq : vAV V90 (.inr (k, i, j))) {x z : Int32} (hin : vp_in x (alen k)) (hz : z = 0 ∨ z = 1)
    (hP : va_P D clAll (wsM ad cy M) H) (hS : va_S A s.heap H locs) (kk : ∀ (H1 : Heap) (locs1 : List Loc), (k, i, j) ∈ cids → va_P D clAll (wsM ad cy (mu M k i j x.toNatClampNeg z)) H1 → va_S A s.heap H1 locs1 → W p l e R s m args below meth c H1 locs1 cells slots Z (F0 m (pc + 1) ls rest)) :
    W p l e R s m args below meth c H locs cells slots Z (F0 m pc ls (.int z :: .int x :: encA ad fm (.inr (k, i, j)) :: rest)) := by
  obtain ⟨⟨hx, hb, hml, hr, hlk⟩, hown, hts, hK, hA, hinj, ks, hfm, hscr⟩ := C
  have hc := hq.cid (aty_lt (k := k) (by omega))
  obtain ⟨i0, hi, hws⟩ := ws_get (ad := ad) (cy := cy) (M := M) hc
  rw [cell_arr (by show aty k < 3; omega)] at hws
  rw [enc_cid hc]
  refine va_zast (D := D) hx hb hK hP (ws_D hA hinj M) hS i0 1 hws (by show _ = some (cy (aty k), FieldType.boolean); rw [ht]; rfl) hin hd (fun H1 locs1 hP1 hD1 hS1 => ?_)
  refine kk H1 locs1 hc ?_ hS1
  have e3 := ws_set (ad := ad) (cy := cy) (M := M) (M' := mu M k i j x.toNatClampNeg z) hi (fun q' h1 h2 => cell_ne h1 h2)
  rw [cell_arr (by show aty k < 3; omega), mu_at] at e3
  rw [← e3]
  rw [show vp_nar .boolean z = z from by rcases hz with rfl | rfl <;> rfl] at hP1
  exact hP1
theorem snd_aald (C : Cx p s m args meth c D ad cy fm A V90 G0 o b nL ret) (hd : decode b pc = .ok (.aaload, 1)) (h3 : 3 ≤ aty k) (h7 : aty k ≤ 7) (hq : vAV V90 (.inr (k, i, j))) {x : Int32} (hin : vp_in x (alen k))
    (hP : va_P D clAll (wsM ad cy M) H) (kk : vAV V90 (.inr (aref k i x.toNatClampNeg)) → W p l e R s m args below meth c H locs cells slots Z (F0 m (pc + 1) ls (encA ad fm (.inr (aref k i x.toNatClampNeg)) :: rest))) :
    W p l e R s m args below meth c H locs cells slots Z (F0 m pc ls (.int x :: encA ad fm (.inr (k, i, j)) :: rest)) := by
  obtain ⟨⟨hx, hb, hml, hr, hlk⟩, hown, hts, hK, hA, hinj, ks, hfm, hscr⟩ := C
  have hc := hq.cid (aty_lt (k := k) (by omega))
  obtain ⟨i0, hi, hws⟩ := ws_get (ad := ad) (cy := cy) (M := M) hc
  rw [cell_refs h3 h7] at hws
  rw [enc_cid hc]
  have hlt : x.toNatClampNeg < alen k := Nat.not_le.mp fun q => hin (Or.inr q)
  have hr1 := cid_aref _ hc h3 _ hlt
  have h9 := kk (Or.inl hr1)
  rw [enc_cid hr1] at h9
  rcases (show aty k = 3 ∨ aty k = 4 ∨ aty k = 5 ∨ aty k = 6 ∨ aty k = 7 by omega) with h | h | h | h | h
  · exact va_aldq (D := D) (C := RX0) hx hb hK hP i0 3 hws (by show _ = some (cy (aty k), _); rw [h]; rfl) hin hd h9
  · exact va_aldq (D := D) (C := RX3) hx hb hK hP i0 4 hws (by show _ = some (cy (aty k), _); rw [h]; rfl) hin hd h9
  · exact va_aldq (D := D) (C := RX7) hx hb hK hP i0 5 hws (by show _ = some (cy (aty k), _); rw [h]; rfl) hin hd h9
  · exact va_aldq (D := D) (C := RX5) hx hb hK hP i0 6 hws (by show _ = some (cy (aty k), _); rw [h]; rfl) hin hd h9
  · exact va_aldq (D := D) (C := RX6) hx hb hK hP i0 7 hws (by show _ = some (cy (aty k), _); rw [h]; rfl) hin hd h9
theorem snd_alen (C : Cx p s m args meth c D ad cy fm A V90 G0 o b nL ret) (hd : decode b pc = .ok (.arraylength, 1)) (ht : aty k = 0) (hq : vAV V90 (.inr (k, i, j)))
    (hP : va_P D clAll (wsM ad cy M) H) (kk : W p l e R s m args below meth c H locs cells slots Z (F0 m (pc + 1) ls (.int (nI (alen k)) :: rest))) :
    W p l e R s m args below meth c H locs cells slots Z (F0 m pc ls (encA ad fm (.inr (k, i, j)) :: rest)) := by
  obtain ⟨⟨hx, hb, hml, hr, hlk⟩, hown, hts, hK, hA, hinj, ks, hfm, hscr⟩ := C
  have hc := hq.cid (aty_lt (k := k) (by omega))
  obtain ⟨i0, hi, hws⟩ := ws_get (ad := ad) (cy := cy) (M := M) hc
  rw [cell_arr (by show aty k < 3; omega)] at hws
  rw [enc_cid hc]
  exact va_alen (D := D) hx hb hK hP i0 0 hws (by show _ = some (cy (aty k), FieldType.int); rw [ht]; rfl) rfl hd kk
end SND4
end
section
-- 10.sound5: texts, statics, Math, copies, calls
section SND5
variable {p : Program} {l : Launch} {e : Env} {R : Room} {s : State} {m : MethodId} {args : Array Value} {below : List Frame} {meth : Method} {c : Code} {D : va_G} {ad : Id3 → Nat} {cy : Nat → ClassId} {fm : Value} {A : Nat → Prop} {V90 : Prop} {G0 : Mem} {o : Nat} {b : ByteArray} {nL : Nat} {ret : Option FieldType} {cells slots : Nat} {Z : State → Prop} {d : Nat}
variable {M : Mem} {k i j a bb pc idx : Nat} {ls : Array Slot} {H : Heap} {locs : List Loc} {r : List AV}
theorem snd_sval (C : Cx p s m args meth c D ad cy fm A V90 G0 o b nL ret) (hd : decode b pc = .ok (.getfield idx, 3)) (hl : FLDJ.any (fun q => q.1 == o && q.2.1 == idx && q.2.2.1 == 100 && q.2.2.2.1 == 0) = true) (hk : k = 80) (hq : vAV V90 (.inr (k, i, j)))
    (hS : va_S A s.heap H locs) (kk : vAV V90 (.inr (81, i, 0)) → W p l e R s m args below meth c H locs cells slots Z (F0 m (pc + 3) ls (encA ad fm (.inr (81, i, 0)) :: r.map (encA ad fm)))) :
    W p l e R s m args below meth c H locs cells slots Z (F0 m pc ls (encA ad fm (.inr (k, i, j)) :: r.map (encA ad fm))) := by
  obtain ⟨⟨hx, hb, hml, hr, hlk⟩, hown, hts, hK, hA, hinj, ks, hfm, hscr⟩ := C
  obtain ⟨q, hm, hq'⟩ := any_at hl
  obtain ⟨q1, q2, q3, q4, q5⟩ := q
  simp only [Bool.and_eq_true, beq_iff_eq] at hq'
  obtain ⟨⟨⟨rfl, rfl⟩, rfl⟩, rfl⟩ := hq'
  subst hk
  have hi : i < 11 ∧ j = 0 := by
    rcases hq with h | h | h | h | h
    · exact absurd (cid_lt _ h) (by dsimp only; omega)
    · exact ⟨h.2.1, h.2.2⟩
    · exact absurd h.1 (by dsimp only; omega)
    · cases h
    · cases h.1
  obtain ⟨hi, rfl⟩ := hi
  have h9 := kk (Or.inr (Or.inr (Or.inl ⟨rfl, hi, rfl⟩)))
  exact vk_getf hx hb (ks.1.1 i hi).2.2.1 hS hown (hts _ (aw2 (flj_ok _ hm))) (fun _ h => h) hd h9
theorem snd_scod (C : Cx p s m args meth c D ad cy fm A V90 G0 o b nL ret) (hd : decode b pc = .ok (.getfield idx, 3)) (hl : FLDJ.any (fun q => q.1 == o && q.2.1 == idx && q.2.2.1 == 100 && q.2.2.2.1 == 1) = true) (hk : k = 80) (hq : vAV V90 (.inr (k, i, j)))
    (hS : va_S A s.heap H locs) (kk : W p l e R s m args below meth c H locs cells slots Z (F0 m (pc + 3) ls (.int 0 :: r.map (encA ad fm)))) :
    W p l e R s m args below meth c H locs cells slots Z (F0 m pc ls (encA ad fm (.inr (k, i, j)) :: r.map (encA ad fm))) := by
  obtain ⟨⟨hx, hb, hml, hr, hlk⟩, hown, hts, hK, hA, hinj, ks, hfm, hscr⟩ := C
  obtain ⟨q, hm, hq'⟩ := any_at hl
  obtain ⟨q1, q2, q3, q4, q5⟩ := q
  simp only [Bool.and_eq_true, beq_iff_eq] at hq'
  obtain ⟨⟨⟨rfl, rfl⟩, rfl⟩, rfl⟩ := hq'
  subst hk
  have hi : i < 11 ∧ j = 0 := by
    rcases hq with h | h | h | h | h
    · exact absurd (cid_lt _ h) (by dsimp only; omega)
    · exact ⟨h.2.1, h.2.2⟩
    · exact absurd h.1 (by dsimp only; omega)
    · cases h
    · cases h.1
  obtain ⟨hi, rfl⟩ := hi
  exact vk_getf hx hb (ks.1.1 i hi).2.1 hS hown (hts _ (aw2 (flj_ok _ hm))) (fun _ h => h) hd kk
theorem v81 (hq : vAV V90 (.inr (81, i, j))) : i < 11 ∧ j = 0 := by
  rcases hq with h | h | h | h | h
  · exact absurd (cid_lt _ h) (by dsimp only; omega)
  · exact absurd h.1 (by dsimp only; omega)
  · exact ⟨h.2.1, h.2.2⟩
  · cases h
  · cases h.1
theorem v90 (hq : vAV V90 (.inr (90, i, j))) : (i = 0 ∧ j = 0) ∧ V90 := by
  rcases hq with h | h | h | h | h
  · exact absurd (cid_lt _ h) (by dsimp only; omega)
  · exact absurd h.1 (by dsimp only; omega)
  · exact absurd h.1 (by dsimp only; omega)
  · cases h
  · cases h.1; exact ⟨⟨rfl, rfl⟩, h.2⟩
theorem snd_sbal (C : Cx p s m args meth c D ad cy fm A V90 G0 o b nL ret) (hd : decode b pc = .ok (.baload, 1)) (hq : vAV V90 (.inr (81, i, j))) {x : Int32} (hin : vp_in x (sLen i)) (hS : va_S A s.heap H locs)
    (kk : W p l e R s m args below meth c H locs cells slots Z (F0 m (pc + 1) ls (.int ((sByt.getD i []).getD x.toNatClampNeg 0) :: r.map (encA ad fm)))) :
    W p l e R s m args below meth c H locs cells slots Z (F0 m pc ls (.int x :: encA ad fm (.inr (81, i, j)) :: r.map (encA ad fm))) := by
  obtain ⟨⟨hx, hb, hml, hr, hlk⟩, hown, hts, hK, hA, hinj, ks, hfm, hscr⟩ := C
  obtain ⟨hi, rfl⟩ := v81 hq
  exact va_tb hx hb (ks.1.1 i hi).2.2.2 hS (by rw [sLen_eq i hi]; exact hin) rfl hd kk
theorem snd_slen (C : Cx p s m args meth c D ad cy fm A V90 G0 o b nL ret) (hd : decode b pc = .ok (.arraylength, 1)) (hq : vAV V90 (.inr (81, i, j))) (hS : va_S A s.heap H locs)
    (kk : W p l e R s m args below meth c H locs cells slots Z (F0 m (pc + 1) ls (.int (nI (sLen i)) :: r.map (encA ad fm)))) :
    W p l e R s m args below meth c H locs cells slots Z (F0 m pc ls (encA ad fm (.inr (81, i, j)) :: r.map (encA ad fm))) := by
  obtain ⟨⟨hx, hb, hml, hr, hlk⟩, hown, hts, hK, hA, hinj, ks, hfm, hscr⟩ := C
  obtain ⟨hi, rfl⟩ := v81 hq
  exact va_tlen hx hb (ks.1.1 i hi).2.2.2 hS (by rw [sLen_eq i hi]; rfl) hd kk
theorem snd_scr (C : Cx p s m args meth c D ad cy fm A V90 G0 o b nL ret) (hd : decode b pc = .ok (.iaload, 1)) (hq : vAV V90 (.inr (90, i, j))) (hg : ∀ k, 83 ≤ k → M k = G0 k) {x : Int32} (hin : vp_in x (M 91 0 0 0).toNatClampNeg) (hS : va_S A s.heap H locs)
    (kk : W p l e R s m args below meth c H locs cells slots Z (F0 m (pc + 1) ls (.int (M 90 0 0 x.toNatClampNeg) :: r.map (encA ad fm)))) :
    W p l e R s m args below meth c H locs cells slots Z (F0 m pc ls (.int x :: encA ad fm (.inr (90, i, j)) :: r.map (encA ad fm))) := by
  obtain ⟨⟨hx, hb, hml, hr, hlk⟩, hown, hts, hK, hA, hinj, ks, hfm, hscr⟩ := C
  obtain ⟨⟨rfl, rfl⟩, hV⟩ := v90 hq
  obtain ⟨h1, h2, h3, h4⟩ := hscr hV
  rw [hg 91 (by omega)] at hin
  rw [hg 90 (by omega)] at kk
  exact va_sld hx hb h1 h2 h3 hS hin hd kk
theorem snd_scl (C : Cx p s m args meth c D ad cy fm A V90 G0 o b nL ret) (hd : decode b pc = .ok (.arraylength, 1)) (hq : vAV V90 (.inr (90, i, j))) (hg : ∀ k, 83 ≤ k → M k = G0 k) (hS : va_S A s.heap H locs)
    (kk : W p l e R s m args below meth c H locs cells slots Z (F0 m (pc + 1) ls (.int (M 91 0 0 0) :: r.map (encA ad fm)))) :
    W p l e R s m args below meth c H locs cells slots Z (F0 m pc ls (encA ad fm (.inr (90, i, j)) :: r.map (encA ad fm))) := by
  obtain ⟨⟨hx, hb, hml, hr, hlk⟩, hown, hts, hK, hA, hinj, ks, hfm, hscr⟩ := C
  obtain ⟨⟨rfl, rfl⟩, hV⟩ := v90 hq
  obtain ⟨h1, h2, h3, h4⟩ := hscr hV
  rw [hg 91 (by omega), ← h4] at kk
  exact va_slen hx hb h1 h2 h3 hS hd kk
theorem snd_st0 (C : Cx p s m args meth c D ad cy fm A V90 G0 o b nL ret) (hd : decode b pc = .ok (.getstatic idx, 3)) (hl : FLDJ.any (fun q => q.1 == o && q.2.1 == idx && q.2.2.1 == 200 && q.2.2.2.1 == 0) = true) (hS : va_S A s.heap H locs)
    (kk : W p l e R s m args below meth c H locs cells slots Z (F0 m (pc + 3) ls (.int 1 :: r.map (encA ad fm)))) :
    W p l e R s m args below meth c H locs cells slots Z (F0 m pc ls (r.map (encA ad fm))) := by
  obtain ⟨⟨hx, hb, hml, hr, hlk⟩, hown, hts, hK, hA, hinj, ks, hfm, hscr⟩ := C
  obtain ⟨q, hm, hq'⟩ := any_at hl
  obtain ⟨q1, q2, q3, q4, q5⟩ := q
  simp only [Bool.and_eq_true, beq_iff_eq] at hq'
  obtain ⟨⟨⟨rfl, rfl⟩, rfl⟩, rfl⟩ := hq'
  exact va_gets hx hb ks.2.2.1 hS hown (hts _ (aw2 (flj_ok _ hm))) (fun _ h => h) hd kk
theorem snd_st1 (C : Cx p s m args meth c D ad cy fm A V90 G0 o b nL ret) (hd : decode b pc = .ok (.getstatic idx, 3)) (hl : FLDJ.any (fun q => q.1 == o && q.2.1 == idx && q.2.2.1 == 200 && q.2.2.2.1 == 1) = true) (hS : va_S A s.heap H locs)
    (kk : W p l e R s m args below meth c H locs cells slots Z (F0 m (pc + 3) ls (encA ad fm (.inr (82, 0, 0)) :: r.map (encA ad fm)))) :
    W p l e R s m args below meth c H locs cells slots Z (F0 m pc ls (r.map (encA ad fm))) := by
  obtain ⟨⟨hx, hb, hml, hr, hlk⟩, hown, hts, hK, hA, hinj, ks, hfm, hscr⟩ := C
  obtain ⟨q, hm, hq'⟩ := any_at hl
  obtain ⟨q1, q2, q3, q4, q5⟩ := q
  simp only [Bool.and_eq_true, beq_iff_eq] at hq'
  obtain ⟨⟨⟨rfl, rfl⟩, rfl⟩, rfl⟩ := hq'
  exact va_gets hx hb ks.2.2.2.1 hS hown (hts _ (aw2 (flj_ok _ hm))) (fun _ h => h) hd kk
theorem mth_at {mid kd : Nat} (hts : ∀ w ∈ ALLW, w.before args s = true) (hl : MTHS.any (fun q => q.1 == o && q.2.1 == idx && q.2.2.1 == mid && q.2.2.2.1 == kd) = true) : ∃ q5, mkM (o, idx, mid, kd, q5) ∈ ALLW ∧ (o, idx, mid, kd, q5) ∈ MTHS := by
  obtain ⟨q, hm, hq'⟩ := any_at hl
  obtain ⟨q1, q2, q3, q4, q5⟩ := q
  simp only [Bool.and_eq_true, beq_iff_eq] at hq'
  obtain ⟨⟨⟨rfl, rfl⟩, rfl⟩, rfl⟩ := hq'
  exact ⟨q5, aw2 (mth_ok _ hm), hm⟩
theorem mth_at2 {kd : Nat} (hl : MTHS.any (fun q => q.1 == o && q.2.1 == idx && q.2.2.2.1 == kd) = true) : ∃ mid q5, mkM (o, idx, mid, kd, q5) ∈ ALLW := by
  obtain ⟨q, hm, hq'⟩ := any_at hl
  obtain ⟨q1, q2, q3, q4, q5⟩ := q
  simp only [Bool.and_eq_true, beq_iff_eq] at hq'
  obtain ⟨⟨rfl, rfl⟩, rfl⟩ := hq'
  exact ⟨q3, q5, aw2 (mth_ok _ hm)⟩
theorem nat_ok : Cond.native arraycopyName ∈ ALLW ∧ Cond.static arraycopyName ∈ ALLW ∧ Cond.initialized "java/lang/System" ∈ ALLW := by
  refine ⟨?_, ?_, ?_⟩ <;> exact List.mem_filter.mpr (by decide +kernel)
end SND5
end
section
-- 11.sound6: calls, and the step as a whole
theorem tk1 {α : Type} (tk : List α) (c : α) (r : List α) : (tk ++ c :: r).take (tk.length + 1) = tk ++ [c] := by
  induction tk with
  | nil => rfl
  | cons a t ih => show a :: ((t ++ c :: r).take (t.length + 1)) = _; rw [ih]; rfl
theorem dr1 {α : Type} (tk : List α) (c : α) (r : List α) : (tk ++ c :: r).drop (tk.length + 1) = r := by
  induction tk with
  | nil => rfl
  | cons a t ih => exact ih
theorem PR_maxL : ∀ m, m < 230 → (PR m).2.2.2.2.1 ≤ 21 := by decide +kernel
theorem PR_np : ∀ m, m < 230 → npM m + (1 - (PR m).2.1) ≤ (PR m).2.2.2.2.1 := by decide +kernel
section SND6
variable {p : Program} {l : Launch} {e : Env} {R : Room} {s : State} {m : MethodId} {args : Array Value} {below : List Frame} {meth : Method} {c : Code} {D : va_G} {ad : Id3 → Nat} {cy : Nat → ClassId} {fm : Value} {A : Nat → Prop} {V90 : Prop} {G0 : Mem} {o : Nat} {b : ByteArray} {nL : Nat} {ret : Option FieldType} {cells slots : Nat} {Z : State → Prop} {d : Nat}
variable {M : Mem} {k i j a bb pc idx mid n : Nat} {ls : Array Slot} {H : Heap} {locs : List Loc} {st : List AV} {Γ : GA} {lv : LV}
theorem snd_virt (C : Cx p s m args meth c D ad cy fm A V90 G0 o b nL ret) (HC : HCl l D ad cy fm d Γ) (hRf : d + 1 ≤ R.frames) (hRl : 40 * (d + 1) ≤ R.locals) (hcs : cells ≤ R.cells ∧ slots ≤ R.slots)
    (hd : decode b pc = .ok (.invokevirtual idx, 3)) (hmid : mid < 230) (hl : MTHS.any (fun q => q.1 == o && q.2.1 == idx && q.2.2.1 == mid && q.2.2.2.1 == 0) = true) (hn : n = npM mid + 1) (hk0 : (PR mid).2.1 = 0)
    (h : virtP Γ mid n [(0, (PR mid).1)] st M fun st' M' => SW p l e R s m args below meth c D ad cy fm A V90 G0 nL cells slots Z (pc + 3) lv st' M') : SW p l e R s m args below meth c D ad cy fm A V90 G0 nL cells slots Z pc lv st M := by
  intro ls H locs hlen hlv hvv hvs hg hP hS
  have C' := C
  obtain ⟨⟨hx, hb, hml, hr, hlk⟩, hown, hts, hK, hA, hinj, ks, hfm, hscr⟩ := C
  unfold virtP at h
  split at h
  case h_2 => exact h.elim
  rename_i k i j rest z o' hdr htb
  cases htb
  obtain ⟨⟨hn0, hkc⟩, h⟩ := chk_iff.mp h
  unfold callP at h
  split at h
  case isFalse => exact h.elim
  rename_i hc
  obtain ⟨hc1, hc2, hc3⟩ := hc
  have hst : st = st.take (n - 1) ++ .inr (k, i, j) :: rest := by rw [← hdr]; exact (List.take_append_drop _ _).symm
  have htl : (st.take (n - 1)).length = n - 1 := by rw [List.length_take]; omega
  generalize st.take (n - 1) = tk at hst htl
  subst hst
  have hn2 : n = tk.length + 1 := by omega
  rw [hn2, tk1, dr1] at h
  rw [List.reverse_append] at h
  have hvr : vAV V90 (.inr (k, i, j)) := hvs _ (by simp)
  have hk82 : k ≠ 82 := by
    rintro rfl
    have h9 := PR_own mid hmid
    have : kcl2 82 = 99 := rfl
    omega
  have hval : ∀ v ∈ ((.inr (k, i, j) : AV) :: tk.reverse), vAV False v := no90_ok (V90 := V90) (fun v hv => by
    rcases List.mem_cons.mp hv with h9 | h9
    · rw [h9]; exact hvr
    · exact hvs v (List.mem_append_left _ (List.mem_reverse.mp h9))) (by
    rw [List.all_append, Bool.and_eq_true, List.all_cons, Bool.and_eq_true] at hc3
    rw [List.all_cons, Bool.and_eq_true, List.all_reverse]
    exact ⟨hc3.2.1, hc3.1⟩)
  have hMet := HC mid (.inr (k, i, j) :: tk.reverse) M _ h hmid hval (by have := PR_np mid hmid; rw [hk0] at this; simp; omega)
  obtain ⟨w1, w2, w3, w4, w5, w6, w7, w8⟩ := mw_facts hmid
  obtain ⟨q5, hlw, -⟩ := mth_at hts hl
  have hkw : Cond.instanceMethod (PR mid).2.2.1 ∈ ALLW := by unfold kwM at w2; rw [hk0] at w2; exact w2
  have hsw : Cond.selects (RO (PR mid).1) (PR mid).2.2.1 (PR mid).2.2.1 ∈ ALLW := by have := w3 hk0; unfold swM at this; rw [hk0] at this; exact this
  have hcell : ∃ cellB : Cell, H[ad (k, i, j)]? = some cellB ∧ cellB.vm.isStatics = false ∧ s.vm.findClass (RO (PR mid).1) = some cellB.cls := by
    by_cases h80 : k = 80
    · subst h80
      have e12 : (12 : Nat) = (PR mid).1 := hkc
      rw [← e12]
      have hi : i < 11 ∧ j = 0 := by
        rcases hvr with h | h | h | h | h
        · exact absurd (cid_lt _ h) (by dsimp only; omega)
        · exact ⟨h.2.1, h.2.2⟩
        · exact absurd h.1 (by dsimp only; omega)
        · cases h
        · cases h.1
      obtain ⟨hi, rfl⟩ := hi
      exact vk_recv ks.1 hi hS
    · have hk2 : kcls k = (PR mid).1 := by
        rw [← hkc]; unfold kcl2; split
        · exact absurd rfl h80
        · rfl
      have h11 : kcls k < 11 := by
        rcases kcls_or k with z | z
        · exact z
        · have := PR_own mid hmid; omega
      obtain ⟨i0, hi, hws⟩ := ws_get (ad := ad) (cy := cy) (M := M) (hvr.cid (kcls_lt h11))
      rw [cell_obj h11] at hws
      have := va_recv hK hP (cl_at h11) hws
      rw [← hk2]
      exact this
  have hrun : va_Run p l e R s m args below meth c H locs cells slots 0 0 (F0 m pc ls ((tk ++ .inr (k, i, j) :: rest).map (encA ad fm))) (rest.map (encA ad fm)) (Qcm D ad cy fm (fun r M' => SW p l e R s m args below meth c D ad cy fm A V90 G0 nL cells slots Z (pc + 3) lv (r.toList ++ rest) M') M (Value.ref (ad (k, i, j)) :: tk.reverse.map (encA ad fm)).toArray) (WA ad) := va_runV (C := RO (PR mid).1) (b := ad (k, i, j)) (As := tk.reverse.map (encA ad fm)) (rest := rest.map (encA ad fm)) (cells := cells) (slots := slots) (g := F0 m pc ls ((tk ++ .inr (k, i, j) :: rest).map (encA ad fm))) ⟨hx, hb, hml, hown, hts⟩ hMet
    (cwV (ws' := ALLW) (bytes := (PR mid).2.2.2.1) (maxL := (PR mid).2.2.2.2.1) (ret := (PR mid).2.2.2.2.2.1) (index := idx) (npM mid) hts (goodAll (by
      intro w hw
      simp only [wsV, List.cons_append, List.nil_append, List.mem_cons] at hw
      rcases hw with rfl | rfl | rfl | rfl | hw
      · exact hlw
      · exact hkw
      · exact hsw
      · exact w1
      · exact wsOf_in hmid w hw)) rfl rfl rfl ⟨w4, w6, w7, w8⟩ ⟨by show d + 1 ≤ _; exact hRf, by have := PR_maxL mid hmid; show 8 + (_ + 11) + 40 * d ≤ _; omega⟩)
    ⟨pcm_blind, hcell, fun U hU hW => ⟨by rw [List.map_cons, enc_ref hk82], by rw [hU]; exact hP, va_K.moved hW.alike hK, kst_at ks hA hS hU hW⟩⟩
    rfl (by simp; omega) (by show ls.size = nL; rw [hlv.1, hlen]) (by show List.map _ _ = _; rw [List.map_append, List.map_cons, enc_ref hk82]; simp) (lv_room (by rw [cat_sum hfm]; simp at hc2; omega)) hd ⟨by simpa using hcs.1, by simpa using hcs.2⟩
  refine call_back hrun hS hA (fun r M' H1 locs1 hz hr1 hg1 hP1 hS1 => ?_)
  have h9 := hz ls H1 locs1 hlen hlv hvv (by
    intro v hv
    rcases List.mem_append.mp hv with h | h
    · cases r with
      | none => cases h
      | some u =>
        have : v = u := by simpa using h
        rw [this]
        exact (hr1 u rfl).weak
    · exact hvs v (List.mem_append_right _ (List.mem_cons_of_mem _ h))) (fun k hk => (hg1 k hk).trans (hg k hk)) hP1 hS1
  rw [List.map_append, ← toList_map] at h9
  exact h9
theorem snd_stat (C : Cx p s m args meth c D ad cy fm A V90 G0 o b nL ret) (HC : HCl l D ad cy fm d Γ) (hRf : d + 1 ≤ R.frames) (hRl : 40 * (d + 1) ≤ R.locals) (hcs : cells ≤ R.cells ∧ slots ≤ R.slots)
    (hd : decode b pc = .ok (.invokestatic idx, 3)) (hmid : mid < 230) (hl : MTHS.any (fun q => q.1 == o && q.2.1 == idx && q.2.2.1 == mid && q.2.2.2.1 == 1) = true ∨ NSTS.any (fun q => q.1 == o && q.2.1 == idx && q.2.2.1 == mid && q.2.2.2.1 == 2) = true) (hn : n = npM mid) (hk1 : (PR mid).2.1 = 1)
    (h : callP Γ mid n st M fun st' M' => SW p l e R s m args below meth c D ad cy fm A V90 G0 nL cells slots Z (pc + 3) lv st' M') : SW p l e R s m args below meth c D ad cy fm A V90 G0 nL cells slots Z pc lv st M := by
  intro ls H locs hlen hlv hvv hvs hg hP hS
  obtain ⟨⟨hx, hb, hml, hr, hlk⟩, hown, hts, hK, hA, hinj, ks, hfm, hscr⟩ := C
  unfold callP at h
  split at h
  case isFalse => exact h.elim
  rename_i hc
  obtain ⟨hc1, hc2, hc3⟩ := hc
  have hst : st = st.take n ++ st.drop n := (List.take_append_drop _ _).symm
  have htl : (st.take n).length = n := by rw [List.length_take]; omega
  generalize st.take n = tk at hst htl h
  generalize st.drop n = rest at hst h
  subst hst
  have hval : ∀ v ∈ tk.reverse, vAV False v := no90_ok (V90 := V90) (fun v hv => hvs v (List.mem_append_left _ (List.mem_reverse.mp hv))) (by
    rw [List.all_append, Bool.and_eq_true] at hc3
    rw [List.all_reverse]
    exact hc3.1)
  have hMet := HC mid tk.reverse M _ h hmid hval (by have := PR_np mid hmid; rw [hk1] at this; simp; omega)
  obtain ⟨w1, w2, w3, w4, w5, w6, w7, w8⟩ := mw_facts hmid
  have hkw : Cond.static (PR mid).2.2.1 ∈ ALLW := by unfold kwM at w2; rw [hk1] at w2; exact w2
  have hroom : (rm d).frames + 1 ≤ R.frames ∧ 8 + ((PR mid).2.2.2.2.1 + 11) + (rm d).locals ≤ R.locals := ⟨by show d + 1 ≤ _; exact hRf, by have := PR_maxL mid hmid; show 8 + (_ + 11) + 40 * d ≤ _; omega⟩
  have hpre : PreS s H (Pcm D ad cy fm tk.reverse M) (tk.reverse.map (encA ad fm)) := ⟨pcm_blind, fun U hU hW => ⟨rfl, by rw [hU]; exact hP, va_K.moved hW.alike hK, kst_at ks hA hS hU hW⟩⟩
  have hrun : va_Run p l e R s m args below meth c H locs cells slots 0 0 (F0 m pc ls ((tk ++ rest).map (encA ad fm))) (rest.map (encA ad fm)) (Qcm D ad cy fm (fun r M' => SW p l e R s m args below meth c D ad cy fm A V90 G0 nL cells slots Z (pc + 3) lv (r.toList ++ rest) M') M (tk.reverse.map (encA ad fm)).toArray) (WA ad) := by
    rcases hl with hl | hl
    · obtain ⟨q5, hlw, -⟩ := mth_at hts hl
      exact va_runS ⟨hx, hb, hml, hown, hts⟩ hMet
        (va_cwS (ws' := ALLW) (bytes := (PR mid).2.2.2.1) (maxL := (PR mid).2.2.2.2.1) (ret := (PR mid).2.2.2.2.2.1) (index := idx) (npM mid) hts (goodAll (by
          intro w hw
          simp only [va_wsS, List.cons_append, List.nil_append, List.mem_cons] at hw
          rcases hw with rfl | rfl | rfl | hw
          · exact hlw
          · exact hkw
          · rw [w4]; exact w1
          · exact wsOf_in hmid w hw)) rfl rfl rfl ⟨w6, w7, w8⟩ hroom) hpre
        rfl (by simp; omega) (by show ls.size = nL; rw [hlv.1, hlen]) (by show List.map _ _ = _; rw [List.map_append]; simp) (lv_room (by rw [cat_sum hfm]; simp at hc2; omega)) hd ⟨by simpa using hcs.1, by simpa using hcs.2⟩
    · obtain ⟨q, hm, hq'⟩ := any_at hl
      obtain ⟨q1, q2, q3, q4, q5⟩ := q
      simp only [Bool.and_eq_true, beq_iff_eq] at hq'
      obtain ⟨⟨⟨rfl, rfl⟩, rfl⟩, rfl⟩ := hq'
      have hnw := ks.2.2.2.2 _ hm
      exact va_runSN (host := "BedsArePlaces") ⟨hx, hb, hml, hown, hts⟩ hMet
        ⟨va_cnB (ws' := ALLW) (npM q3) hts (goodAll (wsOf_in hmid)) rfl rfl rfl hnw (by rw [w4]; exact hts _ w1) ⟨w6, w7, w8⟩ hroom, hts _ hkw, trivial⟩ hpre
        rfl (by simp; omega) (by show ls.size = nL; rw [hlv.1, hlen]) (by show List.map _ _ = _; rw [List.map_append]; simp) (lv_room (by rw [cat_sum hfm]; simp at hc2; omega)) hd ⟨by simpa using hcs.1, by simpa using hcs.2⟩
  refine call_back hrun hS hA (fun r M' H1 locs1 hz hr1 hg1 hP1 hS1 => ?_)
  have h9 := hz ls H1 locs1 hlen hlv hvv (by
    intro v hv
    rcases List.mem_append.mp hv with h | h
    · cases r with
      | none => cases h
      | some u =>
        have : v = u := by simpa using h
        rw [this]
        exact (hr1 u rfl).weak
    · exact hvs v (List.mem_append_right _ h)) (fun k hk => (hg1 k hk).trans (hg k hk)) hP1 hS1
  rw [List.map_append, ← toList_map] at h9
  exact h9
end SND6
end
section
-- 12.sound7: the step, and the methods
section SND7
variable {p : Program} {l : Launch} {e : Env} {R : Room} {s : State} {m : MethodId} {args : Array Value} {below : List Frame} {meth : Method} {c : Code} {D : va_G} {ad : Id3 → Nat} {cy : Nat → ClassId} {fm : Value} {A : Nat → Prop} {V90 : Prop} {G0 : Mem} {o : Nat} {b : ByteArray} {nL : Nat} {ret : Option FieldType} {cells slots : Nat} {Z : State → Prop} {d : Nat}
variable {M : Mem} {pc : Nat} {st : List AV} {Γ : GA} {lv : LV} {Q : PQ}
theorem mu_hi {k i j t : Nat} {x : Int32} (h : (k, i, j) ∈ cids) (hg : ∀ k, 83 ≤ k → M k = G0 k) : ∀ k', 83 ≤ k' → mu M k i j t x k' = G0 k' := mr_hi (q := (k, i, j)) h hg
set_option maxHeartbeats 4000000 in
theorem step_sound (C : Cx p s m args meth c D ad cy fm A V90 G0 o b nL ret) (HC : HCl l D ad cy fm d Γ) (hRf : d + 1 ≤ R.frames) (hRl : 40 * (d + 1) ≤ R.locals) (hcs : cells ≤ R.cells ∧ slots ≤ R.slots)
    (HR : HRt p l e R s m args below meth c D ad cy fm A V90 G0 b ret cells slots Z Q) {en : Ent} (hok : okE o b pc en = true)
    (h : step Γ ret en pc lv st M (SW p l e R s m args below meth c D ad cy fm A V90 G0 nL cells slots Z) Q) : SW p l e R s m args below meth c D ad cy fm A V90 G0 nL cells slots Z pc lv st M := by
  have CC := C
  obtain ⟨⟨hx, hb, hml, hr, hlk⟩, hown, hts, hK, hA, hinj, ks, hfm, hscr⟩ := C
  obtain ⟨⟨ins, n⟩, a, bb, x0, tb⟩ := en
  simp only [okE, Bool.and_eq_true, decide_eq_true_eq] at hok
  obtain ⟨hd, hok⟩ := hok
  cases ins
  case iconst i =>
    simp only [Bool.and_eq_true, beq_iff_eq, decide_eq_true_eq] at hok
    obtain ⟨rfl, hv⟩ := hok
    intro ls H locs hlen hlv hvv hvs hg hP hS
    exact lv_iconst hx hb hd hv (h ls H locs hlen hlv hvv (vcons trivial hvs) hg hP hS)
  case bipush i =>
    simp only [Bool.and_eq_true, beq_iff_eq, decide_eq_true_eq] at hok
    obtain ⟨rfl, hv⟩ := hok
    intro ls H locs hlen hlv hvv hvs hg hP hS
    exact lv_bipush hx hb hd hv (h ls H locs hlen hlv hvv (vcons trivial hvs) hg hP hS)
  case sipush i =>
    simp only [Bool.and_eq_true, beq_iff_eq, decide_eq_true_eq] at hok
    obtain ⟨rfl, hv⟩ := hok
    intro ls H locs hlen hlv hvv hvs hg hP hS
    exact lv_sipush hx hb hd hv (h ls H locs hlen hlv hvv (vcons trivial hvs) hg hP hS)
  case ldc i =>
    match a, hok, h with
    | 0, hok, h =>
      simp only [Bool.and_eq_true, beq_iff_eq, decide_eq_true_eq] at hok
      obtain ⟨rfl, hv⟩ := hok
      obtain ⟨q, hm, hq'⟩ := any_at hv
      obtain ⟨q1, q2, q3, q4⟩ := q
      simp only [Bool.and_eq_true, beq_iff_eq, decide_eq_true_eq] at hq'
      obtain ⟨⟨rfl, rfl⟩, rfl⟩ := hq'
      intro ls H locs hlen hlv hvv hvs hg hP hS
      exact lv_ldc hx hb hown (hts _ (aw2 (cst_ok _ hm))) hd (h ls H locs hlen hlv hvv (vcons trivial hvs) hg hP hS)
    | 1, hok, h =>
      simp only [Bool.and_eq_true, beq_iff_eq, decide_eq_true_eq] at hok
      obtain ⟨rfl, rfl, hv⟩ := hok
      intro ls H locs hlen hlv hvv hvs hg hP hS
      have hb11 : bb < 11 := (List.getElem?_eq_some_iff.mp hv).1
      have h1 := ks.2.1 bb hb11
      rw [List.getD_eq_getElem?_getD, hv] at h1
      exact va_ldcS hx hb hown h1 hd (h ls H locs hlen hlv hvv (vcons (Or.inr (Or.inl ⟨rfl, hb11, rfl⟩)) hvs) hg hP hS)
    | a + 2, hok, h => simp at hok
  case ldc_w i =>
    simp only [Bool.and_eq_true, beq_iff_eq, decide_eq_true_eq] at hok
    obtain ⟨rfl, hv⟩ := hok
    obtain ⟨q, hm, hq'⟩ := any_at hv
    obtain ⟨q1, q2, q3, q4⟩ := q
    simp only [Bool.and_eq_true, beq_iff_eq, decide_eq_true_eq] at hq'
    obtain ⟨⟨rfl, rfl⟩, rfl⟩ := hq'
    intro ls H locs hlen hlv hvv hvs hg hP hS
    exact lv_ldcw hx hb hown (hts _ (aw2 (cst_ok _ hm))) hd (h ls H locs hlen hlv hvv (vcons trivial hvs) hg hP hS)
  case iload_n k =>
    simp only [Bool.and_eq_true, beq_iff_eq, decide_eq_true_eq] at hok
    obtain ⟨rfl, hv⟩ := hok
    obtain ⟨x, h1, h⟩ := locI_inv h
    intro ls H locs hlen hlv hvv hvs hg hP hS
    exact lv_iload_n hx hb hd hv (hlv.2.2 _ _ h1) (h ls H locs hlen hlv hvv (vcons trivial hvs) hg hP hS)
  case iload k =>
    simp only [Bool.and_eq_true, beq_iff_eq, decide_eq_true_eq] at hok
    obtain ⟨rfl, rfl⟩ := hok
    obtain ⟨x, h1, h⟩ := locI_inv h
    intro ls H locs hlen hlv hvv hvs hg hP hS
    exact lv_iload hx hb hd (hlv.2.2 _ _ h1) (h ls H locs hlen hlv hvv (vcons trivial hvs) hg hP hS)
  case aload_n k =>
    simp only [Bool.and_eq_true, beq_iff_eq, decide_eq_true_eq] at hok
    obtain ⟨rfl, hv⟩ := hok
    obtain ⟨q, h1, h⟩ := locR_inv h
    obtain ⟨h2, h⟩ := chk_iff.mp h
    intro ls H locs hlen hlv hvv hvs hg hP hS
    have h3 := h ls H locs hlen hlv hvv (vcons (hvv _ (List.mem_of_getElem? h1)) hvs) hg hP hS
    have h4 := hlv.2.2 _ _ h1
    rw [List.map_cons, enc_ref h2] at h3
    rw [enc_ref h2] at h4
    exact lv_aload_n hx hb hd hv h4 h3
  case aload k =>
    simp only [Bool.and_eq_true, beq_iff_eq, decide_eq_true_eq] at hok
    obtain ⟨rfl, rfl⟩ := hok
    obtain ⟨q, h1, h⟩ := locR_inv h
    obtain ⟨h2, h⟩ := chk_iff.mp h
    intro ls H locs hlen hlv hvv hvs hg hP hS
    have h3 := h ls H locs hlen hlv hvv (vcons (hvv _ (List.mem_of_getElem? h1)) hvs) hg hP hS
    have h4 := hlv.2.2 _ _ h1
    rw [List.map_cons, enc_ref h2] at h3
    rw [enc_ref h2] at h4
    exact lv_aload hx hb hd h4 h3
  case istore_n k =>
    simp only [Bool.and_eq_true, beq_iff_eq, decide_eq_true_eq] at hok
    obtain ⟨rfl, hv⟩ := hok
    obtain ⟨x, r, rfl, h⟩ := topI_inv h
    obtain ⟨hin, h⟩ := chk_iff.mp h
    intro ls H locs hlen hlv hvv hvs hg hP hS
    exact lv_istore_n hx hb hd hv hlv.has hin rfl (fun ls' hl' => h ls' H locs (by rw [List.length_set]; exact hlen) (lvH.upd (v := .inl x) hfm (fun _ z => z) hl') (vset hvv trivial) (vtail hvs) hg hP hS)
  case istore k =>
    simp only [Bool.and_eq_true, beq_iff_eq, decide_eq_true_eq] at hok
    obtain ⟨rfl, rfl⟩ := hok
    obtain ⟨x, r, rfl, h⟩ := topI_inv h
    obtain ⟨hin, h⟩ := chk_iff.mp h
    intro ls H locs hlen hlv hvv hvs hg hP hS
    exact lv_istore hx hb hd hlv.has hin rfl (fun ls' hl' => h ls' H locs (by rw [List.length_set]; exact hlen) (lvH.upd (v := .inl x) hfm (fun _ z => z) hl') (vset hvv trivial) (vtail hvs) hg hP hS)
  case astore_n k =>
    simp only [Bool.and_eq_true, beq_iff_eq, decide_eq_true_eq] at hok
    obtain ⟨rfl, hv⟩ := hok
    obtain ⟨k, i, j, r, rfl, h⟩ := topR_inv h
    obtain ⟨⟨h82, hin⟩, h⟩ := chk_iff.mp h
    intro ls H locs hlen hlv hvv hvs hg hP hS
    rw [List.map_cons, enc_ref h82]
    exact lv_astore_n hx hb hd hv hlv.has hin rfl (fun ls' hl' => h ls' H locs (by rw [List.length_set]; exact hlen) (lvH.upd (v := .inr (k, i, j)) hfm (fun _ z => z) (by rw [enc_ref h82]; exact hl')) (vset hvv (vhead hvs)) (vtail hvs) hg hP hS)
  case astore k =>
    simp only [Bool.and_eq_true, beq_iff_eq, decide_eq_true_eq] at hok
    obtain ⟨rfl, rfl⟩ := hok
    obtain ⟨k, i, j, r, rfl, h⟩ := topR_inv h
    obtain ⟨⟨h82, hin⟩, h⟩ := chk_iff.mp h
    intro ls H locs hlen hlv hvv hvs hg hP hS
    rw [List.map_cons, enc_ref h82]
    exact lv_astore hx hb hd hlv.has hin rfl (fun ls' hl' => h ls' H locs (by rw [List.length_set]; exact hlen) (lvH.upd (v := .inr (k, i, j)) hfm (fun _ z => z) (by rw [enc_ref h82]; exact hl')) (vset hvv (vhead hvs)) (vtail hvs) hg hP hS)
  case iinc k i =>
    simp only [Bool.and_eq_true, beq_iff_eq, decide_eq_true_eq] at hok
    obtain ⟨⟨rfl, rfl⟩, hv⟩ := hok
    obtain ⟨x, h1, h⟩ := locI_inv h
    intro ls H locs hlen hlv hvv hvs hg hP hS
    have hin : k < lv.length := (List.getElem?_eq_some_iff.mp h1).1
    refine lv_iinc (k := 0) (lv := (k, .int x) :: asc ad fm lv) (v := x + x0) hx hb hd ⟨hlv.has.1, hlv.has.2.1, List.forall_mem_cons.mpr ⟨hlv.2.2 _ _ h1, hlv.has.2.2⟩⟩ rfl (by rw [hv]) hin rfl (fun ls' hl' => h ls' H locs (by rw [List.length_set]; exact hlen) (lvH.upd (v := .inl (x + x0)) (L := (k, .int x) :: asc ad fm lv) hfm (fun _ z => List.mem_cons_of_mem _ z) hl') (vset hvv trivial) hvs hg hP hS)
  case iadd =>
    obtain rfl : n = 1 := by simpa using hok
    obtain ⟨x, y, r, rfl, h⟩ := topII_inv h
    intro ls H locs hlen hlv hvv hvs hg hP hS
    exact lv_iadd hx hb hd (h ls H locs hlen hlv hvv (vcons trivial (vtail (vtail hvs))) hg hP hS)
  case isub =>
    obtain rfl : n = 1 := by simpa using hok
    obtain ⟨x, y, r, rfl, h⟩ := topII_inv h
    intro ls H locs hlen hlv hvv hvs hg hP hS
    exact lv_isub hx hb hd (h ls H locs hlen hlv hvv (vcons trivial (vtail (vtail hvs))) hg hP hS)
  case imul =>
    obtain rfl : n = 1 := by simpa using hok
    obtain ⟨x, y, r, rfl, h⟩ := topII_inv h
    intro ls H locs hlen hlv hvv hvs hg hP hS
    exact lv_imul hx hb hd (h ls H locs hlen hlv hvv (vcons trivial (vtail (vtail hvs))) hg hP hS)
  case iand =>
    obtain rfl : n = 1 := by simpa using hok
    obtain ⟨x, y, r, rfl, h⟩ := topII_inv h
    intro ls H locs hlen hlv hvv hvs hg hP hS
    exact lv_iand hx hb hd (h ls H locs hlen hlv hvv (vcons trivial (vtail (vtail hvs))) hg hP hS)
  case ior =>
    obtain rfl : n = 1 := by simpa using hok
    obtain ⟨x, y, r, rfl, h⟩ := topII_inv h
    intro ls H locs hlen hlv hvv hvs hg hP hS
    exact lv_ior hx hb hd (h ls H locs hlen hlv hvv (vcons trivial (vtail (vtail hvs))) hg hP hS)
  case ishl =>
    obtain rfl : n = 1 := by simpa using hok
    obtain ⟨x, y, r, rfl, h⟩ := topII_inv h
    intro ls H locs hlen hlv hvv hvs hg hP hS
    exact lv_ishl hx hb hd (h ls H locs hlen hlv hvv (vcons trivial (vtail (vtail hvs))) hg hP hS)
  case ishr =>
    obtain rfl : n = 1 := by simpa using hok
    obtain ⟨x, y, r, rfl, h⟩ := topII_inv h
    intro ls H locs hlen hlv hvv hvs hg hP hS
    exact lv_ishr hx hb hd (h ls H locs hlen hlv hvv (vcons trivial (vtail (vtail hvs))) hg hP hS)
  case idiv =>
    obtain rfl : n = 1 := by simpa using hok
    obtain ⟨x, y, r, rfl, h⟩ := topII_inv h
    intro ls H locs hlen hlv hvv hvs hg hP hS
    exact lv_idiv hx hb hd h.1 (h.2 ls H locs hlen hlv hvv (vcons trivial (vtail (vtail hvs))) hg hP hS)
  case irem =>
    obtain rfl : n = 1 := by simpa using hok
    obtain ⟨x, y, r, rfl, h⟩ := topII_inv h
    intro ls H locs hlen hlv hvv hvs hg hP hS
    exact lv_irem hx hb hd h.1 (h.2 ls H locs hlen hlv hvv (vcons trivial (vtail (vtail hvs))) hg hP hS)
  case iushr =>
    obtain rfl : n = 1 := by simpa using hok
    obtain ⟨x, y, r, rfl, h⟩ := topII_inv h
    intro ls H locs hlen hlv hvv hvs hg hP hS
    exact lv_iushr hx hb hd rfl (h ls H locs hlen hlv hvv (vcons trivial (vtail (vtail hvs))) hg hP hS)
  case ineg =>
    obtain rfl : n = 1 := by simpa using hok
    obtain ⟨x, r, rfl, h⟩ := topI_inv h
    intro ls H locs hlen hlv hvv hvs hg hP hS
    exact lv_ineg hx hb hd (h ls H locs hlen hlv hvv (vcons trivial (vtail hvs)) hg hP hS)
  case i2b =>
    obtain rfl : n = 1 := by simpa using hok
    obtain ⟨x, r, rfl, h⟩ := topI_inv h
    intro ls H locs hlen hlv hvv hvs hg hP hS
    exact lv_i2b hx hb hd rfl (h ls H locs hlen hlv hvv (vcons trivial (vtail hvs)) hg hP hS)
  case i2s =>
    obtain rfl : n = 1 := by simpa using hok
    obtain ⟨x, r, rfl, h⟩ := topI_inv h
    intro ls H locs hlen hlv hvv hvs hg hP hS
    exact lv_i2s hx hb hd rfl (h ls H locs hlen hlv hvv (vcons trivial (vtail hvs)) hg hP hS)
  case i2c =>
    obtain rfl : n = 1 := by simpa using hok
    obtain ⟨x, r, rfl, h⟩ := topI_inv h
    intro ls H locs hlen hlv hvv hvs hg hP hS
    exact lv_i2c hx hb hd rfl (h ls H locs hlen hlv hvv (vcons trivial (vtail hvs)) hg hP hS)
  case dup =>
    obtain rfl : n = 1 := by simpa using hok
    obtain ⟨v, r, rfl, h⟩ := topV_inv h
    intro ls H locs hlen hlv hvv hvs hg hP hS
    exact lv_dup hx hb hd (enc_cat hfm v) (h ls H locs hlen hlv hvv (vcons (vhead hvs) hvs) hg hP hS)
  case dup2 =>
    obtain rfl : n = 1 := by simpa using hok
    obtain ⟨v, u, r, rfl, h⟩ := topVV_inv h
    intro ls H locs hlen hlv hvv hvs hg hP hS
    exact lv_dup2_11 hx hb hd (enc_cat hfm v) (enc_cat hfm u) (h ls H locs hlen hlv hvv (vcons (vhead hvs) (vcons (vhead (vtail hvs)) hvs)) hg hP hS)
  case pop =>
    obtain rfl : n = 1 := by simpa using hok
    obtain ⟨v, r, rfl, h⟩ := topV_inv h
    intro ls H locs hlen hlv hvv hvs hg hP hS
    exact lv_pop hx hb hd (enc_cat hfm v) (h ls H locs hlen hlv hvv (vtail hvs) hg hP hS)
  case goto off =>
    simp only [Bool.and_eq_true, beq_iff_eq, decide_eq_true_eq] at hok
    obtain ⟨rfl, hv⟩ := hok
    intro ls H locs hlen hlv hvv hvs hg hP hS
    exact lv_goto hx hb hd hv (h ls H locs hlen hlv hvv hvs hg hP hS)
  case ifCond cnd off =>
    simp only [Bool.and_eq_true, beq_iff_eq, decide_eq_true_eq] at hok
    obtain ⟨rfl, hv⟩ := hok
    obtain ⟨x, r, rfl, h⟩ := topI_inv h
    intro ls H locs hlen hlv hvv hvs hg hP hS
    cases cnd
    · exact lv_if_eq hx hb hd hv (fun z => h.1 z ls H locs hlen hlv hvv (vtail hvs) hg hP hS) (fun z => h.2 z ls H locs hlen hlv hvv (vtail hvs) hg hP hS)
    · exact lv_if_ne hx hb hd hv (fun z => h.1 z ls H locs hlen hlv hvv (vtail hvs) hg hP hS) (fun z => h.2 z ls H locs hlen hlv hvv (vtail hvs) hg hP hS)
    · exact lv_if_lt hx hb hd hv (fun z => h.1 z ls H locs hlen hlv hvv (vtail hvs) hg hP hS) (fun z => h.2 z ls H locs hlen hlv hvv (vtail hvs) hg hP hS)
    · exact lv_if_ge hx hb hd hv (fun z => h.1 z ls H locs hlen hlv hvv (vtail hvs) hg hP hS) (fun z => h.2 z ls H locs hlen hlv hvv (vtail hvs) hg hP hS)
    · exact lv_if_gt hx hb hd hv (fun z => h.1 z ls H locs hlen hlv hvv (vtail hvs) hg hP hS) (fun z => h.2 z ls H locs hlen hlv hvv (vtail hvs) hg hP hS)
    · exact lv_if_le hx hb hd hv (fun z => h.1 z ls H locs hlen hlv hvv (vtail hvs) hg hP hS) (fun z => h.2 z ls H locs hlen hlv hvv (vtail hvs) hg hP hS)
  case if_icmp cnd off =>
    simp only [Bool.and_eq_true, beq_iff_eq, decide_eq_true_eq] at hok
    obtain ⟨rfl, hv⟩ := hok
    obtain ⟨x, y, r, rfl, h⟩ := topII_inv h
    intro ls H locs hlen hlv hvv hvs hg hP hS
    cases cnd
    · exact lv_icmp_eq hx hb hd hv (fun z => h.1 z ls H locs hlen hlv hvv (vtail (vtail hvs)) hg hP hS) (fun z => h.2 z ls H locs hlen hlv hvv (vtail (vtail hvs)) hg hP hS)
    · exact lv_icmp_ne hx hb hd hv (fun z => h.1 z ls H locs hlen hlv hvv (vtail (vtail hvs)) hg hP hS) (fun z => h.2 z ls H locs hlen hlv hvv (vtail (vtail hvs)) hg hP hS)
    · exact lv_icmp_lt hx hb hd hv (fun z => h.1 z ls H locs hlen hlv hvv (vtail (vtail hvs)) hg hP hS) (fun z => h.2 z ls H locs hlen hlv hvv (vtail (vtail hvs)) hg hP hS)
    · exact lv_icmp_ge hx hb hd hv (fun z => h.1 z ls H locs hlen hlv hvv (vtail (vtail hvs)) hg hP hS) (fun z => h.2 z ls H locs hlen hlv hvv (vtail (vtail hvs)) hg hP hS)
    · exact lv_icmp_gt hx hb hd hv (fun z => h.1 z ls H locs hlen hlv hvv (vtail (vtail hvs)) hg hP hS) (fun z => h.2 z ls H locs hlen hlv hvv (vtail (vtail hvs)) hg hP hS)
    · exact lv_icmp_le hx hb hd hv (fun z => h.1 z ls H locs hlen hlv hvv (vtail (vtail hvs)) hg hP hS) (fun z => h.2 z ls H locs hlen hlv hvv (vtail (vtail hvs)) hg hP hS)
  case tableswitch df lo hi offs =>
    simp only [Bool.and_eq_true, beq_iff_eq, decide_eq_true_eq] at hok
    obtain ⟨⟨hdf, hhi⟩, hsw⟩ := hok
    obtain ⟨x, r, rfl, h⟩ := topI_inv h
    intro ls H locs hlen hlv hvv hvs hg hP hS
    have hat := okSw_at (pc := pc) (lo := lo) (offs := offs) tb 0 hsw
    rcases swP_inv h with ⟨j, t, h1, h2⟩ | ⟨h1, h2⟩
    · obtain ⟨e1, off, e2, e3⟩ := hat j x t h1
      have hj : j < tb.length := (List.getElem?_eq_some_iff.mp h1).1
      exact lv_tableIn hx hb hd (off := off) (by omega) (by omega) (by rw [e1, show (lo + ((0 + j : Nat) : Int) - lo).toNat = 0 + j by omega]; exact e2) e3 (h2 ls H locs hlen hlv hvv (vtail hvs) hg hP hS)
    · refine lv_tableOut hx hb hd ?_ hdf (h2 ls H locs hlen hlv hvv (vtail hvs) hg hP hS)
      by_cases hlo : x.toInt < lo
      · exact Or.inl hlo
      · right
        by_cases hh : hi < x.toInt
        · exact hh
        · exfalso
          have hj : (x.toInt - lo).toNat < tb.length := by omega
          cases hvt : tb[(x.toInt - lo).toNat] with
          | mk v t =>
            have e0 : tb[(x.toInt - lo).toNat]? = some (v, t) := by rw [List.getElem?_eq_getElem hj, hvt]
            obtain ⟨e1, -⟩ := hat _ v t e0
            exact h1 _ v t e0 (Int32.toInt_inj.mp (by rw [e1]; omega))
  case lookupswitch df ps =>
    simp only [Bool.and_eq_true, beq_iff_eq, decide_eq_true_eq] at hok
    obtain ⟨⟨hdf, hsrt⟩, hlk2⟩ := hok
    obtain ⟨x, r, rfl, h⟩ := topI_inv h
    intro ls H locs hlen hlv hvv hvs hg hP hS
    obtain ⟨off, t, e1, e2, e3⟩ := okLk_sw hdf ps.toList tb hlk2 h
    exact lv_lookup hx hb hd hsrt e1 e2 (e3 ls H locs hlen hlv hvv (vtail hvs) hg hP hS)
  case getfield i0 =>
    simp only [Bool.and_eq_true, Bool.or_eq_true, beq_iff_eq, decide_eq_true_eq] at hok
    obtain ⟨rfl, hok⟩ := hok
    obtain ⟨k, i, j, r, rfl, h⟩ := topR_inv h
    change getP M k i j a bb fun v => SW p l e R s m args below meth c D ad cy fm A V90 G0 nL cells slots Z (pc + 3) lv (v :: r) M at h
    intro ls H locs hlen hlv hvv hvs hg hP hS
    have hkk : ∀ v : AV, SW p l e R s m args below meth c D ad cy fm A V90 G0 nL cells slots Z (pc + 3) lv (v :: r) M → vAV V90 v → W p l e R s m args below meth c H locs cells slots Z (F0 m (pc + 3) ls (encA ad fm v :: r.map (encA ad fm))) := fun v z hv => z ls H locs hlen hlv hvv (vcons hv (vtail hvs)) hg hP hS
    rcases hok with hok | ⟨⟨rfl, hbb⟩, hok⟩
    · obtain ⟨q, hm, hq'⟩ := any_at hok
      simp only [Bool.and_eq_true, beq_iff_eq] at hq'
      have ha11 : a < 11 := by rw [← hq'.1.2]; exact (fld_lt q hm).1
      have h2 : kcls k = a ∧ (k = 11 ∧ bb = 6 → (M 11 0 0 6).toNatClampNeg < 16) ∧ SW p l e R s m args below meth c D ad cy fm A V90 G0 nL cells slots Z (pc + 3) lv (gfv M k i j bb :: r) M := by
        unfold getP at h
        split at h
        · omega
        · split at h
          · obtain ⟨rfl, h1, h2⟩ := chk_iff.mp h
            have e := cid_one _ ((vhead hvs).cid (by dsimp only; omega)) rfl
            cases e
            exact ⟨rfl, fun _ => h1, h2⟩
          · rename_i hne
            obtain ⟨h1, h2⟩ := chk_iff.mp h
            exact ⟨h1, fun z => absurd z.2 (fun z => hne (by rw [z])), h2⟩
        · obtain ⟨h1, h2⟩ := chk_iff.mp h
          rename_i hne4
          exact ⟨h1, fun z => by rw [z.1] at h1; exact absurd h1.symm (fun z => hne4 (by rw [z]; rfl)), h2⟩
      exact snd_get CC hd hok h2.1 (vhead hvs) h2.2.1 hP (fun hv => hkk _ h2.2.2 hv)
    · rcases hbb with rfl | rfl
      · obtain ⟨h1, h2⟩ := chk_iff.mp h
        exact snd_sval CC hd hok h1 (vhead hvs) hS (fun hv => hkk _ h2 hv)
      · obtain ⟨h1, h2⟩ := chk_iff.mp h
        exact snd_scod CC hd hok h1 (vhead hvs) hS (hkk (.inl 0) h2 trivial)
  case getstatic i0 =>
    simp only [Bool.and_eq_true, Bool.or_eq_true, beq_iff_eq, decide_eq_true_eq] at hok
    obtain ⟨⟨rfl, haa⟩, hok⟩ := hok
    intro ls H locs hlen hlv hvv hvs hg hP hS
    rcases haa with rfl | rfl
    · exact snd_st0 CC hd hok hS (h ls H locs hlen hlv hvv (vcons trivial hvs) hg hP hS)
    · exact snd_st1 CC hd hok hS (h ls H locs hlen hlv hvv (vcons (Or.inr (Or.inr (Or.inr (Or.inl rfl)))) hvs) hg hP hS)
  case putfield i0 =>
    simp only [Bool.and_eq_true, Bool.or_eq_true, beq_iff_eq, decide_eq_true_eq] at hok
    obtain ⟨rfl, hok⟩ := hok
    obtain ⟨v, k, i, j, r, rfl, h⟩ := topVR_inv h
    change putP M v k i j a bb fun M' => SW p l e R s m args below meth c D ad cy fm A V90 G0 nL cells slots Z (pc + 3) lv r M' at h
    intro ls H locs hlen hlv hvv hvs hg hP hS
    obtain ⟨q, hm, hq'⟩ := any_at hok
    have hft := fty_ok q hm
    have hlt := fld_lt q hm
    simp only [Bool.and_eq_true, beq_iff_eq] at hq'
    rw [hq'.1.2, hq'.2] at hft
    unfold putP at h
    split at h
    · rename_i z hf _
      obtain ⟨h1, h2⟩ := chk_iff.mp h
      refine snd_put0 (x := z) CC hd hok h1 (vhead (vtail hvs)) (hft.1 hf).1 (hft.1 hf).2 rfl rfl (fun hc hN => ?_) hP hS (fun H1 locs1 hc hP1 hS1 => h2 ls H1 locs1 hlen hlv hvv (vtail (vtail hvs)) (mu_hi hc hg) hP1 hS1)
      rw [gfv_isI hc (by rw [h1, ← hq'.1.2]; exact hlt.1) hN (by rw [h1, hf]; omega), mu_at, upd_at]
      rfl
    · rename_i z hf _
      obtain ⟨h1, hz, h2⟩ := chk_iff.mp h
      refine snd_put0 (x := z) CC hd hok h1 (vhead (vtail hvs)) (hft.2.1 hf).1 (hft.2.1 hf).2 (by rcases hz with rfl | rfl <;> rfl) (by rcases hz with rfl | rfl <;> rfl) (fun hc hN => ?_) hP hS (fun H1 locs1 hc hP1 hS1 => h2 ls H1 locs1 hlen hlv hvv (vtail (vtail hvs)) (mu_hi hc hg) hP1 hS1)
      rw [gfv_isI hc (by rw [h1, ← hq'.1.2]; exact hlt.1) hN (by rw [h1, hf]; omega), mu_at, upd_at]
      rfl
    · rename_i q3 hf _
      obtain ⟨⟨h1, h9, h0⟩, h2⟩ := chk_iff.mp h
      obtain ⟨k3, t, j3⟩ := q3
      dsimp only at h9 h0
      subst h9
      subst h0
      have hc3 := (vhead hvs).cid (by dsimp only; omega)
      have ht16 := cid_text _ hc3 rfl
      rw [List.map_cons, enc_cid hc3]
      obtain ⟨f1, f2, f3, f4⟩ := hft.2.2 hf
      refine snd_put0 (x := nI t) (v := .ref (ad (9, t, 0))) CC hd hok h1 (vhead (vtail hvs)) f3 f4 rfl rfl (fun hc hN => ?_) hP hS (fun H1 locs1 hc hP1 hS1 => h2 ls H1 locs1 hlen hlv hvv (vtail (vtail hvs)) (mu_hi hc hg) hP1 hS1)
      subst f1
      subst f2
      have hk11 : k = 11 := by
        unfold kcls at h1
        split at h1 <;> first | rfl | exact absurd h1 (by decide)
      subst hk11
      have e := cid_one _ hc rfl
      cases e
      show _ = encA ad .null (.inr (9, (mu M 11 0 0 6 (nI t) 11 0 0 6).toNatClampNeg, 0))
      rw [mu_at, upd_at, nI_clamp (by dsimp only at ht16; omega), enc_cid hc3]
    · exact h.elim
  case iaload =>
    obtain rfl : n = 1 := by simpa using hok
    obtain ⟨x, k, i, j, r, rfl, h⟩ := topIR_inv h
    intro ls H locs hlen hlv hvv hvs hg hP hS
    change ialdP M x k i j fun v => SW p l e R s m args below meth c D ad cy fm A V90 G0 nL cells slots Z (pc + 1) lv (.inl v :: r) M at h
    unfold ialdP at h
    split at h
    · exact snd_scr CC hd (vhead (vtail hvs)) hg h.1 hS (h.2 ls H locs hlen hlv hvv (vcons trivial (vtail (vtail hvs))) hg hP hS)
    · obtain ⟨h1, h2, h3⟩ := chk_iff.mp h
      exact snd_iald CC hd h1 (vhead (vtail hvs)) h2 hP (h3 ls H locs hlen hlv hvv (vcons trivial (vtail (vtail hvs))) hg hP hS)
  case iastore =>
    obtain rfl : n = 1 := by simpa using hok
    obtain ⟨z, x, k, i, j, r, rfl, h⟩ := topIIR_inv h
    intro ls H locs hlen hlv hvv hvs hg hP hS
    obtain ⟨h1, h2, h3⟩ := chk_iff.mp h
    exact snd_iast CC hd h1 (vhead (vtail (vtail hvs))) h2 hP hS (fun H1 locs1 hc hP1 hS1 => h3 ls H1 locs1 hlen hlv hvv (vtail (vtail (vtail hvs))) (mu_hi hc hg) hP1 hS1)
  case baload =>
    obtain rfl : n = 1 := by simpa using hok
    obtain ⟨x, k, i, j, r, rfl, h⟩ := topIR_inv h
    intro ls H locs hlen hlv hvv hvs hg hP hS
    change baldP M x k i j fun v => SW p l e R s m args below meth c D ad cy fm A V90 G0 nL cells slots Z (pc + 1) lv (.inl v :: r) M at h
    unfold baldP at h
    split at h
    · exact snd_sbal CC hd (vhead (vtail hvs)) h.1 hS (h.2 ls H locs hlen hlv hvv (vcons trivial (vtail (vtail hvs))) hg hP hS)
    · obtain ⟨h1, h2, h3⟩ := chk_iff.mp h
      exact snd_zald CC hd h1 (vhead (vtail hvs)) h2 hP (h3 ls H locs hlen hlv hvv (vcons trivial (vtail (vtail hvs))) hg hP hS)
  case bastore =>
    obtain rfl : n = 1 := by simpa using hok
    obtain ⟨z, x, k, i, j, r, rfl, h⟩ := topIIR_inv h
    intro ls H locs hlen hlv hvv hvs hg hP hS
    obtain ⟨h1, h2, hz, h3⟩ := chk_iff.mp h
    exact snd_zast CC hd h1 (vhead (vtail (vtail hvs))) h2 hz hP hS (fun H1 locs1 hc hP1 hS1 => h3 ls H1 locs1 hlen hlv hvv (vtail (vtail (vtail hvs))) (mu_hi hc hg) hP1 hS1)
  case caload =>
    obtain rfl : n = 1 := by simpa using hok
    obtain ⟨x, k, i, j, r, rfl, h⟩ := topIR_inv h
    intro ls H locs hlen hlv hvv hvs hg hP hS
    obtain ⟨h1, h2, h3⟩ := chk_iff.mp h
    exact snd_cald CC hd h1 (vhead (vtail hvs)) h2 hP (h3 ls H locs hlen hlv hvv (vcons trivial (vtail (vtail hvs))) hg hP hS)
  case aaload =>
    obtain rfl : n = 1 := by simpa using hok
    obtain ⟨x, k, i, j, r, rfl, h⟩ := topIR_inv h
    intro ls H locs hlen hlv hvv hvs hg hP hS
    obtain ⟨h1, h2, h3⟩ := chk_iff.mp h
    exact snd_aald CC hd h1.1 h1.2 (vhead (vtail hvs)) h2 hP (fun hv => h3 ls H locs hlen hlv hvv (vcons hv (vtail (vtail hvs))) hg hP hS)
  case arraylength =>
    obtain rfl : n = 1 := by simpa using hok
    obtain ⟨k, i, j, r, rfl, h⟩ := topR_inv h
    intro ls H locs hlen hlv hvv hvs hg hP hS
    change alenP M k i fun v => SW p l e R s m args below meth c D ad cy fm A V90 G0 nL cells slots Z (pc + 1) lv (.inl v :: r) M at h
    unfold alenP at h
    split at h
    · exact snd_slen CC hd (vhead hvs) hS (h ls H locs hlen hlv hvv (vcons trivial (vtail hvs)) hg hP hS)
    · exact snd_scl CC hd (vhead hvs) hg hS (h ls H locs hlen hlv hvv (vcons trivial (vtail hvs)) hg hP hS)
    · obtain ⟨h1, h2⟩ := chk_iff.mp h
      exact snd_alen CC hd h1 (vhead hvs) hP (h2 ls H locs hlen hlv hvv (vcons trivial (vtail hvs)) hg hP hS)
  case invokevirtual i0 =>
    simp only [Bool.and_eq_true, Bool.or_eq_true, beq_iff_eq, decide_eq_true_eq] at hok
    obtain ⟨⟨⟨⟨⟨rfl, hmid⟩, hl⟩, hn⟩, hk0⟩, rfl⟩ := hok
    exact snd_virt CC HC hRf hRl hcs hd hmid hl hn hk0 h
  case invokestatic i0 =>
    simp only [Bool.and_eq_true, Bool.or_eq_true, beq_iff_eq, decide_eq_true_eq] at hok
    obtain ⟨rfl, hok⟩ := hok
    rcases hok with (⟨rfl, hok⟩ | ⟨hbb, hok⟩) | hok
    · obtain ⟨md, q5, hlw⟩ := mth_at2 hok
      have h : copyP st M fun st' M' => SW p l e R s m args below meth c D ad cy fm A V90 G0 nL cells slots Z (pc + 3) lv st' M' := h
      obtain ⟨n, dp, c1, sp, c0, r, rfl, h⟩ := topCp_inv h
      obtain ⟨⟨ha0, ha1, hr8⟩, ⟨g1, g2, g3, g4, g5⟩, h⟩ := chk_iff.mp h
      intro ls H locs hlen hlv hvv hvs hg hP hS
      have hc0 := (vhead (vtail (vtail (vtail (vtail hvs))))).cid (aty_lt (k := c0.1) (by omega))
      have hc1 := (vhead (vtail (vtail hvs))).cid (aty_lt (k := c1.1) (by omega))
      obtain ⟨i0, hi0, hws0⟩ := ws_get (ad := ad) (cy := cy) (M := M) hc0
      obtain ⟨i1, hi1, hws1⟩ := ws_get (ad := ad) (cy := cy) (M := M) hc1
      rw [cell_arr (by omega)] at hws0
      rw [cell_arr (by omega)] at hws1
      have hws0' : (wsM ad cy M)[i0]? = some (ad c0, .inl (cy 0, alen c0.1, .inl (M c0.1 c0.2.1 c0.2.2))) := by rw [hws0, ha0]
      have hws1' : (wsM ad cy M)[i1]? = some (ad c1, .inl (cy 0, alen c1.1, .inl (M c1.1 c1.2.1 c1.2.2))) := by rw [hws1, ha1]
      show W p l e R s m args below meth c H locs cells slots Z (F0 m pc ls (.int n :: .int dp :: encA ad fm (.inr c1) :: .int sp :: encA ad fm (.inr c0) :: r.map (encA ad fm)))
      rw [enc_cid hc0, enc_cid hc1]
      have hnf : nativeFrameWords "java/lang/System" "arraycopy" 5 = 7 := by decide +kernel
      refine va_copyi (D := D) hx hb (by rw [hml, hlv.1, hlen]) hown (hts _ hlw) (hts _ nat_ok.1) (hts _ nat_ok.2.1) (hts _ nat_ok.2.2) hK hP (ws_D hA hinj M) hS i0 i1 0 0 hws0' hws1' rfl rfl rfl g1 g2 g3 g4 g5 (fun i _ => rfl) (by omega) (by rw [cat_sum hfm, hnf]; omega) hd (fun H1 locs1 hP1 hD1 hS1 => ?_)
      refine h ls H1 locs1 hlen hlv hvv (vtail (vtail (vtail (vtail (vtail hvs))))) (mr_hi hc1 hg) ?_ hS1
      have e3 := ws_set (ad := ad) (cy := cy) (M := M) (M' := mr M c1.1 c1.2.1 c1.2.2 (va_cpy (M c0.1 c0.2.1 c0.2.2) (M c1.1 c1.2.1 c1.2.2) sp.toNatClampNeg dp.toNatClampNeg n.toNatClampNeg)) hi1 (fun q' h1 h2 => cell_ne h1 h2)
      rw [cell_arr (by omega), mr_same, ha1] at e3
      rw [← e3]
      exact hP1
    · obtain ⟨md, q5, hlw⟩ := mth_at2 hok
      rcases hbb with (rfl | rfl) | rfl
      · have h : topI st fun x r => chk (r.length ≤ 8) (SW p l e R s m args below meth c D ad cy fm A V90 G0 nL cells slots Z (pc + 3) lv (.inl (if 0 ≤ x then x else 0 - x) :: r) M) := h
        obtain ⟨x, r, rfl, h⟩ := topI_inv h
        obtain ⟨hr8, h⟩ := chk_iff.mp h
        intro ls H locs hlen hlv hvv hvs hg hP hS
        exact va_mabs hx hb (by rw [hml, hlv.1, hlen]) hown (hts _ hlw) (hts _ math_sabs) (hts _ math_ini) (hts _ math_cabs) (by omega) (by rw [cat_sum hfm]; omega) hcs.1 hcs.2 hd (h ls H locs hlen hlv hvv (vcons trivial (vtail hvs)) hg hP hS)
      · have h : topII st fun x y r => chk (r.length ≤ 8) (SW p l e R s m args below meth c D ad cy fm A V90 G0 nL cells slots Z (pc + 3) lv (.inl (if x < y then y else x) :: r) M) := h
        obtain ⟨x, y, r, rfl, h⟩ := topII_inv h
        obtain ⟨hr8, h⟩ := chk_iff.mp h
        intro ls H locs hlen hlv hvv hvs hg hP hS
        exact va_mmax hx hb (by rw [hml, hlv.1, hlen]) hown (hts _ hlw) (hts _ math_smax) (hts _ math_ini) (hts _ math_cmax) (by omega) (by rw [cat_sum hfm]; omega) hcs.1 hcs.2 hd (h ls H locs hlen hlv hvv (vcons trivial (vtail (vtail hvs))) hg hP hS)
      · have h : topII st fun x y r => chk (r.length ≤ 8) (SW p l e R s m args below meth c D ad cy fm A V90 G0 nL cells slots Z (pc + 3) lv (.inl (if y < x then y else x) :: r) M) := h
        obtain ⟨x, y, r, rfl, h⟩ := topII_inv h
        obtain ⟨hr8, h⟩ := chk_iff.mp h
        intro ls H locs hlen hlv hvv hvs hg hP hS
        exact va_mmin hx hb (by rw [hml, hlv.1, hlen]) hown (hts _ hlw) (hts _ math_smin) (hts _ math_ini) (hts _ math_cmin) (by omega) (by rw [cat_sum hfm]; omega) hcs.1 hcs.2 hd (h ls H locs hlen hlv hvv (vcons trivial (vtail (vtail hvs))) hg hP hS)
    · obtain ⟨⟨⟨⟨hb100, hmid⟩, hn⟩, hk1⟩, hl⟩ := hok
      have h : statP Γ a bb st M fun st' M' => SW p l e R s m args below meth c D ad cy fm A V90 G0 nL cells slots Z (pc + 3) lv st' M' := h
      unfold statP at h
      split at h
      · omega
      · omega
      · omega
      · omega
      · exact snd_stat CC HC hRf hRl hcs hd hmid hl hn hk1 h
  case ireturn =>
    obtain rfl : n = 1 := by simpa using hok
    intro ls H locs hlen hlv hvv hvs hg hP hS
    have h : retI st fun v => retP ret v (Q (some (.inl v)) M) := h
    unfold retI at h
    split at h
    · exact HR.1 _ M pc ls H locs hd h hg hP hS
    · exact h.elim
  case areturn =>
    obtain rfl : n = 1 := by simpa using hok
    intro ls H locs hlen hlv hvv hvs hg hP hS
    have h : retA st fun k i j => chk (k = 80 ∧ isObj ret = true) <| Q (some (.inr (k, i, j))) M := h
    unfold retA at h
    split at h
    · obtain ⟨h1, h2⟩ := chk_iff.mp h
      exact HR.2.1 _ _ _ M pc ls H locs hd h1 (vhead hvs) h2 hg hP hS
    · exact h.elim
  case return_ =>
    obtain rfl : n = 1 := by simpa using hok
    intro ls H locs hlen hlv hvv hvs hg hP hS
    have h : retV st (chk (ret.isNone = true) (Q none M)) := h
    unfold retV at h
    split at h
    · obtain ⟨h1, h2⟩ := chk_iff.mp h
      exact HR.2.2 M pc ls H locs hd h1 h2 hg hP hS
    · exact h.elim
  all_goals exact h.elim
end SND7
end
section
-- 13.sound8: every method of the tables, at any depth
section SND8
variable {p : Program} {l : Launch} {e : Env} {R : Room} {s : State} {m : MethodId} {args : Array Value} {below : List Frame} {meth : Method} {c : Code} {D : va_G} {ad : Id3 → Nat} {cy : Nat → ClassId} {fm : Value} {A : Nat → Prop} {V90 : Prop} {G0 : Mem} {cells slots : Nat} {Z : State → Prop} {d : Nat}
variable {Γ : GA} {Q : PQ}
theorem clo_sound {r : MRec} (hM : okM r = true) (C : Cx p s m args meth c D ad cy fm A V90 G0 r.1 r.2.2.2.1 r.2.2.2.2.1 r.2.2.2.2.2.1) (HC : HCl l D ad cy fm d Γ) (hRf : d + 1 ≤ R.frames) (hRl : 40 * (d + 1) ≤ R.locals) (hcs : cells ≤ R.cells ∧ slots ≤ R.slots)
    (HR : HRt p l e R s m args below meth c D ad cy fm A V90 G0 r.2.2.2.1 r.2.2.2.2.2.1 cells slots Z Q) : Clo Γ r.2.2.2.2.2.1 r.2.2.2.2.2.2 Q (SW p l e R s m args below meth c D ad cy fm A V90 G0 r.2.2.2.2.1 cells slots Z) := by
  intro pc lv st M h
  unfold stp at h
  split at h
  · rename_i en he
    exact step_sound C HC hRf hRl hcs HR (okM_at hM he) h
  · exact h.elim
theorem args_mem : ∀ (vs : List Value) (j : Nat), (∀ v ∈ vs, v.category = 1) → ∀ (i : Nat) (v : Value), vs[i]? = some v → (j + i, v) ∈ lv_args j vs := by
  intro vs
  induction vs with
  | nil => intro j _ i v h; simp at h
  | cons u r ih =>
    intro j hc i v h
    have hu := hc u List.mem_cons_self
    unfold lv_args
    rw [if_neg (by omega)]
    cases i with
    | zero => cases h; exact List.mem_cons_self
    | succ i =>
      have := ih (j + 1) (fun w hw => hc w (List.mem_cons_of_mem _ hw)) i v h
      rw [show j + 1 + i = j + (i + 1) by omega] at this
      exact List.mem_cons_of_mem _ this
theorem sl_len : ∀ (vs : List Value), (∀ v ∈ vs, v.category = 1) → (lg_sl vs).length = vs.length := by
  intro vs
  induction vs with
  | nil => intro _; rfl
  | cons u r ih =>
    intro hc
    have hu := hc u List.mem_cons_self
    have := ih (fun w hw => hc w (List.mem_cons_of_mem _ hw))
    unfold lg_sl at this ⊢
    rw [List.flatMap_cons, List.length_append, this, if_neg (by omega), List.length_cons]
    simp
    omega
theorem lv0_len {n : Nat} {av : List AV} (h : av.length ≤ n) : (lv0 n av).length = n := by
  unfold lv0
  rw [List.length_append, List.length_map, List.length_replicate]
  omega
theorem lv0_at {n i : Nat} {av : List AV} {v : AV} (h : (lv0 n av)[i]? = some (some v)) : av[i]? = some v := by
  unfold lv0 at h
  by_cases hi : i < av.length
  · rw [List.getElem?_append_left (by rw [List.length_map]; exact hi), List.getElem?_map] at h
    cases q : av[i]? with
    | none => rw [q] at h; cases h
    | some u => rw [q] at h; cases h; rfl
  · rw [List.getElem?_append_right (by rw [List.length_map]; omega)] at h
    have := List.mem_of_getElem? h
    have := List.eq_of_mem_replicate this
    cases this
theorem lvH_entry {n : Nat} {av : List AV} (hf : fm = .null ∨ ∃ t, fm = .ref t) (h : av.length ≤ n) : lvH ad fm ((lg_sl (av.map (encA ad fm)) ++ List.replicate (n - (lg_sl (av.map (encA ad fm))).length) Slot.unset).toArray) (lv0 n av) := by
  have hc : ∀ v ∈ av.map (encA ad fm), v.category = 1 := by
    intro v hv
    obtain ⟨u, -, rfl⟩ := List.mem_map.mp hv
    exact enc_cat hf u
  have hl := lv_entry (av.map (encA ad fm)) (n := n) (by rw [sl_len _ hc, List.length_map]; exact h)
  refine ⟨by rw [lv0_len h]; exact hl.1, hl.2.1, fun i v hv => ?_⟩
  have h1 := args_mem _ 0 hc i (encA ad fm v) (by rw [List.getElem?_map, lv0_at hv]; rfl)
  rw [Nat.zero_add] at h1
  exact hl.2.2 _ h1
theorem snd (hinj : ∀ c c', c ∈ cids → c' ∈ cids → ad c = ad c' → c = c') (hfm : fm = .null ∨ ∃ t, fm = .ref t) : ∀ d, HCl l D ad cy fm d (Td PR d) := by
  intro d
  induction d with
  | zero => intro mid av M Zq h; exact h.elim
  | succ d ih =>
    intro mid av M Zq h hmid hval hlen
    obtain ⟨w1, w2, w3, w4, w5, w6, w7, w8⟩ := mw_facts hmid
    refine Met.ofW (cc := (PR mid).2.2.2.1) (maxL := (PR mid).2.2.2.2.1) (ret := (PR mid).2.2.2.2.2.1) w5 rfl ?_
    intro p e s m args below meth c s₁ B hml hv
    obtain ⟨rfl, hP, hK, ks⟩ := hv
    have hts := atoms_spec (ws := wsOf mid) B.pre
    have hown : s.vm.findClass (PR mid).2.2.1.cls = some m.cls := findClass_of_methodNamed B.named
    rw [w4] at hown
    have C : Cx p s m (av.map (encA ad fm)).toArray meth c D ad cy fm (WA ad) False M (PR mid).1 (PR mid).2.2.2.1 (PR mid).2.2.2.2.1 (PR mid).2.2.2.2.2.1 :=
      ⟨⟨B.exec, B.bytes, hml, B.returns, B.notSynchronized⟩, hown, fun w hw => hts w (List.mem_cons_of_mem _ hw), hK, fun c hc => ⟨c, hc, rfl⟩, hinj, ks, hfm, fun z => z.elim⟩
    have hR : HRt p l e (headSpec (wsOf mid) (rm (d + 1))).room s m (av.map (encA ad fm)).toArray below meth c D ad cy fm (WA ad) False M (PR mid).2.2.2.1 (PR mid).2.2.2.2.2.1 0 0 (MQ below (Qcm D ad cy fm Zq M) (av.map (encA ad fm)).toArray s 0 0 (WA ad)) Zq := by
      refine ⟨fun v M' pc ls H locs hd hq hg hP hS => ?_, fun k i j M' pc ls H locs hd hk hvv hq hg hP hS => ?_, fun M' pc ls H locs hd hr hq hg hP hS => ?_⟩
      · have fin : ∀ hz : Zq (some (.inl v)) M', ∀ t : State, t.heap = H → s.WarmedH t.vm → Qcm D ad cy fm Zq M (av.map (encA ad fm)).toArray s (.returned (some (.int v))) t := fun hz t ht _ =>
          ⟨⟨some (.inl v), M', rfl, hz, fun u hu => by cases hu; trivial, hg, by rw [ht]; exact hP⟩, hS.F ht⟩
        unfold retP at hq
        split at hq
        · rename_i hre
          exact W.iret B.exec B.bytes (B.returns.trans hre) (fin hq) hS.2.2 hd B.notSynchronized
        · rename_i ty _ hre
          exact W.zret B.exec B.bytes (B.returns.trans hre) hq.1 (fin hq.2) hS.2.2 hd B.notSynchronized
        · exact hq.elim
      · obtain ⟨hk, ho⟩ := hk
        unfold isObj at ho
        split at ho
        · rename_i nm hre
          refine W.aret B.exec B.bytes (B.returns.trans hre) (Or.inl ⟨nm, rfl⟩) (Or.inr ⟨ad (k, i, j), enc_ref (by dsimp only; omega)⟩) (fun t ht _ => ⟨⟨some (.inr (k, i, j)), M', rfl, hq, fun u hu => by cases hu; exact hvv, hg, by rw [ht]; exact hP⟩, hS.F ht⟩) hS.2.2 hd B.notSynchronized
        · cases ho
      · have hre : (PR mid).2.2.2.2.2.1 = none := by
          cases q : (PR mid).2.2.2.2.2.1 with
          | none => rfl
          | some t => rw [q] at hr; cases hr
        exact W.vret B.exec B.bytes (B.returns.trans hre) (fun t ht _ => ⟨⟨none, M', rfl, hq, (fun u hu => by cases hu), hg, by rw [ht]; exact hP⟩, hS.F ht⟩) hS.2.2 hd B.notSynchronized
    have K := h _ (clo_sound (r := PR mid) (okM_ok hmid) C ih (Nat.le_refl _) (Nat.le_refl _) ⟨Nat.le_refl _, Nat.le_refl _⟩ hR)
    rw [lg_entry_eq]
    exact K _ s.heap [] (lv0_len hlen) (lvH_entry hfm hlen) (fun v hv => by
      obtain ⟨i, hi⟩ := List.getElem?_of_mem hv
      exact hval v (List.mem_of_getElem? (lv0_at hi))) (fun v hv => by cases hv) (fun _ _ => rfl) hP va_S.rf
end SND8
end
section
-- 14.ctor1: the constructors as tables, a machine that runs them (tables by program gen14.py)
def T_X0_init : Tab := [
  [some ((.aload_n 0, 1), 0, 0, 0, []), some ((.invokespecial 3, 3), 99, 1, 0, []), none, none, some ((.return_, 1), 0, 0, 0, [])]]
def T_X1_init : Tab := [
  [some ((.aload_n 0, 1), 0, 0, 0, []), some ((.invokespecial 3, 3), 99, 1, 0, []), none, none, some ((.aload_n 0, 1), 0, 0, 0, []), some ((.aload_n 1, 1), 1, 0, 0, []), some ((.putfield 9, 3), 1, 0, 0, []), none, none, some ((.aload_n 0, 1), 0, 0, 0, []), some ((.bipush 10, 2), 0, 0, 10, []), none, some ((.anewarray 15, 3), 3, 0, 0, []), none, none, some ((.putfield 17, 3), 1, 1, 0, [])],
  [none, none, some ((.iconst 0, 1), 0, 0, 0, []), some ((.istore_n 2, 1), 2, 0, 0, []), some ((.iload_n 2, 1), 2, 0, 0, []), some ((.bipush 10, 2), 0, 0, 10, []), none, some ((.if_icmp .ge 22, 3), 45, 0, 0, []), none, none, some ((.aload_n 0, 1), 0, 0, 0, []), some ((.getfield 17, 3), 1, 1, 0, []), none, none, some ((.iload_n 2, 1), 2, 0, 0, []), some ((.new 15, 3), 0, 0, 0, [])],
  [none, none, some ((.dup, 1), 0, 0, 0, []), some ((.invokespecial 21, 3), 0, 1, 0, []), none, none, some ((.aastore, 1), 0, 0, 0, []), some ((.iinc 2 1, 3), 2, 0, 1, []), none, none, some ((.goto (-22), 3), 20, 0, 0, []), none, none, some ((.aload_n 0, 1), 0, 0, 0, []), some ((.bipush 9, 2), 0, 0, 9, []), none],
  [some ((.anewarray 22, 3), 4, 0, 0, []), none, none, some ((.putfield 24, 3), 1, 3, 0, []), none, none, some ((.iconst 0, 1), 0, 0, 0, []), some ((.istore_n 2, 1), 2, 0, 0, []), some ((.iload_n 2, 1), 2, 0, 0, []), some ((.bipush 9, 2), 0, 0, 9, []), none, some ((.if_icmp .ge 22, 3), 81, 0, 0, []), none, none, some ((.aload_n 0, 1), 0, 0, 0, []), some ((.getfield 24, 3), 1, 3, 0, [])],
  [none, none, some ((.iload_n 2, 1), 2, 0, 0, []), some ((.new 22, 3), 3, 0, 0, []), none, none, some ((.dup, 1), 0, 0, 0, []), some ((.invokespecial 28, 3), 3, 1, 0, []), none, none, some ((.aastore, 1), 0, 0, 0, []), some ((.iinc 2 1, 3), 2, 0, 1, []), none, none, some ((.goto (-22), 3), 56, 0, 0, []), none],
  [none, some ((.aload_n 0, 1), 0, 0, 0, []), some ((.bipush 20, 2), 0, 0, 20, []), none, some ((.putfield 29, 3), 1, 5, 0, []), none, none, some ((.aload_n 0, 1), 0, 0, 0, []), some ((.iconst 1, 1), 0, 0, 1, []), some ((.putfield 33, 3), 1, 11, 0, []), none, none, some ((.return_, 1), 0, 0, 0, [])]]
def T_X2_init : Tab := [
  [some ((.aload_n 0, 1), 0, 0, 0, []), some ((.invokespecial 3, 3), 99, 1, 0, []), none, none, some ((.aload_n 0, 1), 0, 0, 0, []), some ((.bipush 15, 2), 0, 0, 15, []), none, some ((.anewarray 9, 3), 5, 0, 0, []), none, none, some ((.putfield 11, 3), 2, 0, 0, []), none, none, some ((.iconst 0, 1), 0, 0, 0, []), some ((.istore_n 1, 1), 1, 0, 0, []), some ((.iload_n 1, 1), 1, 0, 0, [])],
  [some ((.bipush 14, 2), 0, 0, 14, []), none, some ((.if_icmp .gt 22, 3), 40, 0, 0, []), none, none, some ((.aload_n 0, 1), 0, 0, 0, []), some ((.getfield 11, 3), 2, 0, 0, []), none, none, some ((.iload_n 1, 1), 1, 0, 0, []), some ((.new 9, 3), 7, 0, 0, []), none, none, some ((.dup, 1), 0, 0, 0, []), some ((.invokespecial 17, 3), 7, 1, 0, []), none],
  [none, some ((.aastore, 1), 0, 0, 0, []), some ((.iinc 1 1, 3), 1, 0, 1, []), none, none, some ((.goto (-22), 3), 15, 0, 0, []), none, none, some ((.aload_n 0, 1), 0, 0, 0, []), some ((.bipush 96, 2), 0, 0, 96, []), none, some ((.newarray .int, 2), 0, 0, 0, []), none, some ((.putfield 18, 3), 2, 1, 0, []), none, none],
  [some ((.return_, 1), 0, 0, 0, [])]]
def T_X3_init : Tab := [
  [some ((.aload_n 0, 1), 0, 0, 0, []), some ((.invokespecial 1, 3), 99, 1, 0, []), none, none, some ((.return_, 1), 0, 0, 0, [])]]
def T_X4_init : Tab := [
  [some ((.aload_n 0, 1), 0, 0, 0, []), some ((.invokespecial 3, 3), 99, 1, 0, []), none, none, some ((.aload_n 0, 1), 0, 0, 0, []), some ((.bipush 96, 2), 0, 0, 96, []), none, some ((.newarray .int, 2), 0, 0, 0, []), none, some ((.putfield 9, 3), 4, 0, 0, []), none, none, some ((.aload_n 0, 1), 0, 0, 0, []), some ((.new 15, 3), 7, 0, 0, []), none, none],
  [some ((.dup, 1), 0, 0, 0, []), some ((.invokespecial 17, 3), 7, 1, 0, []), none, none, some ((.putfield 18, 3), 4, 6, 0, []), none, none, some ((.return_, 1), 0, 0, 0, [])]]
def T_X5_init : Tab := [
  [some ((.aload_n 0, 1), 0, 0, 0, []), some ((.invokespecial 3, 3), 99, 1, 0, []), none, none, some ((.aload_n 0, 1), 0, 0, 0, []), some ((.iconst (-1), 1), 0, 0, (-1), []), some ((.putfield 11, 3), 5, 0, 0, []), none, none, some ((.aload_n 0, 1), 0, 0, 0, []), some ((.bipush 24, 2), 0, 0, 24, []), none, some ((.newarray .int, 2), 0, 0, 0, []), none, some ((.putfield 15, 3), 5, 2, 0, []), none],
  [none, some ((.return_, 1), 0, 0, 0, [])]]
def T_X6_init : Tab := [
  [some ((.aload_n 0, 1), 0, 0, 0, []), some ((.invokespecial 1, 3), 99, 1, 0, []), none, none, some ((.aload_n 0, 1), 0, 0, 0, []), some ((.iconst 0, 1), 0, 0, 0, []), some ((.putfield 9, 3), 6, 0, 0, []), none, none, some ((.aload_n 0, 1), 0, 0, 0, []), some ((.new 13, 3), 0, 0, 0, []), none, none, some ((.dup, 1), 0, 0, 0, []), some ((.invokespecial 15, 3), 0, 1, 0, []), none],
  [none, some ((.putfield 16, 3), 6, 1, 0, []), none, none, some ((.aload_n 0, 1), 0, 0, 0, []), some ((.new 20, 3), 5, 0, 0, []), none, none, some ((.dup, 1), 0, 0, 0, []), some ((.invokespecial 22, 3), 5, 1, 0, []), none, none, some ((.putfield 23, 3), 6, 2, 0, []), none, none, some ((.return_, 1), 0, 0, 0, [])]]
def T_X7_init : Tab := [
  [some ((.aload_n 0, 1), 0, 0, 0, []), some ((.invokespecial 3, 3), 99, 1, 0, []), none, none, some ((.aload_n 0, 1), 0, 0, 0, []), some ((.bipush 96, 2), 0, 0, 96, []), none, some ((.newarray .int, 2), 0, 0, 0, []), none, some ((.putfield 9, 3), 7, 1, 0, []), none, none, some ((.return_, 1), 0, 0, 0, [])]]
def T_X8_init : Tab := [
  [some ((.aload_n 0, 1), 0, 0, 0, []), some ((.invokespecial 3, 3), 99, 1, 0, []), none, none, some ((.aload_n 0, 1), 0, 0, 0, []), some ((.aload_n 1, 1), 1, 0, 0, []), some ((.putfield 9, 3), 8, 0, 0, []), none, none, some ((.aload_n 0, 1), 0, 0, 0, []), some ((.bipush 8, 2), 0, 0, 8, []), none, some ((.newarray .int, 2), 0, 0, 0, []), none, some ((.putfield 15, 3), 8, 1, 0, []), none],
  [none, some ((.return_, 1), 0, 0, 0, [])]]
def T_X9_init : Tab := [
  [some ((.aload_n 0, 1), 0, 0, 0, []), some ((.invokespecial 1, 3), 99, 1, 0, []), none, none, some ((.aload_n 0, 1), 0, 0, 0, []), some ((.new 7, 3), 2, 0, 0, []), none, none, some ((.dup, 1), 0, 0, 0, []), some ((.invokespecial 9, 3), 2, 1, 0, []), none, none, some ((.putfield 10, 3), 9, 0, 0, []), none, none, some ((.aload_n 0, 1), 0, 0, 0, [])],
  [some ((.new 16, 3), 4, 0, 0, []), none, none, some ((.dup, 1), 0, 0, 0, []), some ((.invokespecial 18, 3), 4, 1, 0, []), none, none, some ((.putfield 19, 3), 9, 1, 0, []), none, none, some ((.aload_n 0, 1), 0, 0, 0, []), some ((.new 23, 3), 1, 0, 0, []), none, none, some ((.dup, 1), 0, 0, 0, []), some ((.aload_n 0, 1), 0, 0, 0, [])],
  [some ((.getfield 10, 3), 9, 0, 0, []), none, none, some ((.invokespecial 25, 3), 1, 2, 0, []), none, none, some ((.putfield 28, 3), 9, 2, 0, []), none, none, some ((.aload_n 0, 1), 0, 0, 0, []), some ((.new 23, 3), 1, 0, 0, []), none, none, some ((.dup, 1), 0, 0, 0, []), some ((.aload_n 0, 1), 0, 0, 0, []), some ((.getfield 10, 3), 9, 0, 0, [])],
  [none, none, some ((.invokespecial 25, 3), 1, 2, 0, []), none, none, some ((.putfield 32, 3), 9, 3, 0, []), none, none, some ((.aload_n 0, 1), 0, 0, 0, []), some ((.new 23, 3), 1, 0, 0, []), none, none, some ((.dup, 1), 0, 0, 0, []), some ((.aload_n 0, 1), 0, 0, 0, []), some ((.getfield 10, 3), 9, 0, 0, []), none],
  [none, some ((.invokespecial 25, 3), 1, 2, 0, []), none, none, some ((.putfield 35, 3), 9, 4, 0, []), none, none, some ((.aload_n 0, 1), 0, 0, 0, []), some ((.iconst 0, 1), 0, 0, 0, []), some ((.putfield 38, 3), 9, 5, 0, []), none, none, some ((.aload_n 0, 1), 0, 0, 0, []), some ((.new 42, 3), 8, 0, 0, []), none, none],
  [some ((.dup, 1), 0, 0, 0, []), some ((.aload_n 0, 1), 0, 0, 0, []), some ((.getfield 28, 3), 9, 2, 0, []), none, none, some ((.invokespecial 44, 3), 8, 2, 0, []), none, none, some ((.putfield 47, 3), 9, 6, 0, []), none, none, some ((.aload_n 0, 1), 0, 0, 0, []), some ((.iconst 4, 1), 0, 0, 4, []), some ((.anewarray 51, 3), 6, 0, 0, []), none, none],
  [some ((.putfield 53, 3), 9, 7, 0, []), none, none, some ((.iconst 0, 1), 0, 0, 0, []), some ((.istore_n 1, 1), 1, 0, 0, []), some ((.iload_n 1, 1), 1, 0, 0, []), some ((.iconst 4, 1), 0, 0, 4, []), some ((.if_icmp .ge 22, 3), 125, 0, 0, []), none, none, some ((.aload_n 0, 1), 0, 0, 0, []), some ((.getfield 53, 3), 9, 7, 0, []), none, none, some ((.iload_n 1, 1), 1, 0, 0, []), some ((.new 51, 3), 5, 0, 0, [])],
  [none, none, some ((.dup, 1), 0, 0, 0, []), some ((.invokespecial 57, 3), 5, 1, 0, []), none, none, some ((.aastore, 1), 0, 0, 0, []), some ((.iinc 1 1, 3), 1, 0, 1, []), none, none, some ((.goto (-21), 3), 101, 0, 0, []), none, none, some ((.aload_n 0, 1), 0, 0, 0, []), some ((.iconst 5, 1), 0, 0, 5, []), some ((.anewarray 58, 3), 7, 0, 0, [])],
  [none, none, some ((.putfield 60, 3), 9, 8, 0, []), none, none, some ((.iconst 0, 1), 0, 0, 0, []), some ((.istore_n 1, 1), 1, 0, 0, []), some ((.iload_n 1, 1), 1, 0, 0, []), some ((.iconst 5, 1), 0, 0, 5, []), some ((.if_icmp .ge 22, 3), 159, 0, 0, []), none, none, some ((.aload_n 0, 1), 0, 0, 0, []), some ((.getfield 60, 3), 9, 8, 0, []), none, none],
  [some ((.iload_n 1, 1), 1, 0, 0, []), some ((.new 58, 3), 6, 0, 0, []), none, none, some ((.dup, 1), 0, 0, 0, []), some ((.invokespecial 64, 3), 6, 1, 0, []), none, none, some ((.aastore, 1), 0, 0, 0, []), some ((.iinc 1 1, 3), 1, 0, 1, []), none, none, some ((.goto (-21), 3), 135, 0, 0, []), none, none, some ((.aload_n 0, 1), 0, 0, 0, [])],
  [some ((.bipush 60, 2), 0, 0, 60, []), none, some ((.newarray .int, 2), 0, 0, 0, []), none, some ((.putfield 65, 3), 9, 9, 0, []), none, none, some ((.aload_n 0, 1), 0, 0, 0, []), some ((.iconst 0, 1), 0, 0, 0, []), some ((.putfield 69, 3), 9, 10, 0, []), none, none, some ((.return_, 1), 0, 0, 0, [])]]
def T_X10_init : Tab := [
  [some ((.aload_n 0, 1), 0, 0, 0, []), some ((.invokespecial 1, 3), 99, 1, 0, []), none, none, some ((.aload_n 0, 1), 0, 0, 0, []), some ((.sipush 1458, 3), 0, 0, 1458, []), none, none, some ((.newarray .int, 2), 0, 0, 0, []), none, some ((.putfield 9, 3), 10, 0, 0, []), none, none, some ((.aload_n 0, 1), 0, 0, 0, []), some ((.sipush 1458, 3), 0, 0, 1458, []), none],
  [none, some ((.newarray .int, 2), 0, 0, 0, []), none, some ((.putfield 13, 3), 10, 1, 0, []), none, none, some ((.aload_n 0, 1), 0, 0, 0, []), some ((.sipush 1458, 3), 0, 0, 1458, []), none, none, some ((.newarray .int, 2), 0, 0, 0, []), none, some ((.putfield 16, 3), 10, 2, 0, []), none, none, some ((.aload_n 0, 1), 0, 0, 0, [])],
  [some ((.bipush 10, 2), 0, 0, 10, []), none, some ((.newarray .int, 2), 0, 0, 0, []), none, some ((.putfield 19, 3), 10, 4, 0, []), none, none, some ((.aload_n 0, 1), 0, 0, 0, []), some ((.bipush 8, 2), 0, 0, 8, []), none, some ((.newarray .int, 2), 0, 0, 0, []), none, some ((.putfield 22, 3), 10, 5, 0, []), none, none, some ((.aload_n 0, 1), 0, 0, 0, [])],
  [some ((.bipush 8, 2), 0, 0, 8, []), none, some ((.newarray .int, 2), 0, 0, 0, []), none, some ((.putfield 25, 3), 10, 6, 0, []), none, none, some ((.aload_n 0, 1), 0, 0, 0, []), some ((.bipush 86, 2), 0, 0, 86, []), none, some ((.newarray .int, 2), 0, 0, 0, []), none, some ((.putfield 28, 3), 10, 7, 0, []), none, none, some ((.aload_n 0, 1), 0, 0, 0, [])],
  [some ((.bipush 9, 2), 0, 0, 9, []), none, some ((.newarray .int, 2), 0, 0, 0, []), none, some ((.putfield 31, 3), 10, 8, 0, []), none, none, some ((.aload_n 0, 1), 0, 0, 0, []), some ((.bipush 96, 2), 0, 0, 96, []), none, some ((.newarray .int, 2), 0, 0, 0, []), none, some ((.putfield 34, 3), 10, 9, 0, []), none, none, some ((.aload_n 0, 1), 0, 0, 0, [])],
  [some ((.bipush 12, 2), 0, 0, 12, []), none, some ((.newarray .char, 2), 2, 0, 0, []), none, some ((.dup, 1), 0, 0, 0, []), some ((.iconst 0, 1), 0, 0, 0, []), some ((.bipush 104, 2), 0, 0, 104, []), none, some ((.castore, 1), 0, 0, 0, []), some ((.dup, 1), 0, 0, 0, []), some ((.iconst 1, 1), 0, 0, 1, []), some ((.bipush 111, 2), 0, 0, 111, []), none, some ((.castore, 1), 0, 0, 0, []), some ((.dup, 1), 0, 0, 0, []), some ((.iconst 2, 1), 0, 0, 2, [])],
  [some ((.bipush 117, 2), 0, 0, 117, []), none, some ((.castore, 1), 0, 0, 0, []), some ((.dup, 1), 0, 0, 0, []), some ((.iconst 3, 1), 0, 0, 3, []), some ((.bipush 114, 2), 0, 0, 114, []), none, some ((.castore, 1), 0, 0, 0, []), some ((.dup, 1), 0, 0, 0, []), some ((.iconst 4, 1), 0, 0, 4, []), some ((.bipush 115, 2), 0, 0, 115, []), none, some ((.castore, 1), 0, 0, 0, []), some ((.dup, 1), 0, 0, 0, []), some ((.iconst 5, 1), 0, 0, 5, []), some ((.bipush 102, 2), 0, 0, 102, [])],
  [none, some ((.castore, 1), 0, 0, 0, []), some ((.dup, 1), 0, 0, 0, []), some ((.bipush 6, 2), 0, 0, 6, []), none, some ((.bipush 101, 2), 0, 0, 101, []), none, some ((.castore, 1), 0, 0, 0, []), some ((.dup, 1), 0, 0, 0, []), some ((.bipush 7, 2), 0, 0, 7, []), none, some ((.bipush 101, 2), 0, 0, 101, []), none, some ((.castore, 1), 0, 0, 0, []), some ((.dup, 1), 0, 0, 0, []), some ((.bipush 8, 2), 0, 0, 8, [])],
  [none, some ((.bipush 102, 2), 0, 0, 102, []), none, some ((.castore, 1), 0, 0, 0, []), some ((.dup, 1), 0, 0, 0, []), some ((.bipush 9, 2), 0, 0, 9, []), none, some ((.bipush 105, 2), 0, 0, 105, []), none, some ((.castore, 1), 0, 0, 0, []), some ((.dup, 1), 0, 0, 0, []), some ((.bipush 10, 2), 0, 0, 10, []), none, some ((.bipush 110, 2), 0, 0, 110, []), none, some ((.castore, 1), 0, 0, 0, [])],
  [some ((.dup, 1), 0, 0, 0, []), some ((.bipush 11, 2), 0, 0, 11, []), none, some ((.bipush 101, 2), 0, 0, 101, []), none, some ((.castore, 1), 0, 0, 0, []), some ((.putfield 37, 3), 10, 17, 0, []), none, none, some ((.aload_n 0, 1), 0, 0, 0, []), some ((.iconst 4, 1), 0, 0, 4, []), some ((.newarray .int, 2), 0, 0, 0, []), none, some ((.dup, 1), 0, 0, 0, []), some ((.iconst 0, 1), 0, 0, 0, []), some ((.iconst 0, 1), 0, 0, 0, [])],
  [some ((.iastore, 1), 0, 0, 0, []), some ((.dup, 1), 0, 0, 0, []), some ((.iconst 1, 1), 0, 0, 1, []), some ((.iconst 5, 1), 0, 0, 5, []), some ((.iastore, 1), 0, 0, 0, []), some ((.dup, 1), 0, 0, 0, []), some ((.iconst 2, 1), 0, 0, 2, []), some ((.bipush 8, 2), 0, 0, 8, []), none, some ((.iastore, 1), 0, 0, 0, []), some ((.dup, 1), 0, 0, 0, []), some ((.iconst 3, 1), 0, 0, 3, []), some ((.bipush 12, 2), 0, 0, 12, []), none, some ((.iastore, 1), 0, 0, 0, []), some ((.putfield 41, 3), 10, 18, 0, [])],
  [none, none, some ((.aload_n 0, 1), 0, 0, 0, []), some ((.bipush 96, 2), 0, 0, 96, []), none, some ((.newarray .int, 2), 0, 0, 0, []), none, some ((.putfield 44, 3), 10, 19, 0, []), none, none, some ((.aload_n 0, 1), 0, 0, 0, []), some ((.bipush 96, 2), 0, 0, 96, []), none, some ((.newarray .int, 2), 0, 0, 0, []), none, some ((.putfield 47, 3), 10, 22, 0, [])],
  [none, none, some ((.aload_n 0, 1), 0, 0, 0, []), some ((.bipush 10, 2), 0, 0, 10, []), none, some ((.newarray .boolean, 2), 1, 0, 0, []), none, some ((.putfield 50, 3), 10, 24, 0, []), none, none, some ((.aload_n 0, 1), 0, 0, 0, []), some ((.bipush 96, 2), 0, 0, 96, []), none, some ((.newarray .int, 2), 0, 0, 0, []), none, some ((.putfield 54, 3), 10, 25, 0, [])],
  [none, none, some ((.aload_n 0, 1), 0, 0, 0, []), some ((.iconst 4, 1), 0, 0, 4, []), some ((.newarray .int, 2), 0, 0, 0, []), none, some ((.putfield 57, 3), 10, 26, 0, []), none, none, some ((.aload_n 0, 1), 0, 0, 0, []), some ((.iconst 4, 1), 0, 0, 4, []), some ((.newarray .int, 2), 0, 0, 0, []), none, some ((.dup, 1), 0, 0, 0, []), some ((.iconst 0, 1), 0, 0, 0, []), some ((.iconst (-1), 1), 0, 0, (-1), [])],
  [some ((.iastore, 1), 0, 0, 0, []), some ((.dup, 1), 0, 0, 0, []), some ((.iconst 1, 1), 0, 0, 1, []), some ((.iconst (-1), 1), 0, 0, (-1), []), some ((.iastore, 1), 0, 0, 0, []), some ((.dup, 1), 0, 0, 0, []), some ((.iconst 2, 1), 0, 0, 2, []), some ((.iconst (-1), 1), 0, 0, (-1), []), some ((.iastore, 1), 0, 0, 0, []), some ((.dup, 1), 0, 0, 0, []), some ((.iconst 3, 1), 0, 0, 3, []), some ((.iconst (-1), 1), 0, 0, (-1), []), some ((.iastore, 1), 0, 0, 0, []), some ((.putfield 60, 3), 10, 27, 0, []), none, none],
  [some ((.aload_n 0, 1), 0, 0, 0, []), some ((.iconst 4, 1), 0, 0, 4, []), some ((.newarray .int, 2), 0, 0, 0, []), none, some ((.putfield 63, 3), 10, 28, 0, []), none, none, some ((.aload_n 0, 1), 0, 0, 0, []), some ((.bipush 96, 2), 0, 0, 96, []), none, some ((.newarray .int, 2), 0, 0, 0, []), none, some ((.putfield 66, 3), 10, 29, 0, []), none, none, some ((.aload_n 0, 1), 0, 0, 0, [])],
  [some ((.iconst 5, 1), 0, 0, 5, []), some ((.newarray .int, 2), 0, 0, 0, []), none, some ((.putfield 69, 3), 10, 30, 0, []), none, none, some ((.aload_n 0, 1), 0, 0, 0, []), some ((.iconst 5, 1), 0, 0, 5, []), some ((.newarray .int, 2), 0, 0, 0, []), none, some ((.putfield 72, 3), 10, 31, 0, []), none, none, some ((.aload_n 0, 1), 0, 0, 0, []), some ((.iconst 5, 1), 0, 0, 5, []), some ((.newarray .int, 2), 0, 0, 0, [])],
  [none, some ((.putfield 75, 3), 10, 32, 0, []), none, none, some ((.aload_n 0, 1), 0, 0, 0, []), some ((.bipush 120, 2), 0, 0, 120, []), none, some ((.newarray .int, 2), 0, 0, 0, []), none, some ((.putfield 78, 3), 10, 33, 0, []), none, none, some ((.aload_n 0, 1), 0, 0, 0, []), some ((.bipush 24, 2), 0, 0, 24, []), none, some ((.newarray .int, 2), 0, 0, 0, [])],
  [none, some ((.putfield 81, 3), 10, 34, 0, []), none, none, some ((.aload_n 0, 1), 0, 0, 0, []), some ((.bipush 60, 2), 0, 0, 60, []), none, some ((.newarray .int, 2), 0, 0, 0, []), none, some ((.putfield 84, 3), 10, 35, 0, []), none, none, some ((.aload_n 0, 1), 0, 0, 0, []), some ((.getfield 9, 3), 10, 0, 0, []), none, none],
  [some ((.iconst 0, 1), 0, 0, 0, []), some ((.iconst 1, 1), 0, 0, 1, []), some ((.iastore, 1), 0, 0, 0, []), some ((.aload_n 0, 1), 0, 0, 0, []), some ((.getfield 9, 3), 10, 0, 0, []), none, none, some ((.iconst 3, 1), 0, 0, 3, []), some ((.bipush 20, 2), 0, 0, 20, []), none, some ((.iastore, 1), 0, 0, 0, []), some ((.return_, 1), 0, 0, 0, [])]]
abbrev r_X0_init : MRec := (0, 0, yX0_init, cX0_init, 1, none, T_X0_init)
abbrev r_X1_init : MRec := (1, 0, yX1_init, cX1_init, 3, none, T_X1_init)
abbrev r_X2_init : MRec := (2, 0, yX2_init, cX2_init, 2, none, T_X2_init)
abbrev r_X3_init : MRec := (3, 0, yX3_init, cX3_init, 1, none, T_X3_init)
abbrev r_X4_init : MRec := (4, 0, yX4_init, cX4_init, 1, none, T_X4_init)
abbrev r_X5_init : MRec := (5, 0, yX5_init, cX5_init, 1, none, T_X5_init)
abbrev r_X6_init : MRec := (6, 0, yX6_init, cX6_init, 1, none, T_X6_init)
abbrev r_X7_init : MRec := (7, 0, yX7_init, cX7_init, 1, none, T_X7_init)
abbrev r_X8_init : MRec := (8, 0, yX8_init, cX8_init, 2, none, T_X8_init)
abbrev r_X9_init : MRec := (9, 0, yX9_init, cX9_init, 2, none, T_X9_init)
abbrev r_X10_init : MRec := (10, 0, yX10_init, cX10_init, 1, none, T_X10_init)
def CL2 : List MRec := [r_X0_init, r_X1_init, r_X2_init, r_X3_init, r_X4_init, r_X5_init, r_X6_init, r_X7_init, r_X8_init, r_X9_init, r_X10_init]
def CR (k : Nat) : MRec := CL2.getD k r_X0_init
def bud (k : Nat) : Nat × Nat := match k with
  | 0 => (0, 0)
  | 1 => (21, 300)
  | 2 => (32, 2500)
  | 3 => (0, 0)
  | 4 => (3, 400)
  | 5 => (1, 24)
  | 6 => (3, 60)
  | 7 => (1, 96)
  | 8 => (1, 8)
  | 9 => (136, 20000)
  | 10 => (25, 20000)
  | _ => (0, 0)
def FL2 : List (Nat × Nat × Nat × Nat × Nat) := [(1, 9, 1, 0, 231), (1, 17, 1, 1, 232), (1, 24, 1, 3, 238), (1, 29, 1, 5, 242), (1, 33, 1, 11, 254), (2, 11, 2, 0, 122), (2, 18, 2, 1, 124), (4, 9, 4, 0, 138), (4, 18, 4, 6, 146), (5, 11, 5, 0, 305), (5, 15, 5, 2, 310), (6, 9, 6, 0, 331), (6, 16, 6, 1, 333), (6, 23, 6, 2, 335), (7, 9, 7, 1, 106), (8, 9, 8, 0, 291), (8, 15, 8, 1, 292), (9, 10, 9, 0, 347), (9, 19, 9, 1, 348), (9, 28, 9, 2, 349), (9, 32, 9, 3, 350), (9, 35, 9, 4, 351), (9, 38, 9, 5, 352), (9, 47, 9, 6, 353), (9, 53, 9, 7, 354), (9, 60, 9, 8, 355), (9, 65, 9, 9, 356), (9, 69, 9, 10, 357), (10, 9, 10, 0, 1020), (10, 13, 10, 1, 1021), (10, 16, 10, 2, 1022), (10, 19, 10, 4, 1024), (10, 22, 10, 5, 1025), (10, 25, 10, 6, 1026), (10, 28, 10, 7, 1027), (10, 31, 10, 8, 1028), (10, 34, 10, 9, 1029), (10, 37, 10, 17, 1037), (10, 41, 10, 18, 1038), (10, 44, 10, 19, 1039), (10, 47, 10, 22, 1042), (10, 50, 10, 24, 1044), (10, 54, 10, 25, 1045), (10, 57, 10, 26, 1046), (10, 60, 10, 27, 1047), (10, 63, 10, 28, 1048), (10, 66, 10, 29, 1049), (10, 69, 10, 30, 1050), (10, 72, 10, 31, 1051), (10, 75, 10, 32, 1052), (10, 78, 10, 33, 1053), (10, 81, 10, 34, 1054), (10, 84, 10, 35, 1055)]
theorem fl2_ok : ∀ q ∈ FL2, (lw_tbl[q.2.2.2.2]? = some (mkF q) ∧ goodWord (mkF q) = true) ∧ q.2.2.1 < 11 ∧ q.2.2.2.1 < NF q.2.2.1 := by decide +kernel
def CLN : List (Nat × Nat × Nat × Nat) := [(1, 15, 0, 168), (1, 22, 3, 200), (2, 9, 7, 95), (4, 15, 7, 136), (6, 13, 0, 327), (6, 20, 5, 329), (9, 7, 2, 89), (9, 16, 4, 130), (9, 23, 1, 162), (9, 42, 8, 285), (9, 51, 5, 298), (9, 58, 6, 320), (11, 7, 9, 81), (11, 10, 10, 1014)]
theorem cln_ok : ∀ q ∈ CLN, (lw_tbl[q.2.2.2]? = some (Cond.classLink (RO q.1) q.2.1 (RO q.2.2.1)) ∧ goodWord (Cond.classLink (RO q.1) q.2.1 (RO q.2.2.1)) = true) ∧ q.2.2.1 < 11 := by decide +kernel
def mkC (q : Nat × Nat × Nat × Nat × Nat) : Cond := match q.2.2.2.1 with
  | 1 => .methodLink (RO q.1) q.2.1 (CR q.2.2.1).2.2.1
  | 2 => .methodLinkNest (RO q.1) q.2.1 (CR q.2.2.1).2.2.1 "BedsArePlaces"
  | _ => .methodLink (RO q.1) q.2.1 Lib.objectInit
def CTL : List (Nat × Nat × Nat × Nat × Nat) := [(2, 17, 7, 1, 98), (4, 17, 7, 1, 137), (6, 22, 5, 1, 330), (9, 9, 2, 1, 91), (9, 18, 4, 1, 132), (9, 25, 1, 1, 164), (9, 44, 8, 1, 287), (9, 57, 5, 1, 301), (9, 64, 6, 1, 323), (11, 9, 9, 1, 83), (11, 12, 10, 1, 1016)]
theorem ctl_ok : ∀ q ∈ CTL, (lw_tbl[q.2.2.2.2]? = some (mkC q) ∧ goodWord (mkC q) = true) := by decide +kernel
def CTO : List (Nat × Nat × Nat × Nat × Nat) := [(0, 3, 99, 0, 174), (1, 3, 99, 0, 167), (2, 3, 99, 0, 94), (3, 1, 99, 0, 206), (4, 3, 99, 0, 135), (5, 3, 99, 0, 304), (6, 1, 99, 0, 326), (7, 3, 99, 0, 101), (8, 3, 99, 0, 290), (9, 1, 99, 0, 86), (10, 1, 99, 0, 1019)]
theorem cto_ok : ∀ q ∈ CTO, (lw_tbl[q.2.2.2.2]? = some (mkC q) ∧ goodWord (mkC q) = true) := by decide +kernel
def CTN : List (Nat × Nat × Nat × Nat × Nat) := [(1, 21, 0, 2, 171), (1, 28, 3, 2, 203), (6, 15, 0, 2, 328)]
theorem ctn_ok : ∀ q ∈ CTN, lw_tbl[q.2.2.2.2]? = some (mkC q) := by decide +kernel
set_option maxRecDepth 100000 in
theorem cc_0 : Cond.code (CR 0).2.2.1 (CR 0).2.2.2.1 (CR 0).2.2.2.2.1 none ∈ lw_tbl ∧ goodWord (Cond.code (CR 0).2.2.1 (CR 0).2.2.2.1 (CR 0).2.2.2.2.1 none) = true := ⟨in_1 (List.mem_of_getElem? (i := 112) rfl), rfl⟩
set_option maxRecDepth 100000 in
theorem cc_1 : Cond.code (CR 1).2.2.1 (CR 1).2.2.2.1 (CR 1).2.2.2.2.1 none ∈ lw_tbl ∧ goodWord (Cond.code (CR 1).2.2.1 (CR 1).2.2.2.1 (CR 1).2.2.2.2.1 none) = true := ⟨in_1 (List.mem_of_getElem? (i := 105) rfl), rfl⟩
set_option maxRecDepth 100000 in
theorem cc_2 : Cond.code (CR 2).2.2.1 (CR 2).2.2.2.1 (CR 2).2.2.2.2.1 none ∈ lw_tbl ∧ goodWord (Cond.code (CR 2).2.2.1 (CR 2).2.2.2.1 (CR 2).2.2.2.2.1 none) = true := ⟨in_1 (List.mem_of_getElem? (i := 32) rfl), rfl⟩
set_option maxRecDepth 100000 in
theorem cc_3 : Cond.code (CR 3).2.2.1 (CR 3).2.2.2.1 (CR 3).2.2.2.2.1 none ∈ lw_tbl ∧ goodWord (Cond.code (CR 3).2.2.1 (CR 3).2.2.2.1 (CR 3).2.2.2.2.1 none) = true := ⟨in_1 (List.mem_of_getElem? (i := 144) rfl), rfl⟩
set_option maxRecDepth 100000 in
theorem cc_4 : Cond.code (CR 4).2.2.1 (CR 4).2.2.2.1 (CR 4).2.2.2.2.1 none ∈ lw_tbl ∧ goodWord (Cond.code (CR 4).2.2.1 (CR 4).2.2.2.1 (CR 4).2.2.2.2.1 none) = true := ⟨in_1 (List.mem_of_getElem? (i := 73) rfl), rfl⟩
set_option maxRecDepth 100000 in
theorem cc_5 : Cond.code (CR 5).2.2.1 (CR 5).2.2.2.1 (CR 5).2.2.2.2.1 none ∈ lw_tbl ∧ goodWord (Cond.code (CR 5).2.2.1 (CR 5).2.2.2.1 (CR 5).2.2.2.2.1 none) = true := ⟨in_2 (List.mem_of_getElem? (i := 2) rfl), rfl⟩
set_option maxRecDepth 100000 in
theorem cc_6 : Cond.code (CR 6).2.2.1 (CR 6).2.2.2.1 (CR 6).2.2.2.2.1 none ∈ lw_tbl ∧ goodWord (Cond.code (CR 6).2.2.1 (CR 6).2.2.2.1 (CR 6).2.2.2.2.1 none) = true := ⟨in_2 (List.mem_of_getElem? (i := 24) rfl), rfl⟩
set_option maxRecDepth 100000 in
theorem cc_7 : Cond.code (CR 7).2.2.1 (CR 7).2.2.2.1 (CR 7).2.2.2.2.1 none ∈ lw_tbl ∧ goodWord (Cond.code (CR 7).2.2.1 (CR 7).2.2.2.1 (CR 7).2.2.2.2.1 none) = true := ⟨in_1 (List.mem_of_getElem? (i := 39) rfl), rfl⟩
set_option maxRecDepth 100000 in
theorem cc_8 : Cond.code (CR 8).2.2.1 (CR 8).2.2.2.1 (CR 8).2.2.2.2.1 none ∈ lw_tbl ∧ goodWord (Cond.code (CR 8).2.2.1 (CR 8).2.2.2.1 (CR 8).2.2.2.2.1 none) = true := ⟨in_1 (List.mem_of_getElem? (i := 228) rfl), rfl⟩
set_option maxRecDepth 100000 in
theorem cc_9 : Cond.code (CR 9).2.2.1 (CR 9).2.2.2.1 (CR 9).2.2.2.2.1 none ∈ lw_tbl ∧ goodWord (Cond.code (CR 9).2.2.1 (CR 9).2.2.2.1 (CR 9).2.2.2.2.1 none) = true := ⟨in_1 (List.mem_of_getElem? (i := 24) rfl), rfl⟩
set_option maxRecDepth 100000 in
theorem cc_10 : Cond.code (CR 10).2.2.1 (CR 10).2.2.2.1 (CR 10).2.2.2.2.1 none ∈ lw_tbl ∧ goodWord (Cond.code (CR 10).2.2.1 (CR 10).2.2.2.1 (CR 10).2.2.2.2.1 none) = true := ⟨in_4 (List.mem_of_getElem? (i := 237) rfl), rfl⟩
theorem cc_ok {k : Nat} (h : k < 11) : Cond.code (CR k).2.2.1 (CR k).2.2.2.1 (CR k).2.2.2.2.1 none ∈ ALLW := by
  rcases (show k = 0 ∨ k = 1 ∨ k = 2 ∨ k = 3 ∨ k = 4 ∨ k = 5 ∨ k = 6 ∨ k = 7 ∨ k = 8 ∨ k = 9 ∨ k = 10 by omega) with rfl | rfl | rfl | rfl | rfl | rfl | rfl | rfl | rfl | rfl | rfl
  · exact List.mem_filter.mpr cc_0
  · exact List.mem_filter.mpr cc_1
  · exact List.mem_filter.mpr cc_2
  · exact List.mem_filter.mpr cc_3
  · exact List.mem_filter.mpr cc_4
  · exact List.mem_filter.mpr cc_5
  · exact List.mem_filter.mpr cc_6
  · exact List.mem_filter.mpr cc_7
  · exact List.mem_filter.mpr cc_8
  · exact List.mem_filter.mpr cc_9
  · exact List.mem_filter.mpr cc_10
def CP : List (Nat × Nat × Nat × Nat) := [(172, 67, 170, 0), (165, 66, 163, 1), (92, 63, 90, 0), (204, 68, 202, 0), (133, 65, 131, 0), (302, 70, 300, 0), (324, 71, 322, 0), (99, 64, 97, 0), (288, 69, 286, 1), (84, 62, 82, 0), (1017, 72, 1015, 0)]
def MC (k : Nat) : Bool := match CP.getD k (0, 0, 0, 0) with
  | (b, c, d, n) => decide (lw_tbl[b]? = some (.instanceMethod (CR k).2.2.1)) && goodWord (.instanceMethod (CR k).2.2.1) && decide (lw_tbl[c]? = some (.initialized (RO k))) && goodWord (.initialized (RO k)) && decide (lw_tbl[d]? = some (.instantiable (RO k) (NF k))) && goodWord (.instantiable (RO k) (NF k)) &&
    decide ((CR k).2.2.1.cls = RO k) && plainName (CR k).2.2.1.cls && decide ((CR k).2.2.1.cls ≠ "java/lang/invoke/MethodHandle") && decide ((CR k).2.2.1.cls ≠ "java/lang/invoke/VarHandle") && decide ((parseMethodDescriptor (CR k).2.2.1.desc).map (fun d => d.parameters.length) = some n) && decide ((CR k).2.2.1.name = "<init>") && decide ((CR k).1 = k) && decide (n + 1 ≤ (CR k).2.2.2.2.1) && decide ((CR k).2.2.2.2.1 ≤ 21)
theorem mc_ok : ∀ k, k < 11 → MC k = true := by decide +kernel
def npC (k : Nat) : Nat := (CP.getD k (0, 0, 0, 0)).2.2.2
abbrev W2 : Type := Int32 ⊕ Option Nat
abbrev C2 : Type := Nat × List W2
abbrev G2 : Type := Bool × Nat × List (Option W2) × List W2 × List C2 × Nat × Nat
def dfl (k s : Nat) : W2 := match tyF k s with
  | .int => .inl 0
  | .boolean => .inl 0
  | _ => .inr none
def okV (k s : Nat) (v : W2) : Bool := match tyF k s, v with
  | .int, .inl _ => true
  | .boolean, .inl z => decide (z = 0 ∨ z = 1)
  | .object _, .inr (some _) => true
  | .array _, .inr (some _) => true
  | _, _ => false
def elc (t : Nat) : Nat := match t with
  | 3 => 0
  | 4 => 3
  | 5 => 7
  | 6 => 5
  | _ => 6
def st2 (call : Nat → List W2 → List C2 → Option (List C2)) (B : Nat × Nat) (e : Ent) (pc : Nat) (lv : List (Option W2)) (st : List W2) (h : List C2) (cu su : Nat) : Option G2 :=
  match e with | ((ins, _), a, b, x, _) => match ins with
  | .iconst _ => some (false, pc + 1, lv, .inl x :: st, h, cu, su)
  | .bipush _ => some (false, pc + 2, lv, .inl x :: st, h, cu, su)
  | .sipush _ => some (false, pc + 3, lv, .inl x :: st, h, cu, su)
  | .aload_n _ => (match lv[a]? with
    | some (some (.inr (some r))) => some (false, pc + 1, lv, .inr (some r) :: st, h, cu, su)
    | _ => none)
  | .iload_n _ => (match lv[a]? with
    | some (some (.inl v)) => some (false, pc + 1, lv, .inl v :: st, h, cu, su)
    | _ => none)
  | .istore_n _ => (match st with
    | .inl v :: r => if a < lv.length then some (false, pc + 1, lv.set a (some (.inl v)), r, h, cu, su) else none
    | _ => none)
  | .iinc _ _ => (match lv[a]? with
    | some (some (.inl v)) => some (false, pc + 3, lv.set a (some (.inl (v + x))), st, h, cu, su)
    | _ => none)
  | .dup => (match st with
    | v :: r => some (false, pc + 1, lv, v :: v :: r, h, cu, su)
    | _ => none)
  | .goto _ => some (false, a, lv, st, h, cu, su)
  | .if_icmp .ge _ => (match st with
    | .inl y :: .inl v :: r => if y ≤ v then some (false, a, lv, r, h, cu, su) else some (false, pc + 3, lv, r, h, cu, su)
    | _ => none)
  | .if_icmp .gt _ => (match st with
    | .inl y :: .inl v :: r => if y < v then some (false, a, lv, r, h, cu, su) else some (false, pc + 3, lv, r, h, cu, su)
    | _ => none)
  | .new _ => if cu + 1 ≤ B.1 ∧ su + NF a ≤ B.2 then some (false, pc + 3, lv, .inr (some h.length) :: st, h ++ [(a, (List.range (NF a)).map (dfl a))], cu + 1, su + NF a) else none
  | .newarray _ => (match st with
    | .inl v :: r => if 0 ≤ v ∧ v.toNatClampNeg ≤ 100000 ∧ cu + 1 ≤ B.1 ∧ su + v.toNatClampNeg ≤ B.2 then some (false, pc + 2, lv, .inr (some h.length) :: r, h ++ [(100 + a, List.replicate v.toNatClampNeg (.inl 0))], cu + 1, su + v.toNatClampNeg) else none
    | _ => none)
  | .anewarray _ => (match st with
    | .inl v :: r => if 0 ≤ v ∧ v.toNatClampNeg ≤ 100000 ∧ cu + 1 ≤ B.1 ∧ su + v.toNatClampNeg ≤ B.2 then some (false, pc + 3, lv, .inr (some h.length) :: r, h ++ [(100 + a, List.replicate v.toNatClampNeg (.inr none))], cu + 1, su + v.toNatClampNeg) else none
    | _ => none)
  | .putfield _ => (match st with
    | v :: .inr (some q) :: r => (match h[q]? with
      | some (t, l) => if t = a ∧ b < l.length ∧ okV a b v = true then some (false, pc + 3, lv, r, h.set q (t, l.set b v), cu, su) else none
      | none => none)
    | _ => none)
  | .getfield _ => (match st with
    | .inr (some q) :: r => (match h[q]? with
      | some (t, l) => (match l[b]? with
        | some v => if t = a then some (false, pc + 3, lv, v :: r, h, cu, su) else none
        | none => none)
      | none => none)
    | _ => none)
  | .iastore => (match st with
    | .inl z :: .inl i :: .inr (some q) :: r => (match h[q]? with
      | some (t, l) => if t = 100 ∧ 0 ≤ i ∧ i.toNatClampNeg < l.length then some (false, pc + 1, lv, r, h.set q (t, l.set i.toNatClampNeg (.inl z)), cu, su) else none
      | none => none)
    | _ => none)
  | .castore => (match st with
    | .inl z :: .inl i :: .inr (some q) :: r => (match h[q]? with
      | some (t, l) => if t = 102 ∧ 0 ≤ i ∧ i.toNatClampNeg < l.length ∧ 0 ≤ z ∧ z ≤ 65535 then some (false, pc + 1, lv, r, h.set q (t, l.set i.toNatClampNeg (.inl z)), cu, su) else none
      | none => none)
    | _ => none)
  | .aastore => (match st with
    | .inr (some w) :: .inl i :: .inr (some q) :: r => (match h[q]?, h[w]? with
      | some (t, l), some (tw, _) => if 103 ≤ t ∧ t ≤ 107 ∧ tw = elc (t - 100) ∧ 0 ≤ i ∧ i.toNatClampNeg < l.length then some (false, pc + 1, lv, r, h.set q (t, l.set i.toNatClampNeg (.inr (some w))), cu, su) else none
      | _, _ => none)
    | _ => none)
  | .invokespecial _ => (match a with
    | 99 => (match st with
      | .inr (some _) :: r => if r.length ≤ 8 then some (false, pc + 3, lv, r, h, cu, su) else none
      | _ => none)
    | a => if b ≤ st.length ∧ st.length ≤ 8 ∧ cu + (bud a).1 ≤ B.1 ∧ su + (bud a).2 ≤ B.2 then (match st.drop (b - 1) with
      | .inr (some _) :: _ => (match call a ((st.take b).reverse) h with
        | some h' => if h'.length = h.length + (bud a).1 then some (false, pc + 3, lv, st.drop b, h', cu + (bud a).1, su + (bud a).2) else none
        | none => none)
      | _ => none) else none)
  | .return_ => (match st with
    | [] => some (true, pc, lv, st, h, cu, su)
    | _ => none)
  | _ => none
def ex2 (call : Nat → List W2 → List C2 → Option (List C2)) (T : Tab) (B : Nat × Nat) : Nat → Nat → List (Option W2) → List W2 → List C2 → Nat → Nat → Option (List C2)
  | 0, _, _, _, _, _, _ => none
  | n + 1, pc, lv, st, h, cu, su => match cof T pc with
    | none => none
    | some e => match st2 call B e pc lv st h cu su with
      | none => none
      | some (true, _, _, _, h', _, _) => some h'
      | some (false, pc', lv', st', h', cu', su') => ex2 call T B n pc' lv' st' h' cu' su'
def sem2 : Nat → Nat → List W2 → List C2 → Option (List C2)
  | 0, _, _, _ => none
  | d + 1, k, av, h => ex2 (sem2 d) (CR k).2.2.2.2.2.2 (bud k) 400 0 (av.map some ++ List.replicate ((CR k).2.2.2.2.1 - av.length) none) [] h 0 0
/-- what the law's first rows make -/
def h0 : List C2 := [(9, (List.range 11).map (dfl 9))]
def h1 : List C2 := (sem2 4 9 [.inr (some 0)] h0).getD []
def h2 : List C2 := h1 ++ [(10, (List.range 37).map (dfl 10))]
def h3 : List C2 := (sem2 4 10 [.inr (some h1.length)] h2).getD []
theorem h1_is : (sem2 4 9 [.inr (some 0)] h0).isSome = true := by decide +kernel
theorem h1_len : h1.length = 137 := by decide +kernel
theorem h3_is : (sem2 4 10 [.inr (some h1.length)] h2).isSome = true := by decide +kernel
theorem h3_len : h3.length = 163 := by decide +kernel
theorem some_getD {α : Type} {o : Option (List α)} (h : o.isSome = true) : o = some (o.getD []) := by
  cases o with
  | none => cases h
  | some x => rfl
theorem h1_ok : sem2 4 9 [.inr (some 0)] h0 = some h1 := some_getD h1_is
theorem h3_ok : sem2 4 10 [.inr (some h1.length)] h2 = some h3 := some_getD h3_is
def okE2 (o : Nat) (b : ByteArray) (pc : Nat) (e : Ent) : Bool := match e with
  | ((ins, n), a, bb, x, _) => decide (decode b pc = .ok (ins, n)) && (match ins with
    | .iconst i => n == 1 && decide (Int32.ofInt i = x)
    | .bipush i => n == 2 && decide ((Int8.ofInt i).toInt32 = x)
    | .sipush i => n == 3 && decide ((Int16.ofInt i).toInt32 = x)
    | .iload_n k => n == 1 && k.val == a
    | .aload_n k => n == 1 && k.val == a
    | .istore_n k => n == 1 && k.val == a
    | .iinc k c => n == 3 && k == a && decide (Int32.ofInt c = x)
    | .goto off => n == 3 && decide ((pc : Int) + off = (a : Int))
    | .if_icmp _ off => n == 3 && decide ((pc : Int) + off = (a : Int))
    | .getfield i => n == 3 && FL2.any (fun q => q.1 == o && q.2.1 == i && q.2.2.1 == a && q.2.2.2.1 == bb)
    | .putfield i => n == 3 && FL2.any (fun q => q.1 == o && q.2.1 == i && q.2.2.1 == a && q.2.2.2.1 == bb) && decide ((TF a bb).1 = RO o)
    | .new i => n == 3 && CLN.any (fun q => q.1 == o && q.2.1 == i && q.2.2.1 == a)
    | .anewarray i => n == 3 && decide (3 ≤ a) && decide (a ≤ 7) && CLN.any (fun q => q.1 == o && q.2.1 == i && q.2.2.1 == elc a)
    | .newarray ty => n == 2 && decide (a < 3) && decide (newarray.typeOf ty = (match a with | 0 => FieldType.int | 1 => .boolean | _ => .char))
    | .invokespecial i => n == 3 && ((a == 99 && CTO.any (fun q => q.1 == o && q.2.1 == i)) || (decide (a < 11) && bb == npC a + 1 && (CTL.any (fun q => q.1 == o && q.2.1 == i && q.2.2.1 == a && q.2.2.2.1 == 1) || CTN.any (fun q => q.1 == o && q.2.1 == i && q.2.2.1 == a && q.2.2.2.1 == 2))))
    | _ => n == 1)
def okT2 (o : Nat) (b : ByteArray) : Nat → Tab → Bool
  | _, [] => true
  | i, r :: q => (List.range r.length).all (fun j => match r.getD j none with | some e => okE2 o b (16 * i + j) e | none => true) && okT2 o b (i + 1) q
theorem ok2_0 : ∀ k, k < 9 → okT2 (CR k).1 (CR k).2.2.2.1 0 (CR k).2.2.2.2.2.2 = true := by decide +kernel
theorem ok2_9 : okT2 (CR 9).1 (CR 9).2.2.2.1 0 (CR 9).2.2.2.2.2.2 = true := by decide +kernel
theorem ok2_10 : okT2 (CR 10).1 (CR 10).2.2.2.1 0 (CR 10).2.2.2.2.2.2 = true := by decide +kernel
theorem ok2_ok {k : Nat} (h : k < 11) : okT2 (CR k).1 (CR k).2.2.2.1 0 (CR k).2.2.2.2.2.2 = true := by
  rcases (show k < 9 ∨ k = 9 ∨ k = 10 by omega) with h | rfl | rfl
  · exact ok2_0 k h
  · exact ok2_9
  · exact ok2_10
theorem okT2_at {o : Nat} {b : ByteArray} : ∀ (T : Tab) (i : Nat), okT2 o b i T = true → ∀ (k j : Nat) (e : Ent), ((T.getD k []).getD j none) = some e → okE2 o b (16 * (i + k) + j) e = true := by
  intro T
  induction T with
  | nil => intro i h k j e he; simp at he
  | cons r q ih =>
    intro i h k j e he
    simp only [okT2, Bool.and_eq_true] at h
    cases k with
    | zero =>
      have hj : j < r.length := by
        rcases Nat.lt_or_ge j r.length with z | z
        · exact z
        · simp [List.getD_cons_zero, List.getD_eq_getElem?_getD, List.getElem?_eq_none z] at he
      have h1 := List.all_eq_true.mp h.1 j (List.mem_range.mpr hj)
      rw [List.getD_cons_zero] at he
      rw [he] at h1
      exact h1
    | succ k =>
      have h2 := ih (i + 1) h.2 k j e (by rw [List.getD_cons_succ] at he; exact he)
      rwa [show i + 1 + k = i + (k + 1) by omega] at h2
theorem ok2_at {k : Nat} (hk : k < 11) {pc : Nat} {e : Ent} (he : cof (CR k).2.2.2.2.2.2 pc = some e) : okE2 (CR k).1 (CR k).2.2.2.1 pc e = true := by
  have h1 := okT2_at (CR k).2.2.2.2.2.2 0 (ok2_ok hk) (pc / 16) (pc % 16) e he
  rwa [show 16 * (0 + pc / 16) + pc % 16 = pc by omega] at h1
end
section
-- 15.ctor2: the constructors' machine is the machine
def encW (base : Nat) : W2 → Value
  | .inl x => .int x
  | .inr none => .null
  | .inr (some q) => .ref (base + q)
def w2i : W2 → Int32
  | .inl x => x
  | .inr _ => 0
def w2r : W2 → Option Nat
  | .inl _ => none
  | .inr r => r
def encC (base : Nat) (cy : Nat → ClassId) (c : C2) : va_E :=
  if c.1 < 11 then .inr (c.1, c.2.map (encW base))
  else if c.1 < 103 then .inl (cy (c.1 - 100), c.2.length, .inl fun j => w2i (c.2.getD j (.inl 0)))
  else .inl (cy (c.1 - 100), c.2.length, .inr (.inr (.inr (.inr fun j => (w2r (c.2.getD j (.inr none))).map (base + ·)))))
def ws2 (base : Nat) (cy : Nat → ClassId) (h : List C2) : va_W := h.mapIdx fun i c => (base + i, encC base cy c)
theorem ws2_at {base : Nat} {cy : Nat → ClassId} {h : List C2} {q : Nat} {c : C2} (e : h[q]? = some c) : (ws2 base cy h)[q]? = some (base + q, encC base cy c) := by
  unfold ws2
  rw [List.getElem?_mapIdx, e]
  rfl
theorem ws2_D {base : Nat} {cy : Nat → ClassId} {h : List C2} {A : Nat → Prop} (hA : ∀ q, base ≤ q → A q) : va_D A (ws2 base cy h) := by
  refine ⟨fun i j x y hi hj hxy => ?_, fun k q hk => ?_⟩
  · unfold ws2 at hi hj
    rw [List.getElem?_mapIdx] at hi hj
    cases h1 : h[i]? with
    | none => rw [h1] at hi; cases hi
    | some a =>
      cases h2 : h[j]? with
      | none => rw [h2] at hj; cases hj
      | some b =>
        rw [h1] at hi; rw [h2] at hj; cases hi; cases hj
        have : base + i = base + j := hxy
        omega
  · unfold ws2 at hk
    rw [List.getElem?_mapIdx] at hk
    cases h1 : h[k]? with
    | none => rw [h1] at hk; cases hk
    | some a => rw [h1] at hk; cases hk; exact hA _ (Nat.le_add_right _ _)
theorem ws2_set {base : Nat} {cy : Nat → ClassId} {h : List C2} {q : Nat} {c : C2} : (ws2 base cy h).set q (base + q, encC base cy c) = ws2 base cy (h.set q c) := by
  apply List.ext_getElem?
  intro k
  unfold ws2
  by_cases hk : k = q
  · subst hk
    by_cases hl : k < h.length
    · rw [List.getElem?_set_self (by simpa using hl), List.getElem?_mapIdx, List.getElem?_set_self hl]
      rfl
    · rw [List.getElem?_eq_none (by simp; omega), List.getElem?_eq_none (by simp; omega)]
  · rw [List.getElem?_set_ne (Ne.symm hk), List.getElem?_mapIdx, List.getElem?_mapIdx, List.getElem?_set_ne (Ne.symm hk)]
theorem ws2_app {base : Nat} {cy : Nat → ClassId} {h : List C2} {c : C2} : ws2 base cy (h ++ [c]) = ws2 base cy h ++ [(base + h.length, encC base cy c)] := by
  unfold ws2
  rw [List.mapIdx_append]
  simp
def lvG (base : Nat) (ls : Array Slot) (lv : List (Option W2)) : Prop := ls.size = lv.length ∧ lv_wf ls ∧ ∀ (i : Nat) (v : W2), lv[i]? = some (some v) → ls[i]? = some (.val (encW base v))
def ascG (base : Nat) (lv : List (Option W2)) : List (Nat × Value) := (List.range lv.length).filterMap fun i => match lv[i]? with
  | some (some v) => some (i, encW base v)
  | _ => none
theorem ascG_mem {base : Nat} {lv : List (Option W2)} {q : Nat × Value} : q ∈ ascG base lv ↔ ∃ v, lv[q.1]? = some (some v) ∧ q.2 = encW base v := by
  unfold ascG
  rw [List.mem_filterMap]
  constructor
  · rintro ⟨i, -, h⟩
    split at h
    · rename_i v e
      cases h
      exact ⟨v, e, rfl⟩
    · cases h
  · rintro ⟨v, h1, h2⟩
    refine ⟨q.1, ?_, ?_⟩
    · have := (List.getElem?_eq_some_iff.mp h1).1
      exact List.mem_range.mpr this
    · rw [h1]
      exact congrArg some (Prod.ext rfl h2.symm)
theorem lvG.has {base : Nat} {ls : Array Slot} {lv : List (Option W2)} (h : lvG base ls lv) : lv_has ls lv.length (ascG base lv) := by
  refine ⟨h.1, h.2.1, fun q hq => ?_⟩
  obtain ⟨v, h1, h2⟩ := ascG_mem.mp hq
  rw [h2]
  exact h.2.2 _ _ h1
theorem encW_cat (base : Nat) (v : W2) : (encW base v).category = 1 := by
  rcases v with x | _ | q <;> rfl
theorem lvG.upd {base : Nat} {ls : Array Slot} {lv : List (Option W2)} {i : Nat} {v : W2} {L : List (Nat × Value)} (hL : ∀ q ∈ ascG base lv, q ∈ L) (h : lv_has ls lv.length ((i, encW base v) :: L.filter (fun q => !(q.1 == i) && !(q.1 + 1 == i && q.2.category == 2)))) : lvG base ls (lv.set i (some v)) := by
  refine ⟨by rw [List.length_set]; exact h.1, h.2.1, fun j u hj => ?_⟩
  by_cases hji : j = i
  · subst hji
    have hl : j < (lv.set j (some v)).length := (List.getElem?_eq_some_iff.mp hj).1
    rw [List.length_set] at hl
    rw [List.getElem?_set_self hl] at hj
    cases hj
    exact h.2.2 (j, encW base v) List.mem_cons_self
  · rw [List.getElem?_set_ne (Ne.symm hji)] at hj
    refine h.2.2 (j, encW base u) (List.mem_cons_of_mem _ (List.mem_filter.mpr ⟨hL _ (ascG_mem.mpr ⟨u, hj, rfl⟩), ?_⟩))
    have h1 : (encW base u).category = 1 := encW_cat base u
    simp [hji, h1]
theorem catG_sum (base : Nat) (r : List W2) : ((r.map (encW base)).map fun v => v.category).sum = r.length := by
  induction r with
  | nil => rfl
  | cons v r ih =>
    rw [List.map_cons, List.map_cons, List.sum_cons, ih, encW_cat base v, List.length_cons]
    omega
def wsC (k : Nat) : List Cond := Cond.code (CR k).2.2.1 (CR k).2.2.2.1 (CR k).2.2.2.2.1 none :: ALLW
theorem wsC_in {k : Nat} (h : k < 11) : ∀ w ∈ wsC k, w ∈ ALLW := List.forall_mem_cons.mpr ⟨cc_ok h, fun _ h => h⟩
def rm2 (d k : Nat) : Room := { frames := d, cells := (bud k).1, slots := (bud k).2, locals := 40 * d }
def AUX (U : State) : Prop := (∀ q ∈ CTN, va_Nw (mkC q) U) ∧ ∀ t, 3 ≤ t → t ≤ 7 → va_AO (RO (elc t)) U
def Pc2 (D : va_G) (base : Nat) (cy : Nat → ClassId) (av : List W2) (h : List C2) : Array Value → State → Prop := va_Pc (av.map (encW base)) (fun U => U.heap.size = base + h.length ∧ va_P D clAll (ws2 base cy h) U.heap ∧ va_K D clAll (tysA cy) U ∧ AUX U)
def Qc2 (D : va_G) (base : Nat) (cy : Nat → ClassId) (h' : List C2) : Array Value → State → Outcome → State → Prop := fun _ st oc t => (oc = .returned none ∧ va_P D clAll (ws2 base cy h') t.heap) ∧ va_F (fun q => base ≤ q) st t
def HC2 (l : Launch) (D : va_G) (base : Nat) (cy : Nat → ClassId) (d : Nat) (call : Nat → List W2 → List C2 → Option (List C2)) : Prop :=
  ∀ (k : Nat) (av : List W2) (h h' : List C2), call k av h = some h' → k < 11 → av.length = npC k + 1 → Met l (CR k).2.2.1 (wsC k) (rm2 d k) (Pc2 D base cy av h) (Qc2 D base cy h') (bud k).1 (bud k).2 (fun q => base ≤ q)
theorem ctn_cases {q : Nat × Nat × Nat × Nat × Nat} (hq : q ∈ CTN) : ∃ a i x h, mkC q = .methodLinkNest a i x h := by
  simp only [CTN, List.mem_cons, List.not_mem_nil, or_false] at hq
  rcases hq with rfl | rfl | rfl <;> exact ⟨_, _, _, _, rfl⟩
theorem pc2_blind {D : va_G} {base : Nat} {cy : Nat → ClassId} {av : List W2} {h : List C2} : FrameBlind (Pc2 D base cy av h) := by
  intro a U g mk q
  obtain ⟨q0, q1, qP, qK, qN⟩ := q
  refine ⟨q0, q1, qP, va_K.moved (u := U) (U := U.calling g mk a) (Vm.Alike.refl U.vm) qK, fun q hq => ?_, fun t h3 h7 => ?_⟩
  · obtain ⟨_, _, _, _, e⟩ := ctn_cases hq
    have := qN.1 q hq
    rw [e] at this ⊢
    exact va_Nw.same (u := U) rfl rfl this
  · exact va_AO.moved (u := U) (Vm.Alike.refl U.vm) (qN.2 t h3 h7)
theorem aux_warm {s U : State} (h : AUX s) (hW : s.WarmedH U.vm) : AUX U := by
  refine ⟨fun q hq => ?_, fun t h3 h7 => va_AO.moved hW.alike (h.2 t h3 h7)⟩
  obtain ⟨_, _, _, _, e⟩ := ctn_cases hq
  have := h.1 q hq
  rw [e] at this ⊢
  exact va_Nw.warmM hW this
def Cy (p : Program) (s : State) (m : MethodId) (args : Array Value) (meth : Method) (c : Code) (D : va_G) (base : Nat) (cy : Nat → ClassId) (A : Nat → Prop) (o : Nat) (b : ByteArray) (nL : Nat) : Prop :=
  (p.tables.exec = Jvm.exec ∧ c.code = b ∧ c.maxLocals = nL) ∧ s.vm.findClass (RO o) = some m.cls ∧ (∀ w ∈ ALLW, w.before args s = true) ∧ va_K D clAll (tysA cy) s ∧ (∀ q, base ≤ q → A q) ∧ AUX s
theorem W.size {p : Program} {l : Launch} {e : Env} {R : Room} {s : State} {m : MethodId} {args : Array Value} {below : List Frame} {meth : Method} {c : Code} {H : Heap} {locs : List Loc} {cells slots : Nat} {Q : State → Prop} {g : JFrame} (kk : H.size ≤ s.heap.size + cells → W p l e R s m args below meth c H locs cells slots Q g) : W p l e R s m args below meth c H locs cells slots Q g :=
  fun T hT X => kk (by rw [← hT]; exact X.heapSize) T hT X
section CT2
variable {p : Program} {l : Launch} {e : Env} {R : Room} {s : State} {m : MethodId} {args : Array Value} {below : List Frame} {meth : Method} {c : Code} {D : va_G} {base : Nat} {cy : Nat → ClassId} {A : Nat → Prop} {o : Nat} {b : ByteArray} {nL : Nat} {cu su : Nat} {Z : State → Prop} {d : Nat}
variable {pc idx : Nat} {ls : Array Slot} {H : Heap} {locs : List Loc} {st : List W2} {h : List C2} {rest : List Value}
theorem cy_find (hK : va_K D clAll (tysA cy) s) {t : Nat} (ht : t ≤ 7) : s.vm.findClass ("[" ++ (ety t).toString) = some (cy t) := by
  have h1 := (hK.2 t _ (tysA_at cy ht)).2
  unfold va_RA at h1
  rcases (show t = 0 ∨ t = 1 ∨ t = 2 ∨ t = 3 ∨ t = 4 ∨ t = 5 ∨ t = 6 ∨ t = 7 by omega) with rfl | rfl | rfl | rfl | rfl | rfl | rfl | rfl
  · exact h1
  · exact h1
  · exact h1
  · obtain ⟨_, _, _, _, _, h5⟩ := h1; exact h5
  · obtain ⟨_, _, _, _, _, h5⟩ := h1; exact h5
  · obtain ⟨_, _, _, _, _, h5⟩ := h1; exact h5
  · obtain ⟨_, _, _, _, _, h5⟩ := h1; exact h5
  · obtain ⟨_, _, _, _, _, h5⟩ := h1; exact h5
theorem size_of {hs : Nat} (hP : va_P D clAll (ws2 base cy h) H) (h1 : 0 < h.length) (h2 : H.size ≤ s.heap.size + cu) (h3 : s.heap.size = base + hs) (h4 : cu + hs = h.length) : H.size = base + h.length := by
  have hl : h.length - 1 < h.length := by omega
  have h5 := (hP _ _ (ws2_at (base := base) (cy := cy) (List.getElem?_eq_getElem hl))).lt
  have h6 : base + (h.length - 1) < H.size := h5
  omega
theorem push_ok {x : Nat × va_E} {H1 : Heap} (hP : va_P D clAll (ws2 base cy h) H) (hz : H.size = base + h.length) (o1 : ∀ q, q < H.size → H1[q]? = H[q]?) (hx : va_at D clAll x H1) : va_P D clAll (ws2 base cy h ++ [x]) H1 := by
  refine (hP.kept fun k q hq => o1 q.1 (hP k q hq).lt).app fun k q hk => ?_
  have hz : k < 1 := (List.getElem?_eq_some_iff.mp hk).1
  rw [show k = 0 by omega] at hk
  cases hk
  exact hx
theorem push_S {H1 : Heap} (hS : va_S A s.heap H locs) (z1 : H1.size = H.size + 1) (o1 : ∀ q, q < H.size → H1[q]? = H[q]?) : va_S A s.heap H1 locs :=
  ⟨Nat.le_trans hS.1 (by omega), fun x g1 g2 => (o1 x (Nat.lt_of_lt_of_le g1 hS.1)).trans (hS.2.1 x g1 g2), hS.2.2⟩
theorem ct_new (C : Cy p s m args meth c D base cy A o b nL) (hd : decode b pc = .ok (.new idx, 3)) {a : Nat} (hl : CLN.any (fun q => q.1 == o && q.2.1 == idx && q.2.2.1 == a) = true) (hcs : cu + 1 ≤ R.cells ∧ su + NF a ≤ R.slots) (hz : H.size = base + h.length) (hP : va_P D clAll (ws2 base cy h) H) (hS : va_S A s.heap H locs)
    (kk : ∀ (H1 : Heap), va_P D clAll (ws2 base cy (h ++ [(a, (List.range (NF a)).map (dfl a))])) H1 → va_S A s.heap H1 locs → W p l e R s m args below meth c H1 locs (cu + 1) (su + NF a) Z (F0 m (pc + 3) ls (.ref (base + h.length) :: rest))) :
    W p l e R s m args below meth c H locs cu su Z (F0 m pc ls rest) := by
  obtain ⟨⟨hx, hb, hml⟩, hown, hts, hK, hA, hN⟩ := C
  obtain ⟨q, hm, hq'⟩ := any_at hl
  obtain ⟨q1, q2, q3, q4⟩ := q
  simp only [Bool.and_eq_true, beq_iff_eq] at hq'
  obtain ⟨⟨rfl, rfl⟩, rfl⟩ := hq'
  obtain ⟨hw, h11⟩ := cln_ok _ hm
  have h11 : q3 < 11 := h11
  have hmc := mc_ok q3 h11
  unfold MC at hmc
  generalize CP.getD q3 (0, 0, 0, 0) = zz at hmc
  obtain ⟨z1, z2, z3, z4⟩ := zz
  simp only [Bool.and_eq_true, decide_eq_true_eq] at hmc
  obtain ⟨⟨⟨⟨⟨⟨⟨⟨⟨⟨⟨⟨⟨⟨g1, g2⟩, g3⟩, g4⟩, g5⟩, g6⟩, g7⟩, g8⟩, g9⟩, g10⟩, g11⟩, g12⟩, g13⟩, g14⟩, g15⟩ := hmc
  have hKn := hK.1 q3 _ (cl_at h11)
  refine W.newcK hx hb hown (hts _ (aw2 hw)) (hts _ (aw2 ⟨g5, g6⟩)) (hts _ (aw2 ⟨g3, g4⟩)) rfl hd hcs.1 hcs.2 hKn.2.1 hz fun H1 kC hkC e1 z1 o1 => ?_
  rw [← hz] at o1
  refine kk H1 ?_ (push_S hS (by rw [z1, hz]) o1)
  rw [ws2_app]
  refine push_ok hP hz o1 ?_
  unfold encC
  rw [if_pos h11]
  refine ⟨_, cl_at h11, (u_born (tyF q3) hts (uw_at h11) hKn hkC e1 (ty_at h11)).to fun j hj => ?_⟩
  show defaultValue (tyF q3 j) = (((List.range (NF q3)).map (dfl q3)).map (encW base)).getD j .null
  rw [List.getD_eq_getElem?_getD, List.getElem?_map, List.getElem?_map, List.getElem?_range hj]
  show defaultValue (tyF q3 j) = encW base (dfl q3 j)
  unfold dfl
  have : ∀ t : FieldType, (t = .int ∨ t = .boolean ∨ (∃ n, t = .object n) ∨ ∃ n, t = .array n) → defaultValue t = encW base (match t with | .int => .inl 0 | .boolean => .inl 0 | _ => .inr none) := by
    rintro t (rfl | rfl | ⟨n, rfl⟩ | ⟨n, rfl⟩) <;> rfl
  refine this _ ?_
  have hall : ∀ k, k < 11 → ∀ j, j < NF k → (match tyF k j with | .int => true | .boolean => true | .object _ => true | .array _ => true | _ => false) = true := by decide +kernel
  have := hall q3 h11 j hj
  split at this
  · rename_i e; exact Or.inl e
  · rename_i e; exact Or.inr (Or.inl e)
  · rename_i n e; exact Or.inr (Or.inr (Or.inl ⟨n, e⟩))
  · rename_i n e; exact Or.inr (Or.inr (Or.inr ⟨n, e⟩))
  · cases this
end CT2
end
section
-- 16.ctor3: the constructors' machine, instruction by instruction
theorem nn_of {z : Int32} (h : 0 ≤ z) : ¬ z < 0 := fun q => by
  have h1 := Int32.le_iff_toInt_le.mp h
  have h2 := Int32.lt_iff_toInt_lt.mp q
  omega
theorem in_of {z : Int32} {n : Nat} (h : 0 ≤ z) (h2 : z.toNatClampNeg < n) : vp_in z n := fun q => by
  rcases q with q | q
  · exact nn_of h q
  · omega
theorem okV_enc {k s base : Nat} {v : W2} (h : okV k s v = true) : narrow (tyF k s) (encW base v) = encW base v ∧ fits (tyF k s) (encW base v) = true := by
  unfold okV at h
  split at h
  · rename_i e; rw [e]; exact ⟨rfl, rfl⟩
  · rename_i e
    rw [e]
    rcases of_decide_eq_true h with rfl | rfl <;> exact ⟨rfl, rfl⟩
  · rename_i e; rw [e]; exact ⟨rfl, rfl⟩
  · rename_i e; rw [e]; exact ⟨rfl, rfl⟩
  · cases h
section CT3
variable {p : Program} {l : Launch} {e : Env} {R : Room} {s : State} {m : MethodId} {args : Array Value} {below : List Frame} {meth : Method} {c : Code} {D : va_G} {base : Nat} {cy : Nat → ClassId} {A : Nat → Prop} {o : Nat} {b : ByteArray} {nL : Nat} {cu su : Nat} {Z : State → Prop} {d : Nat}
variable {pc idx : Nat} {ls : Array Slot} {H : Heap} {locs : List Loc} {st : List W2} {h : List C2} {rest : List Value} {a bb q t : Nat} {l0 : List W2}
theorem ct_newa (C : Cy p s m args meth c D base cy A o b nL) {ty : ArrayType} (hd : decode b pc = .ok (.newarray ty, 2)) (ha : a < 3) (hty : newarray.typeOf ty = ety a) {v : Int32} (h0 : 0 ≤ v) (hv : v.toNatClampNeg ≤ 100000) (hcs : cu + 1 ≤ R.cells ∧ su + v.toNatClampNeg ≤ R.slots) (hz : H.size = base + h.length) (hP : va_P D clAll (ws2 base cy h) H) (hS : va_S A s.heap H locs)
    (kk : ∀ (H1 : Heap), va_P D clAll (ws2 base cy (h ++ [(100 + a, List.replicate v.toNatClampNeg (Sum.inl 0))])) H1 → va_S A s.heap H1 locs → W p l e R s m args below meth c H1 locs (cu + 1) (su + v.toNatClampNeg) Z (F0 m (pc + 2) ls (.ref (base + h.length) :: rest))) :
    W p l e R s m args below meth c H locs cu su Z (F0 m pc ls (.int v :: rest)) := by
  obtain ⟨⟨hx, hb, hml⟩, hown, hts, hK, hA, hN⟩ := C
  have harr : Cond.arrayClass (newarray.typeOf ty) ∈ ALLW := by
    rw [hty]
    rcases (show a = 0 ∨ a = 1 ∨ a = 2 by omega) with rfl | rfl | rfl <;> exact List.mem_filter.mpr (by decide +kernel)
  refine va_newaK hx hb (hts _ harr) rfl hd rfl (nn_of h0) rfl (by rw [hty]; rcases (show a = 0 ∨ a = 1 ∨ a = 2 by omega) with rfl | rfl | rfl <;> (show _ * _ ≤ _; simp only [ety, componentBytes]; omega)) hcs.1 hcs.2 hz fun H1 cA e1 z1 o1 hAr hnm => ?_
  have hcA : cA = cy a := by
    have := cy_find hK (t := a) (by omega)
    rw [hty] at hnm
    exact Option.some.inj (hnm.symm.trans this)
  rw [← hz] at o1
  refine kk H1 ?_ (push_S hS (by rw [z1, hz]) o1)
  rw [ws2_app]
  refine push_ok hP hz o1 ?_
  unfold encC
  rw [if_neg (by dsimp only; omega), if_pos (by dsimp only; omega)]
  show H1[base + h.length]? = some (vp_cell _ _)
  rw [e1, hcA, vp_cell_i]
  rw [show (100 + a, List.replicate v.toNatClampNeg (Sum.inl 0 : W2)).1 - 100 = a by dsimp only; omega]
  rw [show (100 + a, List.replicate v.toNatClampNeg (Sum.inl 0 : W2)).2.length = v.toNatClampNeg from List.length_replicate]
  congr 2
  funext j
  have e2 : w2i ((List.replicate v.toNatClampNeg (Sum.inl 0 : W2)).getD j (.inl 0)) = 0 := by
    rw [List.getD_eq_getElem?_getD]
    by_cases hj : j < v.toNatClampNeg
    · rw [List.getElem?_replicate, if_pos hj]; rfl
    · rw [List.getElem?_replicate, if_neg hj]; rfl
  show defaultValue (newarray.typeOf ty) = Value.int _
  rw [e2, hty]
  rcases (show a = 0 ∨ a = 1 ∨ a = 2 by omega) with rfl | rfl | rfl <;> rfl
theorem ct_newq (C : Cy p s m args meth c D base cy A o b nL) (hd : decode b pc = .ok (.anewarray idx, 3)) (h3 : 3 ≤ a) (h7 : a ≤ 7) (hl : CLN.any (fun q => q.1 == o && q.2.1 == idx && q.2.2.1 == elc a) = true) {v : Int32} (h0 : 0 ≤ v) (hv : v.toNatClampNeg ≤ 100000) (hcs : cu + 1 ≤ R.cells ∧ su + v.toNatClampNeg ≤ R.slots) (hz : H.size = base + h.length) (hP : va_P D clAll (ws2 base cy h) H) (hS : va_S A s.heap H locs)
    (kk : ∀ (H1 : Heap), va_P D clAll (ws2 base cy (h ++ [(100 + a, List.replicate v.toNatClampNeg (Sum.inr none))])) H1 → va_S A s.heap H1 locs → W p l e R s m args below meth c H1 locs (cu + 1) (su + v.toNatClampNeg) Z (F0 m (pc + 3) ls (.ref (base + h.length) :: rest))) :
    W p l e R s m args below meth c H locs cu su Z (F0 m pc ls (.int v :: rest)) := by
  obtain ⟨⟨hx, hb, hml⟩, hown, hts, hK, hA, hN⟩ := C
  obtain ⟨q, hm, hq'⟩ := any_at hl
  obtain ⟨q1, q2, q3, q4⟩ := q
  simp only [Bool.and_eq_true, beq_iff_eq] at hq'
  obtain ⟨⟨rfl, rfl⟩, rfl⟩ := hq'
  obtain ⟨hw, h11⟩ := cln_ok _ hm
  have hety : ety a = .object (RO (elc a)) := by
    rcases (show a = 3 ∨ a = 4 ∨ a = 5 ∨ a = 6 ∨ a = 7 by omega) with rfl | rfl | rfl | rfl | rfl <;> rfl
  refine W.anew hx hb hown (hts _ (aw2 hw)) (va_AO.use (hN.2 a h3 h7)) rfl hd rfl (nn_of h0) (by omega) hcs.1 hcs.2 fun cA kA comp f1 f2 f3 f4 => ?_
  generalize hH1 : H.push ({ cls := cA, slots := Array.replicate v.toNatClampNeg .null, vm := .none } : Cell) = H1
  have z1 : H1.size = H.size + 1 := by rw [← hH1, Array.size_push]
  have e1 : H1[H.size]? = some (arrV cA v.toNatClampNeg (fun _ => .null)) := by rw [← hH1, Array.getElem?_push_size, ← arrV_new]
  have o1 : ∀ q : Nat, q < H.size → H1[q]? = H[q]? := fun q hq => by rw [← hH1, Array.getElem?_push, if_neg (Nat.ne_of_lt hq)]
  have hcA : cA = cy a := by
    have := cy_find hK (t := a) h7
    rw [hety] at this
    exact Option.some.inj (f1.symm.trans this)
  have e9 : ∀ g : JFrame, g = F0 m (pc + 3) ls (.ref (base + h.length) :: rest) → W p l e R s m args below meth c H1 locs (cu + 1) (su + v.toNatClampNeg) Z g := fun g hg => by
    rw [hg]
    refine kk H1 ?_ (push_S hS z1 o1)
    rw [ws2_app]
    refine push_ok hP hz o1 ?_
    unfold encC
    rw [if_neg (by dsimp only; omega), if_neg (by dsimp only; omega)]
    show H1[base + h.length]? = some (vp_cell _ _)
    rw [← hz, e1, hcA, vp_cell_q]
    rw [show (100 + a, List.replicate v.toNatClampNeg (Sum.inr none : W2)).1 - 100 = a by dsimp only; omega]
    rw [show (100 + a, List.replicate v.toNatClampNeg (Sum.inr none : W2)).2.length = v.toNatClampNeg from List.length_replicate]
    congr 2
    funext j
    have e2 : w2r ((List.replicate v.toNatClampNeg (Sum.inr none : W2)).getD j (.inr none)) = none := by
      rw [List.getD_eq_getElem?_getD]
      by_cases hj : j < v.toNatClampNeg
      · rw [List.getElem?_replicate, if_pos hj]; rfl
      · rw [List.getElem?_replicate, if_neg hj]; rfl
    show Value.null = va_rf _
    rw [e2]
    rfl
  exact e9 _ (by rw [hz])
theorem fl2_at (hl : FL2.any (fun q => q.1 == o && q.2.1 == idx && q.2.2.1 == a && q.2.2.2.1 == bb) = true) : ∃ q5, mkF (o, idx, a, bb, q5) ∈ ALLW ∧ a < 11 ∧ bb < NF a := by
  obtain ⟨q, hm, hq'⟩ := any_at hl
  obtain ⟨q1, q2, q3, q4, q5⟩ := q
  simp only [Bool.and_eq_true, beq_iff_eq] at hq'
  obtain ⟨⟨⟨rfl, rfl⟩, rfl⟩, rfl⟩ := hq'
  obtain ⟨h1, h2, h3⟩ := fl2_ok _ hm
  exact ⟨q5, aw2 h1, h2, h3⟩
theorem ct_get (C : Cy p s m args meth c D base cy A o b nL) (hd : decode b pc = .ok (.getfield idx, 3)) (hl : FL2.any (fun q => q.1 == o && q.2.1 == idx && q.2.2.1 == a && q.2.2.2.1 == bb) = true) (hq : h[q]? = some (a, l0)) {v : W2} (hv : l0[bb]? = some v) (hP : va_P D clAll (ws2 base cy h) H)
    (kk : W p l e R s m args below meth c H locs cu su Z (F0 m (pc + 3) ls (encW base v :: rest))) :
    W p l e R s m args below meth c H locs cu su Z (F0 m pc ls (.ref (base + q) :: rest)) := by
  obtain ⟨⟨hx, hb, hml⟩, hown, hts, hK, hA, hN⟩ := C
  obtain ⟨q5, hF, h11, hN2⟩ := fl2_at hl
  have hws := ws2_at (base := base) (cy := cy) hq
  unfold encC at hws
  rw [if_pos h11] at hws
  exact va_get (D := D) (ci := a) (C := RO a) (T := TF a) (N := NF a) hx hb hts (uw_at h11) hown hK hP q hws (cl_at h11) bb hN2 (hts _ hF) (fun _ h9 => h9) (by rw [List.getElem?_map, hv]; rfl) hd kk
theorem ct_put (C : Cy p s m args meth c D base cy A o b nL) (hin : meth.name = "<init>") (hd : decode b pc = .ok (.putfield idx, 3)) (hl : FL2.any (fun q => q.1 == o && q.2.1 == idx && q.2.2.1 == a && q.2.2.2.1 == bb) = true) (hdc : (TF a bb).1 = RO o) (hq : h[q]? = some (a, l0)) (hbl : bb < l0.length) {v : W2} (hv : okV a bb v = true) (hP : va_P D clAll (ws2 base cy h) H) (hS : va_S A s.heap H locs)
    (kk : ∀ (H1 : Heap) (locs1 : List Loc), va_P D clAll (ws2 base cy (h.set q (a, l0.set bb v))) H1 → va_S A s.heap H1 locs1 → W p l e R s m args below meth c H1 locs1 cu su Z (F0 m (pc + 3) ls rest)) :
    W p l e R s m args below meth c H locs cu su Z (F0 m pc ls (encW base v :: .ref (base + q) :: rest)) := by
  obtain ⟨⟨hx, hb, hml⟩, hown, hts, hK, hA, hN⟩ := C
  obtain ⟨q5, hF, h11, hN2⟩ := fl2_at hl
  have hws := ws2_at (base := base) (cy := cy) hq
  unfold encC at hws
  rw [if_pos h11] at hws
  obtain ⟨n1, n2⟩ := okV_enc (base := base) hv
  have e1 : (ws2 base cy h).set q (base + q, .inr (a, (l0.map (encW base)).set bb (encW base v))) = ws2 base cy (h.set q (a, l0.set bb v)) := by
    rw [← ws2_set]
    unfold encC
    rw [if_pos h11, List.map_set]
  by_cases hfin : (TF a bb).2.2.2 = true
  · refine va_putF (D := D) (ci := a) (C := RO a) (T := TF a) (N := NF a) hx hb hts (uw_at h11) (tyF a) (ty_at h11) (nm_at h11) hown hK hP (ws2_D hA) hS q hws (cl_at h11) bb hN2 (hts _ hF) (fun _ h9 => h9) hfin hin hdc (ty_at h11 _ hN2) n1 n2 (by rw [List.length_map]; exact hbl) hd (fun H1 locs1 hP1 hD1 hS1 => ?_)
    rw [e1] at hP1
    exact kk H1 locs1 hP1 hS1
  · refine va_put (D := D) (ci := a) (C := RO a) (T := TF a) (N := NF a) hx hb hts (uw_at h11) (tyF a) (ty_at h11) (nm_at h11) hown hK hP (ws2_D hA) hS q hws (cl_at h11) bb hN2 (hts _ hF) (fun _ h9 => h9) (by simpa using hfin) (ty_at h11 _ hN2) n1 n2 (by rw [List.length_map]; exact hbl) hd (fun H1 locs1 hP1 hD1 hS1 => ?_)
    rw [e1] at hP1
    exact kk H1 locs1 hP1 hS1
theorem w2i_set {l : List W2} {i : Nat} {z : Int32} (hi : i < l.length) : (fun j => w2i ((l.set i (.inl z)).getD j (.inl 0))) = upd (fun j => w2i (l.getD j (.inl 0))) i z := by
  funext j
  rw [List.getD_eq_getElem?_getD]
  by_cases hj : j = i
  · subst hj
    rw [List.getElem?_set_self hi, upd_at]
    rfl
  · rw [List.getElem?_set_ne (Ne.symm hj), upd_ne hj, List.getD_eq_getElem?_getD]
theorem w2r_set {l : List W2} {i w base : Nat} (hi : i < l.length) : (fun j => (w2r ((l.set i (.inr (some w))).getD j (.inr none))).map (base + ·)) = va_up (fun j => (w2r (l.getD j (.inr none))).map (base + ·)) i (some (base + w)) := by
  funext j
  unfold va_up
  rw [List.getD_eq_getElem?_getD]
  by_cases hj : j = i
  · subst hj
    rw [List.getElem?_set_self hi, if_pos rfl]
    rfl
  · rw [List.getElem?_set_ne (Ne.symm hj), if_neg hj]
    dsimp only
    rw [List.getD_eq_getElem?_getD]
theorem ct_ist (C : Cy p s m args meth c D base cy A o b nL) (hd : decode b pc = .ok (.iastore, 1)) (hq : h[q]? = some (100, l0)) {i z : Int32} (h0 : 0 ≤ i) (hi : i.toNatClampNeg < l0.length) (hP : va_P D clAll (ws2 base cy h) H) (hS : va_S A s.heap H locs)
    (kk : ∀ (H1 : Heap) (locs1 : List Loc), va_P D clAll (ws2 base cy (h.set q (100, l0.set i.toNatClampNeg (.inl z)))) H1 → va_S A s.heap H1 locs1 → W p l e R s m args below meth c H1 locs1 cu su Z (F0 m (pc + 1) ls rest)) :
    W p l e R s m args below meth c H locs cu su Z (F0 m pc ls (.int z :: .int i :: .ref (base + q) :: rest)) := by
  obtain ⟨⟨hx, hb, hml⟩, hown, hts, hK, hA, hN⟩ := C
  have hws := ws2_at (base := base) (cy := cy) hq
  refine va_iast (D := D) (n := l0.length) (f := fun j => w2i (l0.getD j (.inl 0))) hx hb hK hP (ws2_D hA) hS q 0 hws rfl (in_of h0 hi) hd (fun H1 locs1 hP1 hD1 hS1 => kk H1 locs1 ?_ hS1)
  rw [← ws2_set]
  have e : encC base cy (100, l0.set i.toNatClampNeg (.inl z)) = .inl (cy 0, l0.length, .inl (upd (fun j => w2i (l0.getD j (.inl 0))) i.toNatClampNeg z)) := by
    rw [← w2i_set hi]
    show Sum.inl (cy 0, (l0.set i.toNatClampNeg (Sum.inl z)).length, _) = _
    rw [List.length_set]
  rw [e]
  exact hP1
theorem ct_cst (C : Cy p s m args meth c D base cy A o b nL) (hd : decode b pc = .ok (.castore, 1)) (hq : h[q]? = some (102, l0)) {i z : Int32} (h0 : 0 ≤ i) (hi : i.toNatClampNeg < l0.length) (hz0 : 0 ≤ z) (hz1 : z ≤ 65535) (hP : va_P D clAll (ws2 base cy h) H) (hS : va_S A s.heap H locs)
    (kk : ∀ (H1 : Heap) (locs1 : List Loc), va_P D clAll (ws2 base cy (h.set q (102, l0.set i.toNatClampNeg (.inl z)))) H1 → va_S A s.heap H1 locs1 → W p l e R s m args below meth c H1 locs1 cu su Z (F0 m (pc + 1) ls rest)) :
    W p l e R s m args below meth c H locs cu su Z (F0 m pc ls (.int z :: .int i :: .ref (base + q) :: rest)) := by
  obtain ⟨⟨hx, hb, hml⟩, hown, hts, hK, hA, hN⟩ := C
  have hws := ws2_at (base := base) (cy := cy) hq
  have hzz : vp_nar .char z = z := by
    obtain ⟨j, hj, rfl⟩ := nI_of2 (M := 65535) (n := 65535) (by decide) (nn_of hz0) hz1
    rw [vp_nar_char]
    have := (pk_charN (q := j) (by omega)).1
    have e := vp_nar_char (nI j)
    unfold vp_nar at e
    rw [this] at e
    exact e.symm
  refine va_cast (D := D) (n := l0.length) (f := fun j => w2i (l0.getD j (.inl 0))) hx hb hK hP (ws2_D hA) hS q 2 hws rfl (in_of h0 hi) hd (fun H1 locs1 hP1 hD1 hS1 => kk H1 locs1 ?_ hS1)
  rw [← ws2_set]
  have e : encC base cy (102, l0.set i.toNatClampNeg (.inl z)) = .inl (cy 2, l0.length, .inl (upd (fun j => w2i (l0.getD j (.inl 0))) i.toNatClampNeg z)) := by
    rw [← w2i_set hi]
    show Sum.inl (cy 2, (l0.set i.toNatClampNeg (Sum.inl z)).length, _) = _
    rw [List.length_set]
  rw [hzz] at hP1
  rw [e]
  exact hP1
theorem ct_ast (C : Cy p s m args meth c D base cy A o b nL) (hd : decode b pc = .ok (.aastore, 1)) {w tw : Nat} {l1 : List W2} (ht1 : 103 ≤ t) (ht2 : t ≤ 107) (hq : h[q]? = some (t, l0)) (hw : h[w]? = some (tw, l1)) (htw : tw = elc (t - 100)) {i : Int32} (h0 : 0 ≤ i) (hi : i.toNatClampNeg < l0.length) (hP : va_P D clAll (ws2 base cy h) H) (hS : va_S A s.heap H locs)
    (kk : ∀ (H1 : Heap) (locs1 : List Loc), va_P D clAll (ws2 base cy (h.set q (t, l0.set i.toNatClampNeg (.inr (some w))))) H1 → va_S A s.heap H1 locs1 → W p l e R s m args below meth c H1 locs1 cu su Z (F0 m (pc + 1) ls rest)) :
    W p l e R s m args below meth c H locs cu su Z (F0 m pc ls (.ref (base + w) :: .int i :: .ref (base + q) :: rest)) := by
  obtain ⟨⟨hx, hb, hml⟩, hown, hts, hK, hA, hN⟩ := C
  have hws := ws2_at (base := base) (cy := cy) hq
  have hwv := ws2_at (base := base) (cy := cy) hw
  have h11 : tw < 11 := by rw [htw]; unfold elc; split <;> omega
  unfold encC at hws hwv
  rw [if_neg (by dsimp only; omega), if_neg (by dsimp only; omega)] at hws
  rw [if_pos h11] at hwv
  have hty : (tysA cy)[t - 100]? = some (cy (t - 100), .object (RO tw)) := by
    rw [tysA_at cy (by omega), htw]
    rcases (show t = 103 ∨ t = 104 ∨ t = 105 ∨ t = 106 ∨ t = 107 by omega) with rfl | rfl | rfl | rfl | rfl <;> rfl
  refine va_astq (D := D) (r := (RO tw, TF tw, NF tw)) (n := l0.length) hx hb hK hP (ws2_D hA) hS q (t - 100) w tw hws hty hwv (cl_at h11) (in_of h0 hi) hd (fun H1 locs1 hP1 hD1 hS1 => kk H1 locs1 ?_ hS1)
  rw [← ws2_set]
  have e : encC base cy (t, l0.set i.toNatClampNeg (.inr (some w))) = .inl (cy (t - 100), l0.length, .inr (.inr (.inr (.inr (va_up (fun j => (w2r (l0.getD j (.inr none))).map (base + ·)) i.toNatClampNeg (some (base + w))))))) := by
    rw [← w2r_set hi]
    unfold encC
    rw [if_neg (by dsimp only; omega), if_neg (by dsimp only; omega)]
    show Sum.inl (cy (t - 100), (l0.set i.toNatClampNeg (Sum.inr (some w))).length, _) = _
    rw [List.length_set]
  rw [e]
  exact hP1
end CT3
end
section
-- 17.ctor4: the constructors' calls, and the constructors
theorem oi_ok : Cond.instanceMethod Lib.objectInit ∈ ALLW ∧ Cond.code Lib.objectInit ⟨#[0xb1]⟩ 1 none ∈ ALLW := ⟨List.mem_filter.mpr (by decide +kernel), List.mem_filter.mpr (by decide +kernel)⟩
theorem mcf {k : Nat} (hk : k < 11) : Cond.instanceMethod (CR k).2.2.1 ∈ ALLW ∧ Cond.initialized (CR k).2.2.1.cls ∈ ALLW ∧ (CR k).2.2.1.cls = RO k ∧ plainName (CR k).2.2.1.cls = true ∧ (CR k).2.2.1.cls ≠ "java/lang/invoke/MethodHandle" ∧ (CR k).2.2.1.cls ≠ "java/lang/invoke/VarHandle" ∧ (parseMethodDescriptor (CR k).2.2.1.desc).map (fun d => d.parameters.length) = some (npC k) ∧ (CR k).2.2.1.name = "<init>" ∧ (CR k).1 = k ∧ npC k + 1 ≤ (CR k).2.2.2.2.1 ∧ (CR k).2.2.2.2.1 ≤ 21 := by
  have hmc := mc_ok k hk
  unfold MC at hmc
  unfold npC
  generalize CP.getD k (0, 0, 0, 0) = zz at hmc
  obtain ⟨z1, z2, z3, z4⟩ := zz
  simp only [Bool.and_eq_true, decide_eq_true_eq] at hmc
  obtain ⟨⟨⟨⟨⟨⟨⟨⟨⟨⟨⟨⟨⟨⟨g1, g2⟩, g3⟩, g4⟩, g5⟩, g6⟩, g7⟩, g8⟩, g9⟩, g10⟩, g11⟩, g12⟩, g13⟩, g14⟩, g15⟩ := hmc
  exact ⟨aw2 ⟨g1, g2⟩, by rw [g7]; exact aw2 ⟨g3, g4⟩, g7, g8, g9, g10, g11, g12, g13, g14, g15⟩
section CT4
variable {p : Program} {l : Launch} {e : Env} {R : Room} {s : State} {m : MethodId} {args : Array Value} {below : List Frame} {meth : Method} {c : Code} {D : va_G} {base : Nat} {cy : Nat → ClassId} {A : Nat → Prop} {o : Nat} {b : ByteArray} {nL : Nat} {cu su : Nat} {Z : State → Prop} {d : Nat}
variable {pc idx : Nat} {ls : Array Slot} {H : Heap} {locs : List Loc} {st : List W2} {h h' : List C2} {rest : List Value} {q k : Nat} {lv : List (Option W2)}
theorem call_back2 {mc ms : Nat} {st0 : List Value} {a : Array Value} (hr : va_Run p l e R s m args below meth c H locs cu su mc ms (F0 m pc ls st0) rest (Qc2 D base cy h' a) (fun q => base ≤ q)) (hS : va_S A s.heap H locs) (hA : ∀ q, base ≤ q → A q)
    (kk : ∀ (H1 : Heap) (locs1 : List Loc), va_P D clAll (ws2 base cy h') H1 → va_S A s.heap H1 locs1 → W p l e R s m args below meth c H1 locs1 (cu + mc) (su + ms) Z (F0 m (pc + 3) ls rest)) : W p l e R s m args below meth c H locs cu su Z (F0 m pc ls st0) := by
  intro T hT X
  obtain ⟨v, st₀, t, T', L, h0, X', hL, e1, e2, ⟨⟨hv, hP⟩, hf⟩, st⟩ := hr T hT X
  cases hv
  have hz' : H.size ≤ t.heap.size := by rw [← h0]; exact hf.1
  have hk : ∀ q : Nat, q < H.size → ¬ base ≤ q → t.heap[q]? = H[q]? := fun q h1 h2 => by rw [← h0]; exact hf.2 q (by rw [h0]; exact h1) h2
  obtain ⟨t2, a1, b1⟩ := kk T'.heap (locs ++ L) (by rw [e1]; exact hP) ⟨Nat.le_trans hS.1 (by rw [e1]; exact hz'), fun q h1 h2 => by rw [e1, hk q (Nat.lt_of_lt_of_le h1 hS.1) (fun z => h2 (hA q z))]; exact hS.2.1 q h1 h2, fun q hq => by
      rcases List.mem_append.mp hq with h | h
      · exact hS.2.2 q h
      · exact hA _ (hL q h)⟩ T' rfl X'
  exact ⟨t2, st t2 a1, b1⟩
theorem ct_call (C : Cy p s m args meth c D base cy A o b nL) {call : Nat → List W2 → List C2 → Option (List C2)} (HC : HC2 l D base cy d call) (hRf : d + 1 ≤ R.frames) (hRl : 40 * (d + 1) ≤ R.locals)
    (hd : decode b pc = .ok (.invokespecial idx, 3)) (hk : k < 11) (hl : CTL.any (fun q => q.1 == o && q.2.1 == idx && q.2.2.1 == k && q.2.2.2.1 == 1) = true ∨ CTN.any (fun q => q.1 == o && q.2.1 == idx && q.2.2.1 == k && q.2.2.2.1 == 2) = true) {av : List W2} (hav : av.length = npC k) (hrest : (rest.map fun v => v.category).sum ≤ 8)
    (hcs : cu + (bud k).1 ≤ R.cells ∧ su + (bud k).2 ≤ R.slots) (hz : H.size = base + h.length) (hls : ls.size = nL) (hc : call k (.inr (some q) :: av) h = some h') (hP : va_P D clAll (ws2 base cy h) H) (hS : va_S A s.heap H locs)
    (kk : ∀ (H1 : Heap) (locs1 : List Loc), va_P D clAll (ws2 base cy h') H1 → va_S A s.heap H1 locs1 → W p l e R s m args below meth c H1 locs1 (cu + (bud k).1) (su + (bud k).2) Z (F0 m (pc + 3) ls rest)) :
    W p l e R s m args below meth c H locs cu su Z (F0 m pc ls ((av.map (encW base)).reverse ++ .ref (base + q) :: rest)) := by
  obtain ⟨⟨hx, hb, hml⟩, hown, hts, hK, hA, hN⟩ := C
  obtain ⟨w1, w2, w3, w4, w5, w6, w7, w8, w9, w10, w11⟩ := mcf hk
  have hMet := HC k (.inr (some q) :: av) h h' hc hk (by rw [List.length_cons, hav])
  have hroom : (rm2 d k).frames + 1 ≤ R.frames ∧ 8 + ((CR k).2.2.2.2.1 + 11) + (rm2 d k).locals ≤ R.locals := ⟨by show d + 1 ≤ _; exact hRf, by show 8 + (_ + 11) + 40 * d ≤ _; omega⟩
  have hpre : PreS s H (Pc2 D base cy (.inr (some q) :: av) h) (.ref (base + q) :: av.map (encW base)) := ⟨pc2_blind, fun U hU hW => ⟨rfl, by rw [hU]; exact hz, by rw [hU]; exact hP, va_K.moved hW.alike hK, aux_warm hN hW⟩⟩
  have hrun : va_Run p l e R s m args below meth c H locs cu su (bud k).1 (bud k).2 (F0 m pc ls ((av.map (encW base)).reverse ++ .ref (base + q) :: rest)) rest (Qc2 D base cy h' (Value.ref (base + q) :: av.map (encW base)).toArray) (fun q => base ≤ q) := by
    rcases hl with hl | hl
    · obtain ⟨y, hm, hq'⟩ := any_at hl
      obtain ⟨q1, q2, q3, q4, q5⟩ := y
      simp only [Bool.and_eq_true, beq_iff_eq] at hq'
      obtain ⟨⟨⟨rfl, rfl⟩, rfl⟩, rfl⟩ := hq'
      exact va_runI (As := av.map (encW base)) (rest := rest) ⟨hx, hb, hml, hown, hts⟩ hMet
        (cwI (ws' := ALLW) (npC q3) hts (goodAll (wsC_in hk)) rfl rfl rfl (hts _ w2) (hts _ (aw2 (ctl_ok _ hm))) (hts _ w1) w8 ⟨w5, w6, w7⟩ hroom) hpre
        rfl (by rw [List.length_map, hav]) hls rfl (lv_room (by omega)) hd hcs
    · obtain ⟨y, hm, hq'⟩ := any_at hl
      obtain ⟨q1, q2, q3, q4, q5⟩ := y
      simp only [Bool.and_eq_true, beq_iff_eq] at hq'
      obtain ⟨⟨⟨rfl, rfl⟩, rfl⟩, rfl⟩ := hq'
      have hnw := hN.1 _ hm
      exact va_runIN (host := "BedsArePlaces") (As := av.map (encW base)) (rest := rest) ⟨hx, hb, hml, hown, hts⟩ hMet
        ⟨va_cnB (ws' := ALLW) (npC q3) hts (goodAll (wsC_in hk)) rfl rfl rfl hnw (hts _ w2) ⟨w5, w6, w7⟩ hroom, w8, hts _ w1⟩ hpre
        rfl (by rw [List.length_map, hav]) hls rfl (lv_room (by omega)) hd hcs
  exact call_back2 hrun hS hA kk
theorem ct_obj (C : Cy p s m args meth c D base cy A o b nL) (hRf : 1 ≤ R.frames) (hRl : 40 ≤ R.locals) (hd : decode b pc = .ok (.invokespecial idx, 3)) (hl : CTO.any (fun q => q.1 == o && q.2.1 == idx) = true) (hrest : (rest.map fun v => v.category).sum ≤ 8) (hls : ls.size = nL)
    (kk : W p l e R s m args below meth c H locs cu su Z (F0 m (pc + 3) ls rest)) : W p l e R s m args below meth c H locs cu su Z (F0 m pc ls (.ref (base + q) :: rest)) := by
  obtain ⟨⟨hx, hb, hml⟩, hown, hts, hK, hA, hN⟩ := C
  obtain ⟨y, hm, hq'⟩ := any_at hl
  obtain ⟨q1, q2, q3, q4, q5⟩ := y
  simp only [Bool.and_eq_true, beq_iff_eq] at hq'
  obtain ⟨rfl, rfl⟩ := hq'
  have hlk := aw2 (cto_ok _ hm)
  have hmk : mkC (q1, q2, q3, q4, q5) = .methodLink (RO q1) q2 Lib.objectInit := by
    have hall : ∀ y ∈ CTO, y.2.2.2.1 = 0 := by decide
    have : q4 = 0 := hall _ hm
    subst this
    rfl
  rw [hmk] at hlk
  have hr2 : 2 * (F0 m pc ls (.ref (base + q) :: rest)).monitorRoom + (rest.map fun v => v.category).sum ≤ 8 := lv_room (by omega)
  exact W.objInit hx hb hown (hts _ hlk) (hts _ oi_ok.1) (hts _ oi_ok.2) rfl (by rw [hml]; exact hls) rfl hd hRf (by omega) kk
end CT4
end
section
-- 18.ctor5: the constructors as a whole
def SW2 (p : Program) (l : Launch) (e : Env) (R : Room) (s : State) (m : MethodId) (args : Array Value) (below : List Frame) (meth : Method) (c : Code) (D : va_G) (base : Nat) (cy : Nat → ClassId) (nL hs : Nat) (B : Nat × Nat) (Z : State → Prop) (pc : Nat) (lv : List (Option W2)) (st : List W2) (h : List C2) (cu su : Nat) : Prop :=
  ∀ (ls : Array Slot) (H : Heap) (locs : List Loc), lv.length = nL → lvG base ls lv → cu ≤ B.1 → su ≤ B.2 → cu + hs = h.length → va_P D clAll (ws2 base cy h) H → va_S (fun q => base ≤ q) s.heap H locs → W p l e R s m args below meth c H locs cu su Z (F0 m pc ls (st.map (encW base)))
theorem set_len2 {h : List C2} {q : Nat} {x : C2} {n : Nat} (e : n = h.length) : n = (h.set q x).length := by rw [List.length_set]; exact e
theorem size_of2 {s : State} {D : va_G} {base : Nat} {cy : Nat → ClassId} {A : Nat → Prop} {h : List C2} {H : Heap} {locs : List Loc} {cu hs : Nat} (hP : va_P D clAll (ws2 base cy h) H) (hS : va_S A s.heap H locs) (h2 : H.size ≤ s.heap.size + cu) (h3 : s.heap.size = base + hs) (h4 : cu + hs = h.length) : H.size = base + h.length := by
  rcases Nat.eq_zero_or_pos h.length with z | z
  · have := hS.1
    omega
  · exact size_of hP z h2 h3 h4
section CT5
variable {p : Program} {l : Launch} {e : Env} {R : Room} {s : State} {m : MethodId} {args : Array Value} {below : List Frame} {meth : Method} {c : Code} {D : va_G} {base : Nat} {cy : Nat → ClassId} {o : Nat} {b : ByteArray} {nL hs : Nat} {B : Nat × Nat} {cu su : Nat} {Z : State → Prop} {d : Nat}
variable {pc : Nat} {st : List W2} {h : List C2} {lv : List (Option W2)}
set_option maxHeartbeats 4000000 in
theorem st2_sound (C : Cy p s m args meth c D base cy (fun q => base ≤ q) o b nL) {call : Nat → List W2 → List C2 → Option (List C2)} (HC : HC2 l D base cy d call) (hRf : d + 1 ≤ R.frames) (hRl : 40 * (d + 1) ≤ R.locals) (hB : B.1 ≤ R.cells ∧ B.2 ≤ R.slots) (hin : meth.name = "<init>") (hsz : s.heap.size = base + hs)
    {en : Ent} (hok : okE2 o b pc en = true) {f : Bool} {pc' : Nat} {lv' : List (Option W2)} {st' : List W2} {h' : List C2} {cu' su' : Nat} (hst : st2 call B en pc lv st h cu su = some (f, pc', lv', st', h', cu', su'))
    (k0 : f = false → SW2 p l e R s m args below meth c D base cy nL hs B Z pc' lv' st' h' cu' su')
    (k1 : f = true → ∀ (ls : Array Slot) (H : Heap) (locs : List Loc), decode b pc = .ok (.return_, 1) → cu ≤ B.1 → su ≤ B.2 → va_P D clAll (ws2 base cy h') H → va_S (fun q => base ≤ q) s.heap H locs → W p l e R s m args below meth c H locs cu su Z (F0 m pc ls [])) :
    SW2 p l e R s m args below meth c D base cy nL hs B Z pc lv st h cu su := by
  have CC := C
  obtain ⟨⟨hx, hb, hml⟩, hown, hts, hK, hA, hN⟩ := C
  obtain ⟨⟨ins, n⟩, a, bb, x0, tb⟩ := en
  simp only [okE2, Bool.and_eq_true, decide_eq_true_eq] at hok
  obtain ⟨hd, hok⟩ := hok
  intro ls H locs hlen hlv hcu hsu hch hP hS
  have SZ : ∀ kk, (H.size = base + h.length → W p l e R s m args below meth c H locs cu su kk (F0 m pc ls (st.map (encW base)))) → W p l e R s m args below meth c H locs cu su kk (F0 m pc ls (st.map (encW base))) := fun kk z => W.size fun hz => z (size_of2 hP hS hz hsz hch)
  cases ins <;> try (simp only [st2] at hst; cases hst; done)
  case iconst i =>
    simp only [Bool.and_eq_true, beq_iff_eq, decide_eq_true_eq] at hok
    obtain ⟨rfl, hv⟩ := hok
    simp only [st2] at hst
    cases hst
    exact lv_iconst hx hb hd hv (k0 rfl ls H locs hlen hlv hcu hsu hch hP hS)
  case bipush i =>
    simp only [Bool.and_eq_true, beq_iff_eq, decide_eq_true_eq] at hok
    obtain ⟨rfl, hv⟩ := hok
    simp only [st2] at hst
    cases hst
    exact lv_bipush hx hb hd hv (k0 rfl ls H locs hlen hlv hcu hsu hch hP hS)
  case sipush i =>
    simp only [Bool.and_eq_true, beq_iff_eq, decide_eq_true_eq] at hok
    obtain ⟨rfl, hv⟩ := hok
    simp only [st2] at hst
    cases hst
    exact lv_sipush hx hb hd hv (k0 rfl ls H locs hlen hlv hcu hsu hch hP hS)
  case iload_n i =>
    simp only [Bool.and_eq_true, beq_iff_eq, decide_eq_true_eq] at hok
    obtain ⟨rfl, hv⟩ := hok
    simp only [st2] at hst
    split at hst
    · rename_i v h1
      cases hst
      exact lv_iload_n hx hb hd hv (hlv.2.2 _ _ h1) (k0 rfl ls H locs hlen hlv hcu hsu hch hP hS)
    · cases hst
  case aload_n i =>
    simp only [Bool.and_eq_true, beq_iff_eq, decide_eq_true_eq] at hok
    obtain ⟨rfl, hv⟩ := hok
    simp only [st2] at hst
    split at hst
    · rename_i v h1
      cases hst
      exact lv_aload_n hx hb hd hv (hlv.2.2 _ _ h1) (k0 rfl ls H locs hlen hlv hcu hsu hch hP hS)
    · cases hst
  case istore_n i =>
    simp only [Bool.and_eq_true, beq_iff_eq, decide_eq_true_eq] at hok
    obtain ⟨rfl, hv⟩ := hok
    simp only [st2] at hst
    split at hst
    · rename_i v r
      split at hst
      · rename_i hlt
        cases hst
        exact lv_istore_n hx hb hd hv hlv.has hlt rfl (fun ls' hl' => k0 rfl ls' H locs (by rw [List.length_set]; exact hlen) (lvG.upd (v := .inl v) (fun _ z => z) hl') hcu hsu hch hP hS)
      · cases hst
    · cases hst
  case iinc i z =>
    simp only [Bool.and_eq_true, beq_iff_eq, decide_eq_true_eq] at hok
    obtain ⟨⟨rfl, rfl⟩, hv⟩ := hok
    simp only [st2] at hst
    split at hst
    · rename_i v h1
      cases hst
      have hlt : i < lv.length := (List.getElem?_eq_some_iff.mp h1).1
      refine lv_iinc (k := 0) (lv := (i, .int v) :: ascG base lv) (v := v + x0) hx hb hd ⟨hlv.has.1, hlv.has.2.1, List.forall_mem_cons.mpr ⟨hlv.2.2 _ _ h1, hlv.has.2.2⟩⟩ rfl (by rw [hv]) hlt rfl (fun ls' hl' => k0 rfl ls' H locs (by rw [List.length_set]; exact hlen) (lvG.upd (v := .inl (v + x0)) (L := (i, .int v) :: ascG base lv) (fun _ z => List.mem_cons_of_mem _ z) hl') hcu hsu hch hP hS)
    · cases hst
  case dup =>
    obtain rfl : n = 1 := by simpa using hok
    simp only [st2] at hst
    split at hst
    · rename_i v r
      cases hst
      exact lv_dup hx hb hd (encW_cat base v) (k0 rfl ls H locs hlen hlv hcu hsu hch hP hS)
    · cases hst
  case goto off =>
    simp only [Bool.and_eq_true, beq_iff_eq, decide_eq_true_eq] at hok
    obtain ⟨rfl, hv⟩ := hok
    simp only [st2] at hst
    cases hst
    exact lv_goto hx hb hd hv (k0 rfl ls H locs hlen hlv hcu hsu hch hP hS)
  case if_icmp cnd off =>
    simp only [Bool.and_eq_true, beq_iff_eq, decide_eq_true_eq] at hok
    obtain ⟨rfl, hv⟩ := hok
    cases cnd <;> try (simp only [st2] at hst; cases hst; done)
    · simp only [st2] at hst
      split at hst
      · rename_i y v r
        split at hst
        · rename_i hc
          cases hst
          exact lv_icmp_ge hx hb hd hv (fun z => k0 rfl ls H locs hlen hlv hcu hsu hch hP hS) (fun z => absurd hc z)
        · rename_i hc
          cases hst
          exact lv_icmp_ge hx hb hd hv (fun z => absurd z hc) (fun z => k0 rfl ls H locs hlen hlv hcu hsu hch hP hS)
      · cases hst
    · simp only [st2] at hst
      split at hst
      · rename_i y v r
        split at hst
        · rename_i hc
          cases hst
          exact lv_icmp_gt hx hb hd hv (fun z => k0 rfl ls H locs hlen hlv hcu hsu hch hP hS) (fun z => absurd hc z)
        · rename_i hc
          cases hst
          exact lv_icmp_gt hx hb hd hv (fun z => absurd z hc) (fun z => k0 rfl ls H locs hlen hlv hcu hsu hch hP hS)
      · cases hst
  case new idx =>
    simp only [Bool.and_eq_true, beq_iff_eq, decide_eq_true_eq] at hok
    obtain ⟨rfl, hv⟩ := hok
    simp only [st2] at hst
    split at hst
    · rename_i hc
      cases hst
      refine SZ _ fun hz => ct_new CC hd hv ⟨by omega, by omega⟩ hz hP hS fun H1 hP1 hS1 => k0 rfl ls H1 locs hlen hlv hc.1 hc.2 (by rw [List.length_append]; simp; omega) hP1 hS1
    · cases hst
  case newarray ty =>
    simp only [Bool.and_eq_true, beq_iff_eq, decide_eq_true_eq] at hok
    obtain ⟨⟨rfl, ha⟩, hty⟩ := hok
    simp only [st2] at hst
    split at hst
    · rename_i v r
      split at hst
      · rename_i hc
        cases hst
        refine SZ _ fun hz => ct_newa CC hd ha (by rw [hty]; rcases (show a = 0 ∨ a = 1 ∨ a = 2 by omega) with rfl | rfl | rfl <;> rfl) hc.1 hc.2.1 ⟨by omega, by omega⟩ hz hP hS fun H1 hP1 hS1 => k0 rfl ls H1 locs hlen hlv hc.2.2.1 hc.2.2.2 (by rw [List.length_append]; simp; omega) hP1 hS1
      · cases hst
    · cases hst
  case anewarray idx =>
    simp only [Bool.and_eq_true, beq_iff_eq, decide_eq_true_eq] at hok
    obtain ⟨⟨⟨rfl, h3⟩, h7⟩, hv⟩ := hok
    simp only [st2] at hst
    split at hst
    · rename_i v r
      split at hst
      · rename_i hc
        cases hst
        refine SZ _ fun hz => ct_newq CC hd h3 h7 hv hc.1 hc.2.1 ⟨by omega, by omega⟩ hz hP hS fun H1 hP1 hS1 => k0 rfl ls H1 locs hlen hlv hc.2.2.1 hc.2.2.2 (by rw [List.length_append]; simp; omega) hP1 hS1
      · cases hst
    · cases hst
  case putfield idx =>
    simp only [Bool.and_eq_true, beq_iff_eq, decide_eq_true_eq] at hok
    obtain ⟨⟨rfl, hv⟩, hdc⟩ := hok
    simp only [st2] at hst
    split at hst
    · rename_i v q r
      split at hst
      · rename_i t l0 hq
        split at hst
        · rename_i hc
          obtain ⟨rfl, hc1, hc2⟩ := hc
          cases hst
          exact ct_put CC hin hd hv hdc hq hc1 hc2 hP hS fun H1 locs1 hP1 hS1 => k0 rfl ls H1 locs1 hlen hlv hcu hsu (set_len2 hch) hP1 hS1
        · cases hst
      · cases hst
    · cases hst
  case getfield idx =>
    simp only [Bool.and_eq_true, beq_iff_eq, decide_eq_true_eq] at hok
    obtain ⟨rfl, hv⟩ := hok
    simp only [st2] at hst
    split at hst
    · rename_i q r
      split at hst
      · rename_i t l0 hq
        split at hst
        · rename_i v hv0
          split at hst
          · rename_i hc
            subst hc
            cases hst
            exact ct_get CC hd hv hq hv0 hP (k0 rfl ls H locs hlen hlv hcu hsu hch hP hS)
          · cases hst
        · cases hst
      · cases hst
    · cases hst
  case iastore =>
    obtain rfl : n = 1 := by simpa using hok
    simp only [st2] at hst
    split at hst
    · rename_i z i q r
      split at hst
      · rename_i t l0 hq
        split at hst
        · rename_i hc
          obtain ⟨rfl, hc1, hc2⟩ := hc
          cases hst
          exact ct_ist CC hd hq hc1 hc2 hP hS fun H1 locs1 hP1 hS1 => k0 rfl ls H1 locs1 hlen hlv hcu hsu (set_len2 hch) hP1 hS1
        · cases hst
      · cases hst
    · cases hst
  case castore =>
    obtain rfl : n = 1 := by simpa using hok
    simp only [st2] at hst
    split at hst
    · rename_i z i q r
      split at hst
      · rename_i t l0 hq
        split at hst
        · rename_i hc
          obtain ⟨rfl, hc1, hc2, hc3, hc4⟩ := hc
          cases hst
          exact ct_cst CC hd hq hc1 hc2 hc3 hc4 hP hS fun H1 locs1 hP1 hS1 => k0 rfl ls H1 locs1 hlen hlv hcu hsu (set_len2 hch) hP1 hS1
        · cases hst
      · cases hst
    · cases hst
  case aastore =>
    obtain rfl : n = 1 := by simpa using hok
    simp only [st2] at hst
    split at hst
    · rename_i w i q r
      split at hst
      · rename_i t l0 tw l1 hq hw
        split at hst
        · rename_i hc
          obtain ⟨hc1, hc2, hc3, hc4, hc5⟩ := hc
          cases hst
          exact ct_ast CC hd hc1 hc2 hq hw hc3 hc4 hc5 hP hS fun H1 locs1 hP1 hS1 => k0 rfl ls H1 locs1 hlen hlv hcu hsu (set_len2 hch) hP1 hS1
        · cases hst
      · cases hst
    · cases hst
  case return_ =>
    obtain rfl : n = 1 := by simpa using hok
    simp only [st2] at hst
    split at hst
    · cases hst
      exact k1 rfl ls H locs hd hcu hsu hP hS
    · cases hst
  case invokespecial idx =>
    simp only [Bool.and_eq_true, beq_iff_eq, decide_eq_true_eq, Bool.or_eq_true] at hok
    obtain ⟨rfl, hok⟩ := hok
    simp only [st2] at hst
    split at hst
    · split at hst
      · rename_i q r
        split at hst
        · rename_i hc
          cases hst
          have hv : CTO.any (fun q => q.1 == o && q.2.1 == idx) = true := by
            rcases hok with hok | hok
            · exact hok.2
            · exact absurd hok.1.1 (by decide)
          exact ct_obj CC (by omega) (by omega) hd hv (by rw [catG_sum]; exact hc) (by rw [hlv.1, hlen]) (k0 rfl ls H locs hlen hlv hcu hsu hch hP hS)
        · cases hst
      · cases hst
    · rename_i a2 hne
      split at hst
      · rename_i hc
        obtain ⟨hc1, hc2, hc3, hc4⟩ := hc
        split at hst
        · rename_i q rest hdr
          split at hst
          · rename_i h1 hcall
            split at hst
            · rename_i hl1
              cases hst
              rcases hok with hok | hok
              · exact absurd hok.1 hne
              obtain ⟨⟨hk, rfl⟩, hv⟩ := hok
              have hdd : st = st.take (npC a) ++ .inr (some q) :: rest := by
                have := (List.take_append_drop (npC a + 1 - 1) st).symm
                rw [hdr] at this
                exact this
              have htl : (st.take (npC a)).length = npC a := by rw [List.length_take]; omega
              generalize st.take (npC a) = tk at hdd htl
              subst hdd
              rw [← htl, tk1, List.reverse_append] at hcall
              have hrl : rest.length ≤ 8 := by rw [List.length_append, List.length_cons] at hc2; omega
              have e1 : (tk ++ Sum.inr (some q) :: rest).map (encW base) = ((tk.reverse.map (encW base)).reverse ++ .ref (base + q) :: rest.map (encW base)) := by
                rw [List.map_reverse, List.reverse_reverse, List.map_append]; rfl
              rw [e1] at SZ ⊢
              refine SZ _ fun hz => ct_call CC HC hRf hRl hd hk ?_ (by rw [List.length_reverse, htl]) (by rw [catG_sum]; exact hrl) ⟨by omega, by omega⟩ hz (by rw [hlv.1, hlen]) hcall hP hS fun H1 locs1 hP1 hS1 => ?_
              · rcases hv with hv | hv
                · exact Or.inl hv
                · exact Or.inr hv
              · have := k0 rfl ls H1 locs1 hlen hlv hc3 hc4 (by omega) hP1 hS1
                rw [← htl, dr1] at this
                exact this
            · cases hst
          · cases hst
        · cases hst
      · cases hst
theorem ex2_sound (C : Cy p s m args meth c D base cy (fun q => base ≤ q) o b nL) {call : Nat → List W2 → List C2 → Option (List C2)} (HC : HC2 l D base cy d call) (hRf : d + 1 ≤ R.frames) (hRl : 40 * (d + 1) ≤ R.locals) (hB : B.1 ≤ R.cells ∧ B.2 ≤ R.slots) (hin : meth.name = "<init>") (hsz : s.heap.size = base + hs)
    {T : Tab} (hok : ∀ pc e, cof T pc = some e → okE2 o b pc e = true) {hF : List C2}
    (k1 : ∀ (pc : Nat) (ls : Array Slot) (H : Heap) (locs : List Loc) (cu su : Nat), decode b pc = .ok (.return_, 1) → cu ≤ B.1 → su ≤ B.2 → va_P D clAll (ws2 base cy hF) H → va_S (fun q => base ≤ q) s.heap H locs → W p l e R s m args below meth c H locs cu su Z (F0 m pc ls [])) :
    ∀ (n pc : Nat) (lv : List (Option W2)) (st : List W2) (h : List C2) (cu su : Nat), ex2 call T B n pc lv st h cu su = some hF → SW2 p l e R s m args below meth c D base cy nL hs B Z pc lv st h cu su := by
  intro n
  induction n with
  | zero => intro pc lv st h cu su hh; cases hh
  | succ n ih =>
    intro pc lv st h cu su hh
    simp only [ex2] at hh
    split at hh
    · cases hh
    · rename_i en he
      split at hh
      · cases hh
      · rename_i h1 cu1 su1 hst
        cases hh
        exact st2_sound C HC hRf hRl hB hin hsz (hok _ _ he) hst (fun z => by cases z) (fun _ ls H locs hd g1 g2 g3 g4 => k1 pc ls H locs cu su hd g1 g2 g3 g4)
      · rename_i hst
        exact st2_sound C HC hRf hRl hB hin hsz (hok _ _ he) hst (fun _ => ih _ _ _ _ _ _ hh) (fun z => by cases z)
end CT5
theorem sem2_sound {l : Launch} {D : va_G} {base : Nat} {cy : Nat → ClassId} : ∀ d, HC2 l D base cy d (sem2 d) := by
  intro d
  induction d with
  | zero => intro k av h h' hh; cases hh
  | succ d ih =>
    intro k av h h' hh hk hav
    obtain ⟨w1, w2, w3, w4, w5, w6, w7, w8, w9, w10, w11⟩ := mcf hk
    refine Met.ofW (cc := (CR k).2.2.2.1) (maxL := (CR k).2.2.2.2.1) (ret := none) w4 rfl ?_
    intro p e s m args below meth c s₁ B hml hv
    obtain ⟨rfl, hsz, hP, hK, hN⟩ := hv
    have hts := atoms_spec (ws := wsC k) B.pre
    have hown : s.vm.findClass (CR k).2.2.1.cls = some m.cls := findClass_of_methodNamed B.named
    rw [w3, ← w9] at hown
    have hin : meth.name = "<init>" := (name_of_methodNamed B.named B.method).1.trans w8
    have C : Cy p s m (av.map (encW base)).toArray meth c D base cy (fun q => base ≤ q) (CR k).1 (CR k).2.2.2.1 (CR k).2.2.2.2.1 :=
      ⟨⟨B.exec, B.bytes, hml⟩, hown, fun w hw => hts w (List.mem_cons_of_mem _ hw), hK, fun q hq => hq, hN⟩
    have K := ex2_sound (p := p) (R := (headSpec (wsC k) (rm2 (d + 1) k)).room) (e := e) (below := below) (hs := h.length) (B := bud k) (Z := MQ below (Qc2 D base cy h') (av.map (encW base)).toArray s (bud k).1 (bud k).2 (fun q => base ≤ q)) C ih (Nat.le_refl _) (Nat.le_refl _) ⟨Nat.le_refl _, Nat.le_refl _⟩ hin hsz (T := (CR k).2.2.2.2.2.2) (fun pc e he => ok2_at hk he) (hF := h')
      (fun pc ls H locs cu su hd g1 g2 hP1 hS1 => W.widen g1 g2 (W.vret B.exec B.bytes B.returns (fun t ht _ => ⟨⟨rfl, by rw [ht]; exact hP1⟩, hS1.F ht⟩) hS1.2.2 hd B.notSynchronized))
      400 0 _ [] h 0 0 hh
    have hle : av.length ≤ (CR k).2.2.2.2.1 := by rw [hav]; exact w10
    rw [lg_entry_eq]
    refine K _ s.heap [] (by rw [List.length_append, List.length_map, List.length_replicate]; omega) ?_ (Nat.zero_le _) (Nat.zero_le _) (Nat.zero_add _) hP va_S.rf
    have hc : ∀ v ∈ av.map (encW base), v.category = 1 := by
      intro v hv
      obtain ⟨u, -, rfl⟩ := List.mem_map.mp hv
      exact encW_cat base u
    have hl := lv_entry (av.map (encW base)) (n := (CR k).2.2.2.2.1) (by rw [sl_len _ hc, List.length_map]; exact hle)
    refine ⟨by rw [hl.1, List.length_append, List.length_map, List.length_replicate]; omega, hl.2.1, fun i v hv => ?_⟩
    have hi : av[i]? = some v := by
      by_cases hi : i < av.length
      · rw [List.getElem?_append_left (by rw [List.length_map]; exact hi), List.getElem?_map] at hv
        cases q : av[i]? with
        | none => rw [q] at hv; cases hv
        | some u => rw [q] at hv; cases hv; rfl
      · rw [List.getElem?_append_right (by rw [List.length_map]; omega)] at hv
        have := List.mem_of_getElem? hv
        have := List.eq_of_mem_replicate this
        cases this
    have h1 := args_mem _ 0 hc i (encW base v) (by rw [List.getElem?_map, hi]; rfl)
    rw [Nat.zero_add] at h1
    exact hl.2.2 _ h1
end
section
-- 19.start1: what the constructors leave is the layout of cells
def kids (c : Id3) (q : Nat) : List (Id3 × Nat) := match h3[q]? with
  | some (_, l) => if kcls c.1 < 11 then (List.range (NF (kcls c.1))).filterMap (fun s => match gfv (fun _ _ _ _ => 15) c.1 c.2.1 c.2.2 s, (l[s]? : Option W2) with
      | Sum.inr d, some (Sum.inr (some r)) => some (d, r)
      | _, _ => none)
    else if aty c.1 < 3 then [] else (List.range (alen c.1)).filterMap (fun n => match (l[n]? : Option W2) with
      | some (Sum.inr (some r)) => some (aref c.1 c.2.1 n, r)
      | _ => none)
  | none => []
def bfs : Nat → List (Id3 × Nat) → List (Id3 × Nat) → List (Id3 × Nat)
  | 0, _, acc => acc
  | _, [], acc => acc
  | n + 1, x :: r, acc => if acc.any (fun y => y.1 == x.1) then bfs n r acc else bfs n (r ++ kids x.1 x.2) (x :: acc)
def numL : List (Id3 × Nat) := bfs 1000 [((0, 0, 0), 0), ((30, 0, 0), 137)] []
def num (c : Id3) : Nat := match numL.find? (fun y => y.1 == c) with
  | some y => y.2
  | none => 999
def bak (n : Nat) : Id3 := match numL.find? (fun y => y.2 == n) with
  | some y => y.1
  | none => (0, 0, 0)
theorem numL_len : numL.length = 163 := by decide +kernel
theorem num_bak : ∀ c ∈ cids, bak (num c) = c := by decide +kernel
theorem num_inj {c c' : Id3} (h : c ∈ cids) (h' : c' ∈ cids) (e : num c = num c') : c = c' := by
  rw [← num_bak c h, ← num_bak c' h', e]
/-- the memory at the start; the script's cells apart -/
def Mz : Mem := fun k i j s => if k = 11 ∧ s = 6 then 15 else match h3[num (k, i, j)]? with
  | some (_, l) => w2i (l.getD s (.inl 0))
  | none => 0
def cv : AV → W2
  | .inl x => .inl x
  | .inr d => .inr (some (num d))
def chk0 (c : Id3) : Bool := match h3[num c]? with
  | some (t, l) => if kcls c.1 < 11 then t == kcls c.1 && decide (l = (List.range (NF (kcls c.1))).map fun s => cv (gfv Mz c.1 c.2.1 c.2.2 s)) && (List.range (NF (kcls c.1))).all (fun s => refOk (gfv Mz c.1 c.2.1 c.2.2 s))
    else if aty c.1 < 3 then t == 100 + aty c.1 && l.length == alen c.1 && l.all (fun v => match v with | .inl _ => true | .inr _ => false)
    else t == 100 + aty c.1 && decide (aty c.1 ≤ 7) && decide (l = (List.range (alen c.1)).map fun n => .inr (some (num (aref c.1 c.2.1 n))))
  | none => false
theorem chk0_ok : ∀ c ∈ cids, chk0 c = true := by decide +kernel
end
section
-- 20.start2: what the statement gives of the start
theorem arrV_ext {cI : ClassId} {N : Nat} {f g : Nat → Value} (h : ∀ j, j < N → f j = g j) : arrV cI N f = arrV cI N g := by
  unfold arrV
  congr 2
  funext j
  exact h j.val j.isLt
theorem Mz_row {k i j : Nat} (h : k ≠ 11) {t : Nat} {l : List W2} (e : h3[num (k, i, j)]? = some (t, l)) : Mz k i j = fun s => w2i (l.getD s (.inl 0)) := by
  funext s
  unfold Mz
  rw [if_neg (fun z => h z.1), e]
theorem conv_P {D : va_G} {base : Nat} {cy : Nat → ClassId} {ad : Id3 → Nat} {H : Heap} {M : Mem} (hP : va_P D clAll (ws2 base cy h3) H) (had : ∀ c, c.1 < 70 → ad c = base + num c) (hM : ∀ k, k < 70 → M k = Mz k) : va_P D clAll (wsM ad cy M) H := by
  intro n q hq
  unfold wsM at hq
  rw [List.getElem?_map] at hq
  cases hc : cids[n]? with
  | none => rw [hc] at hq; cases hq
  | some c =>
    rw [hc] at hq
    cases hq
    have hcm := List.mem_of_getElem? hc
    have hc70 := cid_lt c hcm
    have hk := chk0_ok c hcm
    unfold chk0 at hk
    split at hk
    · rename_i t l e
      have h1 := hP _ _ (ws2_at (base := base) (cy := cy) e)
      rw [← had c hc70] at h1
      by_cases hk11 : kcls c.1 < 11
      · rw [if_pos hk11] at hk
        simp only [Bool.and_eq_true, beq_iff_eq, decide_eq_true_eq] at hk
        obtain ⟨⟨rfl, hl⟩, hr⟩ := hk
        have e1 : encC base cy (kcls c.1, l) = cellE ad cy M c := by
          rw [cell_obj hk11]
          unfold encC
          rw [if_pos hk11, hl, List.map_map]
          refine congrArg (fun z => (Sum.inr (kcls c.1, z) : va_E)) (List.map_congr_left fun s hs => ?_)
          have hg : gfv M c.1 c.2.1 c.2.2 s = gfv Mz c.1 c.2.1 c.2.2 s := gfv_cell (by rw [hM c.1 hc70]) hcm s
          rw [hg]
          have h2 := List.all_eq_true.mp hr s hs
          show encW base (cv (gfv Mz c.1 c.2.1 c.2.2 s)) = _
          cases hgv : gfv Mz c.1 c.2.1 c.2.2 s with
          | inl x => rfl
          | inr d =>
            rw [hgv] at h2
            have hd : d ∈ cids := of_decide_eq_true h2
            rw [enc_cid hd, had d (cid_lt d hd)]
            rfl
        show va_at D clAll (ad c, cellE ad cy M c) H
        rw [← e1]
        exact h1
      · rw [if_neg hk11] at hk
        by_cases ha : aty c.1 < 3
        · rw [if_pos ha] at hk
          simp only [Bool.and_eq_true, beq_iff_eq] at hk
          obtain ⟨⟨rfl, hl⟩, -⟩ := hk
          have e1 : encC base cy (100 + aty c.1, l) = cellE ad cy M c := by
            rw [cell_arr ha]
            unfold encC
            rw [if_neg (by dsimp only; omega), if_pos (by dsimp only; omega)]
            have h11 : c.1 ≠ 11 := by intro z; rw [z] at ha; exact absurd ha (by decide)
            rw [hM c.1 hc70, Mz_row h11 e]
            show Sum.inl (cy (100 + aty c.1 - 100), l.length, _) = _
            rw [show 100 + aty c.1 - 100 = aty c.1 by omega, hl]
          show va_at D clAll (ad c, cellE ad cy M c) H
          rw [← e1]
          exact h1
        · rw [if_neg ha] at hk
          simp only [Bool.and_eq_true, beq_iff_eq, decide_eq_true_eq] at hk
          obtain ⟨⟨rfl, h7⟩, hl⟩ := hk
          have h9 : va_at D clAll (ad c, cellE ad cy M c) H := by
            rw [cell_refs (by omega) h7]
            unfold encC at h1
            rw [if_neg (by dsimp only; omega), if_neg (by dsimp only; omega)] at h1
            have h3 : H[ad c]? = some (vp_cell (cy (100 + aty c.1 - 100)) (l.length, .inr (.inr (.inr (.inr fun j => (w2r (l.getD j (.inr none))).map (base + ·)))))) := h1
            show H[ad c]? = some (vp_cell (cy (aty c.1)) (alen c.1, .inr (.inr (.inr (.inr fun n => some (ad (aref c.1 c.2.1 n)))))))
            have hll : l.length = alen c.1 := by rw [hl, List.length_map, List.length_range]
            rw [h3, show 100 + aty c.1 - 100 = aty c.1 by omega, hll, vp_cell_q, vp_cell_q]
            refine congrArg some (arrV_ext fun j hj => ?_)
            have hd : aref c.1 c.2.1 j ∈ cids := cid_aref c hcm (by omega) j hj
            have e2 : l.getD j (.inr none) = .inr (some (num (aref c.1 c.2.1 j))) := by
              rw [hl, List.getD_eq_getElem?_getD, List.getElem?_map, List.getElem?_range hj]
              rfl
            rw [e2, had _ (cid_lt _ hd)]
            rfl
          exact h9
    · cases hk
def stTm (i : Nat) : Term := .string RX4 (sIdx.getD i 0)
abbrev LF : List Cond := flatC (Jvm.Cond.and given_1 narrow_1)
theorem st_ex : ∀ i, i < 11 → Cond.exactly (stTm i) "java/lang/String" ∈ LF := by decide +kernel
theorem st_co : ∀ i, i < 11 → Cond.eq (.field (stTm i) "java/lang/String" "coder" "B") (.int 0) ∈ LF := by decide +kernel
theorem st_ar : ∀ i, i < 11 → Cond.arrayOf (.field (stTm i) "java/lang/String" "value" "[B") .byte ∈ LF := by decide +kernel
theorem st_le : ∀ i, i < 11 → Cond.eq (.length (.field (stTm i) "java/lang/String" "value" "[B")) (.int (Int32.ofNat (sLenL.getD i 0))) ∈ LF := by decide +kernel
theorem st_el : ∀ i, i < 11 → ∀ j, j < sLenL.getD i 0 → Cond.eq (.elem (.field (stTm i) "java/lang/String" "value" "[B") (.int (Int32.ofNat j))) (.int ((sByt.getD i []).getD j 0)) ∈ LF := by decide +kernel
theorem st_ne : ∀ i, i < 11 → ∀ j, j < 11 → i ≠ j → Cond.not (Cond.eq (stTm i) (stTm j)) ∈ LF ∨ Cond.not (Cond.eq (stTm j) (stTm i)) ∈ LF := by decide +kernel
theorem st_sr : ∀ i, i < 11 → Cond.stringRef RX4 (sIdx.getD i 0) (sTxt.getD i "") ∈ lw_tbl := by decide +kernel
theorem st_sL : ∀ i, i < 11 → sLenL.getD i 0 < 2 ^ 31 := by decide +kernel
theorem st_c1 : Cond.eq (Term.static "java/lang/String" "COMPACT_STRINGS" "Z") (.int 1) ∈ LF := by decide +kernel
theorem st_c2 : Cond.isRef (Term.static "jdk/internal/util/Preconditions" "SIOOBE_FORMATTER" "Ljava/util/function/BiFunction;") ∈ LF := by decide +kernel
theorem st_l1 : Cond.laysStatic "java/lang/String" "COMPACT_STRINGS" "Z" ∈ lw_tbl ∧ Cond.initialized "java/lang/String" ∈ lw_tbl := by decide +kernel
theorem st_l2 : Cond.laysStatic "jdk/internal/util/Preconditions" "SIOOBE_FORMATTER" "Ljava/util/function/BiFunction;" ∈ lw_tbl ∧ Cond.initialized "jdk/internal/util/Preconditions" ∈ lw_tbl := by decide +kernel
theorem st_nw : ∀ q ∈ NSTS, mkM q ∈ lw_tbl ∧ (mkM q).onTables = true := by decide +kernel
theorem st_nc : ∀ q ∈ CTN, mkC q ∈ lw_tbl ∧ (mkC q).onTables = true := by decide +kernel
theorem st_ao : ∀ t, t < 8 → 3 ≤ t → Cond.arrayOver (.object (RO (elc t))) ∈ lw_tbl := by decide +kernel
theorem st_ac : ∀ t, t < 3 → Cond.arrayClass (ety t) ∈ lw_tbl := by decide +kernel
theorem st_in : ∀ k, k < 11 → Cond.instantiable (RO k) (NF k) ∈ lw_tbl := by decide +kernel
theorem kst_start {args : Array Value} {s : State} {A : Nat → Prop} (hgv : (Jvm.Cond.and given_1 narrow_1).before args s = true) (hts : ∀ w ∈ lw_tbl, w.before args s = true) (hA : ∀ a : Nat, a < s.heap.size → ¬ A a) :
    ∃ (adK adV : Nat → Nat) (fm : Value), (fm = .null ∨ ∃ t, fm = .ref t) ∧ ∀ ad : Id3 → Nat, (∀ i, ad (80, i, 0) = adK i) → (∀ i, ad (81, i, 0) = adV i) → KSt ad fm A s s.heap := by
  have hs := flat_of_before _ hgv
  obtain ⟨adK, adV, hk, he⟩ := vk_Sof (tm := stTm) st_sL (fun i hi => hs _ (st_ex i hi)) (fun i hi => hs _ (st_co i hi)) (fun i hi => hs _ (st_ar i hi)) (fun i hi => hs _ (st_le i hi)) (fun i hi j hj => hs _ (st_el i hi j hj)) (fun i j hi hj hne => (st_ne i hi j hj hne).imp (hs _) (hs _)) hA
  have hz1 : va_Z "java/lang/String" "COMPACT_STRINGS" "Z" (.int 1) A s s.heap := va_Zof (hts _ st_l1.1) (hts _ st_l1.2) (va_eqi (hs _ st_c1)) hA
  have hz2 := va_Zqof (A := A) (hts _ st_l2.1) (hts _ st_l2.2) (hs _ st_c2) hA
  have hn : ∀ q ∈ NSTS, va_Nw (mkM q) s := fun q hq => va_Nw.of (st_nw q hq).2 (hts _ (st_nw q hq).1)
  have fin : ∀ fm : Value, va_Z "jdk/internal/util/Preconditions" "SIOOBE_FORMATTER" "Ljava/util/function/BiFunction;" fm A s s.heap → ∀ ad : Id3 → Nat, (∀ i, ad (80, i, 0) = adK i) → (∀ i, ad (81, i, 0) = adV i) → KSt ad fm A s s.heap := by
    intro fm hz ad h1 h2
    have e1 : (fun i => ad (80, i, 0)) = adK := funext h1
    have e2 : (fun i => ad (81, i, 0)) = adV := funext h2
    refine ⟨by rw [e1, e2]; exact hk, fun i hi => ?_, hz1, hz, hn⟩
    rw [h1 i]
    exact vk_R.of (hts _ (st_sr i hi)) (he i hi)
  rcases hz2 with hz | ⟨t, hz⟩
  · exact ⟨adK, adV, .null, Or.inl rfl, fin _ hz⟩
  · exact ⟨adK, adV, .ref t, Or.inr ⟨t, rfl⟩, fin _ hz⟩
theorem cy_start {args : Array Value} {s : State} (hts : ∀ w ∈ lw_tbl, w.before args s = true) : ∃ cy : Nat → ClassId, ∀ t, t < 8 → ArrOfT s (cy t) (ety t) ∧ va_RA s (cy t) (ety t) := by
  have h : ∀ t, ∃ c : ClassId, t < 8 → ArrOfT s c (ety t) ∧ va_RA s c (ety t) := by
    intro t
    by_cases h3 : t < 3
    · obtain ⟨c, k, comp, h1, h2, h4⟩ := Cond.arrayClass_spec (hts _ (st_ac t h3))
      refine ⟨c, fun _ => ⟨fun n z => ⟨fun k => (by intro q; cases q), k, h2, comp, h4⟩, ?_⟩⟩
      rcases (show t = 0 ∨ t = 1 ∨ t = 2 by omega) with rfl | rfl | rfl <;> exact h1
    · by_cases h8 : t < 8
      · obtain ⟨comp, c, k, h1, h2, h4, h5, h6⟩ := Cond.arrayOver_spec (hts _ (st_ao t h8 (by omega)))
        have e : ety t = .object (RO (elc t)) := by
          rcases (show t = 3 ∨ t = 4 ∨ t = 5 ∨ t = 6 ∨ t = 7 by omega) with rfl | rfl | rfl | rfl | rfl <;> rfl
        refine ⟨c, fun _ => ?_⟩
        rw [e]
        exact ⟨fun n z => ⟨fun k => (by intro q; cases q), k, h4, comp, h5⟩, k, comp, h4, h5, h1, h6⟩
      · exact ⟨0, fun z => absurd z h8⟩
  exact ⟨fun t => (h t).choose, fun t ht => (h t).choose_spec ht⟩
theorem D_start {args : Array Value} {s : State} (hts : ∀ w ∈ lw_tbl, w.before args s = true) : ∃ D : va_G, ∀ k, k < 11 → u_Kn s (RO k) (TF k) (NF k) (D.1 k) (D.2 k) := by
  have h : ∀ k, ∃ q : ClassId × (Nat → Nat), k < 11 → u_Kn s (RO k) (TF k) (NF k) q.1 q.2 := by
    intro k
    by_cases hk : k < 11
    · obtain ⟨c, i, h⟩ := u_known (ws := lw_tbl) hts (fun w hw => (uw_all k hk w hw).1) (hts _ (st_in k hk))
      exact ⟨(c, i), fun _ => h⟩
    · exact ⟨(0, fun _ => 0), fun z => absurd z hk⟩
  exact ⟨(fun k => (h k).choose.1, fun k => (h k).choose.2), fun k hk => (h k).choose_spec hk⟩
theorem K_start {args : Array Value} {s : State} (hts : ∀ w ∈ lw_tbl, w.before args s = true) : ∃ (D : va_G) (cy : Nat → ClassId), va_K D clAll (tysA cy) s := by
  obtain ⟨cy, h1⟩ := cy_start hts
  obtain ⟨D, h2⟩ := D_start hts
  refine ⟨D, cy, fun c q hq => ?_, fun k q hq => ?_⟩
  · have hc : c < 11 := (List.getElem?_eq_some_iff.mp hq).1
    rw [cl_at hc] at hq
    cases hq
    exact h2 c hc
  · have hk : k < 8 := (List.getElem?_eq_some_iff.mp hq).1
    rw [tysA_at cy (by omega)] at hq
    cases hq
    exact h1 k hk
end
section
-- 21.start3: the law from its entry to its loop (kit skeleton first, by program gen21.py)
def R_law : String := "BedsArePlacesLaw"
def lw_P (b : Addr) (xs : List Int32) (args : Array Value) (s : State) : Prop := args = #[.ref b] ∧ s.IntsAt b xs ∧ xs.length ≤ 3072 ∧ (Jvm.Cond.and given_1 narrow_1).before args s = true
def lw_Q (_ : Array Value) (s : State) (o : Outcome) (t : State) : Prop := o = .returned (some (.int 1)) ∧ Framed s o t [] 600000 7302250
def lw_Z (below : List Frame) (a : Array Value) (s : State) : State → Prop := fun t => ∃ o, t.status = .running ∧ Ended t below o ∧ lw_Q a s o t
/-- the law's own end, with 1 on the stack, nothing written that was there before, its room as the claim has it -/
theorem lw_ret {p : Program} {l : Launch} {e : Env} {s : State} {m : MethodId} {below : List Frame} {meth : Method} {c : Code} {b : Nat} (hx : p.tables.exec = Jvm.exec) (hb : c.code = code) (hr : meth.sig.returnType = ret) (hlocks : meth.locks = false) {pc : Nat} {H : Heap} {ls : Array Slot} (hdg : decode code pc = .ok (.ireturn, 1)) : W p l e room_1 s m #[Value.ref b] below meth c H [] 600000 7302250 (lw_Z below #[Value.ref b] s) (F0 m pc ls [.int 1]) := by
  intro T hT X
  obtain ⟨fs, hret, hrun, hended, hW, hframe⟩ := X.leave (v := some (.int 1)) (hlocks := hlocks) (fun h => by rw [hr] at h; cases h)
  have hmeth' : T.vm.method? m = some meth := X.method'
  refine ⟨T.setFrames fs, ?_, .returned (some (.int 1)), hrun, hended, rfl, ⟨_, rfl⟩, hW, hframe⟩
  jvm_step X.here [X.here.top, hx, hb, hdg, hmeth', hr, ret, narrow_b1]
  (try refine ⟨rfl, ?_⟩); (try refine ⟨rfl, ?_⟩)
  first | (intro acts; rw [hret _ acts rfl rfl rfl]) | rw [hret _ _ rfl rfl rfl]
  exact Steps.refl _
/-- what holds at the law's entry: the machine, the code, the tables' words (any of lw_tbl by 'hts w (by decide +kernel)'), the script of L ints xs at the cell b, what the Statement gives of the start (any of its parts by flat_of_before) -/
def lw_At (p : Program) (s : State) (m : MethodId) (meth : Method) (c : Code) (b L : Nat) (xs : Nat → Int32) : Prop :=
  p.tables.exec = Jvm.exec ∧ c.code = code ∧ meth.sig.returnType = ret ∧ c.maxLocals = 4 ∧ s.vm.findClass R_law = some m.cls ∧ (∀ w ∈ lw_tbl, w.before #[Value.ref b] s = true) ∧ va_X b L xs s s.heap ∧ b < s.heap.size ∧ meth.locks = false ∧ (Jvm.Cond.and given_1 narrow_1).before #[Value.ref b] s = true
-- our own part
def M0 (xs : Nat → Int32) (L : Nat) : Mem := fun k i j s => if k < 70 then Mz k i j s else if k = 90 then xs s else if k = 91 then Int32.ofNat L else 0
theorem M0_lo {xs : Nat → Int32} {L k : Nat} (h : k < 70) : M0 xs L k = Mz k := by
  funext i j s
  unfold M0
  rw [if_pos h]
/-- the law's loop, over the small machine, ends with true -/
def LawRun : Prop := ∀ (xs : Nat → Int32) (L : Nat), L ≤ 3072 → ∃ d, d ≤ 2000 ∧ ∀ S : CF, Clo (Td PR d) (some .boolean) T_L_law (fun r _ => r = some (.inl 1)) S → S 16 [some (.inr (90, 0, 0)), some (.inr (0, 0, 0)), some (.inr (30, 0, 0)), none] [] (M0 xs L)
theorem retP_one {v : Int32} {P : Prop} (h : retP (some .boolean) v P) : P := by
  unfold retP at h
  exact h.2
theorem toN_ofNat {L : Nat} (h : L ≤ 3072) : (Int32.ofNat L).toNatClampNeg = L := by
  have h1 : (Int32.ofNat L).toInt = (L : Int) := Int32.toInt_ofNat_of_lt (by omega)
  unfold Int32.toNatClampNeg
  rw [h1]
  rfl
theorem lawLinks : CLN.any (fun q => q.1 == 11 && q.2.1 == 7 && q.2.2.1 == 9) = true ∧ CLN.any (fun q => q.1 == 11 && q.2.1 == 10 && q.2.2.1 == 10) = true ∧ CTL.any (fun q => q.1 == 11 && q.2.1 == 9 && q.2.2.1 == 9 && q.2.2.2.1 == 1) = true ∧ CTL.any (fun q => q.1 == 11 && q.2.1 == 12 && q.2.2.1 == 10 && q.2.2.2.1 == 1) = true ∧ npC 9 = 0 ∧ npC 10 = 0 := by decide +kernel
theorem dLl_0 : decode cL_law 0 = .ok (.new 7, 3) := by decide +kernel
theorem dLl_3 : decode cL_law 3 = .ok (.dup, 1) := by decide +kernel
theorem dLl_4 : decode cL_law 4 = .ok (.invokespecial 9, 3) := by decide +kernel
theorem dLl_7 : decode cL_law 7 = .ok (.astore_n 1, 1) := by decide +kernel
theorem dLl_8 : decode cL_law 8 = .ok (.new 10, 3) := by decide +kernel
theorem dLl_11 : decode cL_law 11 = .ok (.dup, 1) := by decide +kernel
theorem dLl_12 : decode cL_law 12 = .ok (.invokespecial 12, 3) := by decide +kernel
theorem dLl_15 : decode cL_law 15 = .ok (.astore_n 2, 1) := by decide +kernel
theorem budLaw : bud 9 = (136, 20000) ∧ bud 10 = (25, 20000) ∧ NF 9 = 11 ∧ NF 10 = 37 := by decide +kernel
theorem whole_of (HL : LawRun) {p : Program} {e : Env} {s : State} {m : MethodId} {below : List Frame} {meth : Method} {c : Code} (l : Launch) {b L : Nat} {xs : Nat → Int32} (hL : L ≤ 3072) (C0 : lw_At p s m meth c b L xs) : W p l e room_1 s m #[Value.ref b] below meth c s.heap [] 0 0 (lw_Z below #[Value.ref b] s) (entryFrame m ([Value.ref b] : List Value).toArray 4) := by
  obtain ⟨hx, hb, hr, hml, hown, hts, hX, hbl, hlocks, hgv⟩ := C0
  obtain ⟨D, cy, hK⟩ := K_start hts
  have hA0 : ∀ a : Nat, a < s.heap.size → ¬ s.heap.size ≤ a := fun a h1 h2 => by omega
  obtain ⟨adK, adV, fm, hfm, hks⟩ := kst_start (A := fun q => s.heap.size ≤ q) hgv hts hA0
  have hts1 : ∀ w ∈ ALLW, w.before #[Value.ref b] s = true := fun w hw => hts w (List.mem_filter.mp hw).1
  have hN : AUX s := ⟨fun q hq => va_Nw.of (st_nc q hq).2 (hts _ (st_nc q hq).1), fun t h3 h7 => va_AO.of (hts _ (st_ao t (by omega) h3))⟩
  have C : Cy p s m #[Value.ref b] meth c D s.heap.size cy (fun q => s.heap.size ≤ q) 11 cL_law 4 := ⟨⟨hx, hb, hml⟩, hown, hts1, hK, fun q hq => hq, hN⟩
  obtain ⟨l1, l2, l3, l4, l5, l6⟩ := lawLinks
  obtain ⟨b9, b10, n9, n10⟩ := budLaw
  have hl := lv_entry ([.ref b]) (n := 4) (Nat.le_of_ble_eq_true rfl)
  rw [lg_entry_eq]
  generalize (lg_sl ([.ref b]) ++ List.replicate (4 - (lg_sl ([.ref b])).length) Slot.unset).toArray = ls at hl ⊢
  have hl : lv_has ls 4 [(0, .ref b)] := hl
  have hS : va_S (fun q => s.heap.size ≤ q) s.heap s.heap [] := va_S.rf
  have hP : va_P D clAll (ws2 s.heap.size cy []) s.heap := fun k q hk => by simp [ws2] at hk
  have HC : ∀ d, HC2 l D s.heap.size cy d (sem2 d) := sem2_sound
  refine ct_new (h := []) C dLl_0 l1 ⟨by show 0 + 1 ≤ 600000; omega, by rw [n9]; show 0 + 11 ≤ 7302250; omega⟩ rfl hP hS fun H1 hP1 hS1 => ?_
  refine lv_dup hx hb dLl_3 rfl ?_
  refine W.size fun hz1 => ?_
  have hz1 : H1.size = s.heap.size + h0.length := size_of2 (hs := 0) (h := h0) hP1 hS1 hz1 rfl rfl
  refine ct_call (av := []) (h := h0) (h' := h1) C (HC 4) (by show 4 + 1 ≤ 2048; omega) (by show 40 * (4 + 1) ≤ 84000; omega) dLl_4 (k := 9) (by omega) (Or.inl l3) l5.symm (Nat.le_of_ble_eq_true rfl) ⟨by rw [b9]; show 0 + 1 + 136 ≤ 600000; omega, by rw [b9, n9]; show 0 + 11 + 20000 ≤ 7302250; omega⟩ hz1 hl.1 h1_ok hP1 hS1 fun H2 locs2 hP2 hS2 => ?_
  refine lv_astore_n hx hb dLl_7 rfl hl (by omega) rfl fun ls1 hl1 => ?_
  refine W.size fun hz2 => ?_
  have hz2 : H2.size = s.heap.size + h1.length := size_of2 (hs := 0) hP2 hS2 hz2 rfl (by rw [b9, h1_len]; rfl)
  refine ct_new (h := h1) C dLl_8 l2 ⟨by rw [b9]; show 0 + 1 + 136 + 1 ≤ 600000; omega, by rw [b9, n9, n10]; show 0 + 11 + 20000 + 37 ≤ 7302250; omega⟩ hz2 hP2 hS2 fun H3 hP3 hS3 => ?_
  refine lv_dup hx hb dLl_11 rfl ?_
  refine W.size fun hz3 => ?_
  have hz3 : H3.size = s.heap.size + h2.length := size_of2 (hs := 0) (h := h2) hP3 hS3 hz3 rfl (by rw [b9]; show 0 + 1 + 136 + 1 + 0 = (h1 ++ [_]).length; rw [List.length_append, h1_len]; rfl)
  refine ct_call (av := []) (h := h2) (h' := h3) C (HC 4) (by show 4 + 1 ≤ 2048; omega) (by show 40 * (4 + 1) ≤ 84000; omega) dLl_12 (k := 10) (by omega) (Or.inl l4) l6.symm (Nat.le_of_ble_eq_true rfl) ⟨by rw [b9, b10]; show 0 + 1 + 136 + 1 + 25 ≤ 600000; omega, by rw [b9, b10, n9, n10]; show 0 + 11 + 20000 + 37 + 20000 ≤ 7302250; omega⟩ hz3 hl1.1 h3_ok hP3 hS3 fun H4 locs4 hP4 hS4 => ?_
  refine lv_astore_n hx hb dLl_15 rfl hl1 (by omega) rfl fun ls2 hl2 => ?_
  refine W.widen (k := 600000) (n := 7302250) (by rw [b9, b10]; show 0 + 1 + 136 + 1 + 25 ≤ 600000; omega) (by rw [b9, b10, n9, n10]; show 0 + 11 + 20000 + 37 + 20000 ≤ 7302250; omega) ?_
  obtain ⟨ad, ha1, ha2, ha3, ha4⟩ : ∃ ad : Id3 → Nat, (∀ c, c.1 < 70 → ad c = s.heap.size + num c) ∧ (∀ i, ad (80, i, 0) = adK i) ∧ (∀ i, ad (81, i, 0) = adV i) ∧ ad (90, 0, 0) = b :=
    ⟨fun c => if c.1 < 70 then s.heap.size + num c else if c.1 = 80 then adK c.2.1 else if c.1 = 81 then adV c.2.1 else b, fun c h => if_pos h, fun i => rfl, fun i => rfl, rfl⟩
  have hPM := conv_P (M := M0 xs L) hP4 ha1 (fun k hk => M0_lo hk)
  have CC : Cx p s m #[Value.ref b] meth c D ad cy fm (fun q => s.heap.size ≤ q) True (M0 xs L) 11 cL_law 4 (some .boolean) := by
    refine ⟨⟨hx, hb, hml, hr, hlocks⟩, hown, hts1, hK, fun c hc => ?_, fun c c' h h' he => ?_, hks ad ha2 ha3, hfm, fun _ => ?_⟩
    · show s.heap.size ≤ ad c
      rw [ha1 c (cid_lt c hc)]
      omega
    · rw [ha1 c (cid_lt c h), ha1 c' (cid_lt c' h')] at he
      exact num_inj h h' (by omega)
    · rw [ha4]
      have e91 : (M0 xs L) 91 0 0 0 = Int32.ofNat L := rfl
      have e90 : (M0 xs L) 90 0 0 = xs := rfl
      rw [e91, e90, toN_ofNat hL]
      exact ⟨hX, hbl, by omega, rfl⟩
  obtain ⟨d, hd, HS⟩ := HL xs L hL
  have hSND := snd (l := l) (D := D) (ad := ad) (cy := cy) (fm := fm) (fun c c' h h' he => CC.2.2.2.2.2.1 c c' h h' he) hfm d
  have HR : HRt p l e room_1 s m #[Value.ref b] below meth c D ad cy fm (fun q => s.heap.size ≤ q) True (M0 xs L) cL_law (some .boolean) 600000 7302250 (lw_Z below #[Value.ref b] s) (fun r _ => r = some (.inl 1)) := by
    refine ⟨fun v M' pc ls H locs hd hq hg hP hS => ?_, fun k i j M' pc ls H locs hd hk hvv hq hg hP hS => ?_, fun M' pc ls H locs hd hr hq hg hP hS => ?_⟩
    · have h1 := retP_one hq
      cases h1
      exact va_forget hS.2.2 (lw_ret hx hb hr hlocks hd)
    · cases hq
    · cases hr
  have K := HS _ (clo_sound (r := r_L_law) ok_law CC hSND (by show d + 1 ≤ 2048; omega) (by show 40 * (d + 1) ≤ 84000; omega) ⟨Nat.le_refl _, Nat.le_refl _⟩ HR)
  refine K ls2 H4 locs4 rfl ?_ ?_ (fun v hv => by cases hv) (fun _ _ => rfl) hPM hS4
  · refine ⟨hl2.1, hl2.2.1, fun i v hv => ?_⟩
    have q0 : ls2[0]? = some (.val (.ref b)) := lv_at hl2 2 rfl
    have q1 : ls2[1]? = some (.val (.ref (s.heap.size + 0))) := lv_at hl2 1 rfl
    have q2 : ls2[2]? = some (.val (.ref (s.heap.size + h1.length))) := lv_at hl2 0 rfl
    have n0 : num (0, 0, 0) = 0 := by decide +kernel
    have n30 : num (30, 0, 0) = 137 := by decide +kernel
    match i, hv with
    | 0, hv => cases hv; rw [q0, enc_ref (by decide), ha4]
    | 1, hv => cases hv; rw [q1, enc_ref (by decide), ha1 _ (by decide), n0]
    | 2, hv => cases hv; rw [q2, enc_ref (by decide), ha1 _ (by decide), n30, h1_len]
    | 3, hv => cases hv
    | i + 4, hv => cases hv
  · intro v hv
    simp only [List.mem_cons, Option.some.injEq, List.not_mem_nil, or_false] at hv
    rcases hv with rfl | rfl | rfl | hv
    · exact Or.inr (Or.inr (Or.inr (Or.inr ⟨rfl, trivial⟩)))
    · exact Or.inl (by decide +kernel)
    · exact Or.inl (by decide +kernel)
    · cases hv
end
section
-- 30.pure1: small numbers, frames
theorem nI_mul (a b : Nat) : nI a * nI b = nI (a * b) := (Int32.ofNat_mul a b).symm
theorem nI_sub {a b : Nat} (h : b ≤ a) : nI a - nI b = nI (a - b) := (Int32.ofNat_sub a b h).symm
/-- what may be touched, by kind and first index -/
def Fr (T : Nat → Nat → Bool) (M M' : Mem) : Prop := ∀ k i, T k i = false → M' k i = M k i
theorem fr_rf {T : Nat → Nat → Bool} {M : Mem} : Fr T M M := fun _ _ _ => rfl
theorem fr_tr {T : Nat → Nat → Bool} {M M' M'' : Mem} (h : Fr T M M') (h' : Fr T M' M'') : Fr T M M'' := fun k i e => (h' k i e).trans (h k i e)
theorem fr_wk {T T' : Nat → Nat → Bool} {M M' : Mem} (h : Fr T M M') (e : ∀ k i, T' k i = false → T k i = false) : Fr T' M M' := fun k i z => h k i (e k i z)
theorem mr_out {M : Mem} {k i j k' i' : Nat} {f : Nat → Int32} (h : ¬ (k' = k ∧ i' = i)) : mr M k i j f k' i' = M k' i' := by
  funext j'
  exact mr_ne (fun z => h ⟨z.1, z.2.1⟩)
theorem fr_mu {T : Nat → Nat → Bool} {M M' : Mem} {k i j s : Nat} {v : Int32} (h : Fr T M M') (e : T k i = true) : Fr T M (mu M' k i j s v) := fun k' i' z => by
  unfold mu
  rw [mr_out (fun q => by rw [q.1, q.2, e] at z; cases z)]
  exact h k' i' z
end
section
-- 31.pure2: a land as a flat row of numbers: the pure functions of a night; small rows for walks
abbrev FA : Type := Nat → Int32
noncomputable def bI (p : Prop) : Int32 := @ite _ p (Classical.propDecidable p) 1 0
theorem bI_p {p : Prop} (h : p) : bI p = 1 := by unfold bI; rw [if_pos h]
theorem bI_n {p : Prop} (h : ¬ p) : bI p = 0 := by unfold bI; rw [if_neg h]
theorem bI_t {p : Prop} (h : ¬ bI p = 0) : p := Classical.byContradiction fun q => h (bI_n q)
theorem bI_f {p : Prop} (h : bI p = 0) : ¬ p := fun q => by rw [bI_p q] at h; exact absurd h (by decide)
theorem bI_01 {p : Prop} : bI p = 0 ∨ bI p = 1 := by
  by_cases h : p
  · exact Or.inr (bI_p h)
  · exact Or.inl (bI_n h)
theorem bI_cg {p q : Prop} (h : p ↔ q) : bI p = bI q := by rw [propext h]
theorem narrow_bI (p : Prop) : narrow .boolean (.int (bI p)) = .int (bI p) := by
  by_cases h : p
  · rw [bI_p h]; rfl
  · rw [bI_n h]; rfl
theorem vp_l {x : Int32} {n : Nat} (h : decide (¬ (x < 0 ∨ n ≤ x.toNatClampNeg)) = true) : vp_in x n := of_decide_eq_true (p := ¬ (x < 0 ∨ n ≤ x.toNatClampNeg)) h
/-- a number below n -/
def isBd (n : Nat) (x : Int32) : Prop := ∃ j, j < n ∧ x = nI j
theorem isBd_nI {n j : Nat} (h : j < n) : isBd n (nI j) := ⟨j, h, rfl⟩
theorem isBd_lo {n : Nat} {x : Int32} (h : x < 0) (hn : n < 2 ^ 31) : ¬ isBd n x := fun ⟨j, hj, e⟩ => nI_pos (n := j) (by omega) (e ▸ h)
theorem isBd_hi {n : Nat} {x : Int32} (h : nI n ≤ x) (hn : n < 2 ^ 31) : ¬ isBd n x := fun ⟨j, hj, e⟩ => nI_ge hj hn (e ▸ h)
theorem isBd_in {n : Nat} {x : Int32} (h : ¬ x < 0) (h2 : ¬ nI n ≤ x) (hn : n < 2 ^ 31) : isBd n x := by
  obtain ⟨j, hj, rfl⟩ := nI_of h
  refine ⟨j, ?_, rfl⟩
  refine Nat.lt_of_not_le fun q => h2 (nI_le q hj)
theorem isBd_vp {n N : Nat} {x : Int32} (h : isBd n x) (h2 : n ≤ N) (hN : N < 2 ^ 31) : vp_in x N := by
  obtain ⟨j, hj, rfl⟩ := h
  exact vp_in_nI (by omega) hN
/-- loops upward -/
theorem lp_up {T : Nat → Prop} {N : Nat} (h0 : T N) (hs : ∀ i, i < N → T (i + 1) → T i) : ∀ j, j ≤ N → T j := by
  intro j hj
  obtain ⟨n, hn⟩ : ∃ n, n = N - j := ⟨_, rfl⟩
  induction n generalizing j with
  | zero => obtain rfl : j = N := by omega
            exact h0
  | succ n ih => exact hs j (by omega) (ih (j + 1) (by omega) (by omega))
theorem lp_x {x : Int32} {n : Nat} (e : x = nI n) (h : ¬ x ≤ nI n) : False := h (e ▸ Int32.le_refl _)
theorem lp_s {x : Int32} {n i : Nat} (e : x = nI n) (hi : i < n) (hn : n < 2 ^ 31) (h : x ≤ nI i) : False := nI_ge hi hn (e ▸ h)
def cB (f : FA) : Nat := (f 1).toNatClampNeg
def cP (f : FA) : Nat := (f 4).toNatClampNeg
def cT (f : FA) : Nat := (f 9).toNatClampNeg
/-- counts in range -/
def CN (f : FA) : Prop := f 1 = nI (cB f) ∧ cB f ≤ 10 ∧ f 4 = nI (cP f) ∧ cP f ≤ 9 ∧ f 9 = nI (cT f) ∧ cT f ≤ 14
theorem cB_lt {f : FA} {n : Nat} (h : f 1 = nI n) (hn : n < 2 ^ 31) : cB f = n := by unfold cB; rw [h]; exact nI_clamp hn
theorem cP_lt {f : FA} {n : Nat} (h : f 4 = nI n) (hn : n < 2 ^ 31) : cP f = n := by unfold cP; rw [h]; exact nI_clamp hn
theorem cT_lt {f : FA} {n : Nat} (h : f 9 = nI n) (hn : n < 2 ^ 31) : cT f = n := by unfold cT; rw [h]; exact nI_clamp hn
def ushr8 (x : Int32) : Int32 := (x.toUInt32 >>> ((8 : Int32).toUInt32 &&& Int32.toUInt32 31)).toInt32
def drawZ (f : FA) : Int32 := f 0 * 1103515245 + 12345
def drawF (f : FA) : FA := upd f 0 (drawZ f)
def drawV (f : FA) : Int32 := ushr8 (drawZ f)
def clamp (v lo hi : Int32) : Int32 := if v < lo then lo else if hi < v then hi else v
def absI (x : Int32) : Int32 := if x < 0 then -x else x
/-- a bed's ways, of its numbers -/
def wideI (k : Int32) : Int32 := if k = 2 then 1 else if k = 4 then 3 else if k = 5 then 4 else 2
def undP (k o : Int32) : Prop := o = 0 ∨ k = o ∨ (o = 1 ∧ k = 3) ∨ (o = 2 ∧ k = 4)
def takesI (k a t o m n : Int32) : Int32 := if k = 1 then (if m = 2 then t else a) else if k = 4 then (if irem n 2 = 0 then t else o) else t
def leadsI (k t o : Int32) : Int32 := if k = 4 then (1 : Int32) <<< (t &&& 31) ||| (1 : Int32) <<< (o &&& 31) else (1 : Int32) <<< (t &&& 31)
def worthI (k a t o : Int32) : Int32 := if k = 1 then absI (a - t) + 5 else if k = 2 then 9 - absI (a - t) else if k = 3 then 2 * (absI (a - t) + 5) else if k = 4 then 9 - absI (a - t) + o else if k = 5 then 1 else absI (a - t)
/-- those in a town who aren't gone, of the first n -/
def thereF (f : FA) (town : Int32) : Nat → Int32
  | 0 => 0
  | n + 1 => thereF f town n + (if f (50 + 4 * n) = town ∧ f (53 + 4 * n) = 0 then 1 else 0)
/-- the newest text of a key, of the first n: its number, or -1 -/
def countsF (f : FA) (key : Int32) : Nat → Int32
  | 0 => -1
  | n + 1 => if f (86 + 2 * n) / 1000 = key then nI n else countsF f key n
def twoF (g a b : Int32) : Int32 :=
  if g = -1 then (if ¬ a = 0 ∨ ¬ b = 0 then 1 else 0) else if g = -2 then (if ¬ a = 0 ∧ ¬ b = 0 then 1 else 0) else if g = -3 then (if a < b then 1 else 0) else if g = -4 then (if a = b then 1 else 0)
  else if g = -5 then (if b < a then 1 else 0) else if g = -6 then a + b else if g = -7 then a - b else if g = -8 then a * b else if b = 0 then 0 else a / b
/-- one sign of a text, over how many stand on the stack, and the stack -/
def sgS (x y z v : Int32) (q : Nat × FA) : Nat × FA :=
  if 0 ≤ v then (q.1 + 1, upd q.2 q.1 (if v < 10000 then v else if v = 10000 then x else if v = 10001 then y else z))
  else if v = -10 then (q.1, upd q.2 (q.1 - 1) (if q.2 (q.1 - 1) = 0 then 1 else 0))
  else (q.1 - 1, upd q.2 (q.1 - 2) (twoF v (q.2 (q.1 - 2)) (q.2 (q.1 - 1))))
def runS (x y z : Int32) (c : FA) : Nat → Nat × FA
  | 0 => (0, fun _ => 0)
  | n + 1 => sgS x y z (c n) (runS x y z c n)
/-- how many stand on the stack behind n signs -/
def depS (c : FA) : Nat → Nat
  | 0 => 0
  | n + 1 => if 0 ≤ c n then depS c n + 1 else if c n = -10 then depS c n else depS c n - 1
theorem runS_1 {x y z : Int32} {c : FA} {n : Nat} : (runS x y z c n).1 = depS c n := by
  induction n with
  | zero => rfl
  | succ n ih =>
    show (sgS x y z (c n) (runS x y z c n)).1 = _
    unfold sgS depS
    by_cases h : 0 ≤ c n
    · simp only [if_pos h, ih]
    · by_cases h2 : c n = -10
      · simp only [if_neg h, if_pos h2, ih]
      · simp only [if_neg h, if_neg h2, ih]
/-- a well made text of n signs, with so many names -/
def okS (c : FA) (nm n : Nat) : Prop := 1 ≤ n ∧ n ≤ 96 ∧ 1 ≤ depS c n ∧ ∀ k, k < n → (isBd (10000 + nm) (c k) ∨ (c k = -10 ∧ 1 ≤ depS c k) ∨ (∃ j, 1 ≤ j ∧ j < 10 ∧ c k = - nI j ∧ 2 ≤ depS c k))
def ctx (f : FA) (t : Nat) : FA := fun k => f (114 + 96 * t + k)
def lenF (f : FA) (t : Nat) : Nat := (irem (f (86 + 2 * t)) 1000).toNatClampNeg
def worthT (f : FA) (t : Nat) (x y z : Int32) : Int32 := (runS x y z (ctx f t) (lenF f t)).2 0
/-- a text of the flat row is well made -/
def txOk (f : FA) (t : Nat) : Prop := ∃ ky, ky < 3 ∧ f (86 + 2 * t) = nI (1000 * ky + lenF f t) ∧ okS (ctx f t) (if ky = 0 then 3 else 2) (lenF f t)
def hoursF (f : FA) (p : Nat) : Int32 := if countsF f 0 (cT f) < 0 then 1 else clamp (worthT f (countsF f 0 (cT f)).toNatClampNeg (f (52 + 4 * p)) (f 2) (thereF f (f (50 + 4 * p)) (cP f))) 0 9
def pcnt : Nat → Nat → Nat
  | 0, _ => 0
  | n + 1, m => pcnt n m + (if m.testBit n then 1 else 0)
def wideB (f : FA) (b : Nat) : Int32 := wideI (f (10 + 4 * b))
/-- the first bed with room in a town, from bed b on, of n -/
def freeF (f : FA) (g : Nat → Nat) (town : Int32) : Nat → Nat → Int32
  | _, 0 => -1
  | b, n + 1 => if f (11 + 4 * b) = town ∧ nI (pcnt 9 (g b)) < wideB f b then nI b else freeF f g town (b + 1) n
def bedF (f : FA) (g : Nat → Nat) (p : Nat) : Int32 := if hoursF f p = 0 then -1 else freeF f g (f (50 + 4 * p)) 0 (cB f)
def updN (g : Nat → Nat) (i v : Nat) : Nat → Nat := fun j => if j = i then v else g j
def lieF (s : FA × (Nat → Nat)) (p : Nat) : FA × (Nat → Nat) :=
  if s.1 (53 + 4 * p) = 0 then
    (if bedF s.1 s.2 p < 0 then (upd (upd s.1 6 (s.1 6 + 1)) (52 + 4 * p) (clamp (s.1 (52 + 4 * p) + 1) 0 9), s.2)
     else (s.1, updN s.2 (bedF s.1 s.2 p).toNatClampNeg (s.2 (bedF s.1 s.2 p).toNatClampNeg ||| 2 ^ p)))
  else s
def liesF (f : FA) : Nat → FA × (Nat → Nat)
  | 0 => (f, fun _ => 0)
  | p + 1 => lieF (liesF f p) p
def takesF (f : FA) (b : Nat) (many : Int32) : Int32 := takesI (f (10 + 4 * b)) (f (11 + 4 * b)) (f (12 + 4 * b)) (f (13 + 4 * b)) many (f 2)
/-- those of a set, of the first n, wake in a town -/
def wakeP (set : Nat) (town gone : Int32) (f : FA) : Nat → FA
  | 0 => f
  | n + 1 => if set.testBit n then upd (upd (upd (wakeP set town gone f n) (50 + 4 * n) town) (52 + 4 * n) 0) (53 + 4 * n) gone else wakeP set town gone f n
def wakeB (g : Nat → Nat) (f : FA) (b : Nat) : FA :=
  let many := nI (pcnt 9 (g b))
  let f1 := wakeP (g b) (takesF f b many) (if f (10 + 4 * b) = 5 then 1 else 0) f (cP f)
  let f2 := upd f1 5 (f1 5 + many)
  let f3 := upd f2 7 (f2 7 + (if f (10 + 4 * b) = 5 then many else 0))
  if 0 < many ∧ f (10 + 4 * b) = 3 then upd (upd f3 (11 + 4 * b) (f (12 + 4 * b))) (12 + 4 * b) (f (11 + 4 * b)) else f3
def wakeF (g : Nat → Nat) (f : FA) : Nat → FA
  | 0 => f
  | b + 1 => wakeB g (wakeF g f b) b
def carryF (f : FA) : FA :=
  let f1 := drawF f
  if irem (drawV f) 100 < f1 3 ∧ 0 < f1 1 then
    let f2 := drawF f1
    let b := (irem (drawV f1) (f1 1)).toNatClampNeg
    let f3 := drawF f2
    let f4 := upd f3 (11 + 4 * b) (irem (drawV f2) 8)
    upd f4 8 (f4 8 + 1)
  else f1
def nightF (f : FA) : FA :=
  let s := liesF f (cP f)
  let f1 := carryF (wakeF s.2 s.1 (cB f))
  upd f1 2 (f1 2 + 1)
def nightsF (f : FA) : Nat → FA
  | 0 => f
  | n + 1 => nightF (nightsF f n)
/-- a land of the class shows a flat row, below the counts -/
def LR (M : Mem) (l : Nat) (f : FA) : Prop :=
  (M 1 l 0 2 = f 1 ∧ M 1 l 0 10 = f 2 ∧ M 1 l 0 5 = f 3 ∧ M 1 l 0 4 = f 4 ∧ M 1 l 0 6 = f 5 ∧ M 1 l 0 7 = f 6 ∧ M 1 l 0 8 = f 7 ∧ M 1 l 0 9 = f 8 ∧ M 1 l 0 12 = f 9 ∧ M 1 l 0 11 = f 0) ∧
  (∀ b, b < cB f → M 3 l b 0 = f (10 + 4 * b) ∧ M 3 l b 1 = f (11 + 4 * b) ∧ M 3 l b 2 = f (12 + 4 * b) ∧ M 3 l b 3 = f (13 + 4 * b)) ∧
  (∀ p, p < cP f → M 5 l p 0 = f (50 + 4 * p) ∧ M 5 l p 1 = f (51 + 4 * p) ∧ M 5 l p 2 = f (52 + 4 * p) ∧ M 5 l p 3 = f (53 + 4 * p))
/-- with counts in range -/
def LL (M : Mem) (l : Nat) (f : FA) : Prop := CN f ∧ LR M l f
section LLs
variable {M : Mem} {l : Nat} {f : FA}
theorem LL.bc (h : LL M l f) : M 1 l 0 2 = nI (cB f) := h.2.1.1.trans h.1.1
theorem LL.pc (h : LL M l f) : M 1 l 0 4 = nI (cP f) := h.2.1.2.2.2.1.trans h.1.2.2.1
theorem LL.tc (h : LL M l f) : M 1 l 0 12 = nI (cT f) := h.2.1.2.2.2.2.2.2.2.2.1.trans h.1.2.2.2.2.1
theorem LL.b10 (h : LL M l f) : cB f ≤ 10 := h.1.2.1
theorem LL.p9 (h : LL M l f) : cP f ≤ 9 := h.1.2.2.2.1
theorem LL.t14 (h : LL M l f) : cT f ≤ 14 := h.1.2.2.2.2.2
theorem LL.night (h : LL M l f) : M 1 l 0 10 = f 2 := h.2.1.2.1
theorem LL.carry (h : LL M l f) : M 1 l 0 5 = f 3 := h.2.1.2.2.1
theorem LL.slept (h : LL M l f) : M 1 l 0 6 = f 5 := h.2.1.2.2.2.2.1
theorem LL.awake (h : LL M l f) : M 1 l 0 7 = f 6 := h.2.1.2.2.2.2.2.1
theorem LL.lost (h : LL M l f) : M 1 l 0 8 = f 7 := h.2.1.2.2.2.2.2.2.1
theorem LL.carried (h : LL M l f) : M 1 l 0 9 = f 8 := h.2.1.2.2.2.2.2.2.2.1
theorem LL.z (h : LL M l f) : M 1 l 0 11 = f 0 := h.2.1.2.2.2.2.2.2.2.2.2
theorem LL.kind (h : LL M l f) {b : Nat} (hb : b < cB f) : M 3 l b 0 = f (10 + 4 * b) := (h.2.2.1 b hb).1
theorem LL.at (h : LL M l f) {b : Nat} (hb : b < cB f) : M 3 l b 1 = f (11 + 4 * b) := (h.2.2.1 b hb).2.1
theorem LL.to (h : LL M l f) {b : Nat} (hb : b < cB f) : M 3 l b 2 = f (12 + 4 * b) := (h.2.2.1 b hb).2.2.1
theorem LL.other (h : LL M l f) {b : Nat} (hb : b < cB f) : M 3 l b 3 = f (13 + 4 * b) := (h.2.2.1 b hb).2.2.2
theorem LL.town (h : LL M l f) {p : Nat} (hp : p < cP f) : M 5 l p 0 = f (50 + 4 * p) := (h.2.2.2 p hp).1
theorem LL.home (h : LL M l f) {p : Nat} (hp : p < cP f) : M 5 l p 1 = f (51 + 4 * p) := (h.2.2.2 p hp).2.1
theorem LL.tired (h : LL M l f) {p : Nat} (hp : p < cP f) : M 5 l p 2 = f (52 + 4 * p) := (h.2.2.2 p hp).2.2.1
theorem LL.gone (h : LL M l f) {p : Nat} (hp : p < cP f) : M 5 l p 3 = f (53 + 4 * p) := (h.2.2.2 p hp).2.2.2
end LLs
theorem mz_at {M : Mem} {k i j s : Nat} {v : Int32} : mu M k i j s v k i j s = v := by simp [mu, mr, upd]
theorem mz_sl {M : Mem} {k i j s t : Nat} {v : Int32} (h : t ≠ s) : mu M k i j s v k i j t = M k i j t := by simp [mu, mr, upd, h]
theorem mz_ne {M : Mem} {k i j s k' i' j' : Nat} {v : Int32} (h : ¬ (k' = k ∧ i' = i ∧ j' = j)) : mu M k i j s v k' i' j' = M k' i' j' := mr_ne h
theorem mz_k {M : Mem} {k i j s k' : Nat} {v : Int32} (h : k' ≠ k) : mu M k i j s v k' = M k' := mr_k h
end
section
-- 32.pure3: the class's small methods: beds, folk, lands' queries
theorem nlt_le {x y : Int32} (h : ¬ x < y) : y ≤ x := Int32.not_lt.mp h
theorem nle_lt {x y : Int32} (h : ¬ x ≤ y) : y < x := Int32.not_le.mp h
theorem mabs (x : Int32) : (if 0 ≤ x then x else 0 - x) = absI x := by
  unfold absI
  by_cases h : 0 ≤ x
  · rw [if_pos h, if_neg (Int32.not_lt.mpr h)]
  · rw [if_neg h, if_pos (nle_lt h), Int32.zero_sub]
theorem qv {Q : PQ} {M : Mem} {w v : Int32} (h : Q (some (.inl w)) M) (e : w = v) : Q (some (.inl v)) M := e ▸ h
theorem one_ne0 : ¬ (1 : Int32) = 0 := by decide
theorem i32_add0 (x : Int32) : x + 0 = x := Int32.add_zero x
theorem slv {S : CF} {pc : Nat} {lv lv' : LV} {st : List AV} {M : Mem} (h : S pc lv st M) (e : lv = lv') : S pc lv' st M := e ▸ h
section W3
variable {d l b p : Nat} {M : Mem} {Q : PQ} {f : FA}
theorem sp_wide (hd : 1 ≤ d) (hQ : Q (some (.inl (wideI (M 3 l b 0)))) M) : Td PR d 2 [.inr (3, l, b)] M Q := by
  obtain ⟨e, rfl⟩ : ∃ e, d = e + 1 := ⟨d - 1, by omega⟩
  refine td_X0_wide ?_
  intro S hS
  iterate 3 refine hS _ _ _ _ ?_
  refine And.intro (fun h4_2 => ?_) (fun h4_2 => ?_)
  · iterate 2 refine hS _ _ _ _ ?_
    refine qv hQ ?_
    simp_all [wideI]
  refine And.intro (fun h4_3 => ?_) (fun h4_3 => ?_)
  · iterate 2 refine hS _ _ _ _ ?_
    refine qv hQ ?_
    simp_all [wideI]
  refine And.intro (fun h4_4 => ?_) (fun h4_4 => ?_)
  · iterate 2 refine hS _ _ _ _ ?_
    refine qv hQ ?_
    simp_all [wideI]
  refine And.intro (fun h4_5 => ?_) (fun h4_5 => ?_)
  · iterate 2 refine hS _ _ _ _ ?_
    refine qv hQ ?_
    simp_all [wideI]
  iterate 2 refine hS _ _ _ _ ?_
  refine qv hQ ?_
  simp_all [wideI]
theorem sp_takes {m n : Int32} (hd : 1 ≤ d) (hQ : Q (some (.inl (takesI (M 3 l b 0) (M 3 l b 1) (M 3 l b 2) (M 3 l b 3) m n))) M) : Td PR d 3 [.inr (3, l, b), .inl m, .inl n] M Q := by
  obtain ⟨e, rfl⟩ : ∃ e, d = e + 1 := ⟨d - 1, by omega⟩
  refine td_X0_takes ?_
  intro S hS
  iterate 4 refine hS _ _ _ _ ?_
  refine And.intro (fun h5 => ?_) (fun h5 => ?_)
  · iterate 4 refine hS _ _ _ _ ?_
    refine And.intro (fun h23 => ?_) (fun h23 => ?_)
    · iterate 3 refine hS _ _ _ _ ?_
      refine qv hQ ?_
      simp_all [takesI]
    · iterate 3 refine hS _ _ _ _ ?_
      refine ⟨by decide, ?_⟩
      refine hS _ _ _ _ ?_
      refine And.intro (fun h29 => ?_) (fun h29 => ?_)
      · iterate 3 refine hS _ _ _ _ ?_
        refine qv hQ ?_
        simp_all [takesI]
      · iterate 3 refine hS _ _ _ _ ?_
        refine qv hQ ?_
        simp_all [takesI]
  · iterate 3 refine hS _ _ _ _ ?_
    refine And.intro (fun h10 => ?_) (fun h10 => ?_)
    · iterate 4 refine hS _ _ _ _ ?_
      refine And.intro (fun h23 => ?_) (fun h23 => ?_)
      · iterate 3 refine hS _ _ _ _ ?_
        refine qv hQ ?_
        simp_all [takesI]
      · iterate 3 refine hS _ _ _ _ ?_
        refine ⟨by decide, ?_⟩
        refine hS _ _ _ _ ?_
        refine And.intro (fun h29 => ?_) (fun h29 => ?_)
        · iterate 3 refine hS _ _ _ _ ?_
          refine qv hQ ?_
          simp_all [takesI]
        · iterate 3 refine hS _ _ _ _ ?_
          refine qv hQ ?_
          simp_all [takesI]
    · iterate 3 refine hS _ _ _ _ ?_
      refine qv hQ ?_
      simp_all [takesI]
theorem sp_leads (hd : 1 ≤ d) (hQ : Q (some (.inl (leadsI (M 3 l b 0) (M 3 l b 2) (M 3 l b 3)))) M) : Td PR d 4 [.inr (3, l, b)] M Q := by
  obtain ⟨e, rfl⟩ : ∃ e, d = e + 1 := ⟨d - 1, by omega⟩
  refine td_X0_leads ?_
  intro S hS
  iterate 4 refine hS _ _ _ _ ?_
  refine And.intro (fun h5 => ?_) (fun h5 => ?_)
  · iterate 5 refine hS _ _ _ _ ?_
    refine qv hQ ?_
    simp_all [leadsI]
  · iterate 11 refine hS _ _ _ _ ?_
    refine qv hQ ?_
    simp_all [leadsI]
theorem sp_worth (hd : 1 ≤ d) (hQ : Q (some (.inl (worthI (M 3 l b 0) (M 3 l b 1) (M 3 l b 2) (M 3 l b 3)))) M) : Td PR d 5 [.inr (3, l, b)] M Q := by
  obtain ⟨e, rfl⟩ : ∃ e, d = e + 1 := ⟨d - 1, by omega⟩
  refine td_X0_worth ?_
  intro S hS
  have hm := mabs (M 3 l b 1 - M 3 l b 2)
  iterate 6 refine hS _ _ _ _ ?_
  iterate 4 refine hS _ _ _ _ ?_
  refine And.intro (fun h17_1 => ?_) (fun h17_1 => ?_)
  · iterate 4 refine hS _ _ _ _ ?_
    refine qv hQ ?_
    unfold worthI
    rw [← hm]
    simp_all
  refine And.intro (fun h17_2 => ?_) (fun h17_2 => ?_)
  · iterate 4 refine hS _ _ _ _ ?_
    refine qv hQ ?_
    unfold worthI
    rw [← hm]
    simp_all
  refine And.intro (fun h17_3 => ?_) (fun h17_3 => ?_)
  · iterate 6 refine hS _ _ _ _ ?_
    refine qv hQ ?_
    unfold worthI
    rw [← hm]
    simp_all
  refine And.intro (fun h17_4 => ?_) (fun h17_4 => ?_)
  · iterate 7 refine hS _ _ _ _ ?_
    refine qv hQ ?_
    unfold worthI
    rw [← hm]
    simp_all
  refine And.intro (fun h17_5 => ?_) (fun h17_5 => ?_)
  · iterate 2 refine hS _ _ _ _ ?_
    refine qv hQ ?_
    unfold worthI
    rw [← hm]
    simp_all
  iterate 2 refine hS _ _ _ _ ?_
  refine qv hQ ?_
  unfold worthI
  rw [← hm]
  simp_all
theorem sp_isOf {o : Int32} (hd : 1 ≤ d) (hQ : Q (some (.inl (bI (undP (M 3 l b 0) o)))) M) : Td PR d 1 [.inr (3, l, b), .inl o] M Q := by
  obtain ⟨e, rfl⟩ : ∃ e, d = e + 1 := ⟨d - 1, by omega⟩
  refine td_X0_isOf ?_
  intro S hS
  iterate 3 refine hS _ _ _ _ ?_
  refine And.intro (fun h4_3 => ?_) (fun h4_3 => ?_)
  · iterate 3 refine hS _ _ _ _ ?_
    refine And.intro (fun h34 => ?_) (fun h34 => ?_)
    · iterate 3 refine hS _ _ _ _ ?_
      refine ⟨rfl, ?_⟩
      first | (refine qv hQ ?_; rw [bI_p]; simp_all [undP]; done) | (refine qv hQ ?_; rw [bI_n]; simp_all [undP]; done) | (refine qv hQ ?_; rw [bI_n]; intro z; simp_all [undP]; done)
    · iterate 3 refine hS _ _ _ _ ?_
      refine And.intro (fun h39 => ?_) (fun h39 => ?_)
      · iterate 3 refine hS _ _ _ _ ?_
        refine ⟨rfl, ?_⟩
        first | (refine qv hQ ?_; rw [bI_p]; simp_all [undP]; done) | (refine qv hQ ?_; rw [bI_n]; simp_all [undP]; done) | (refine qv hQ ?_; rw [bI_n]; intro z; simp_all [undP]; done)
      · iterate 2 refine hS _ _ _ _ ?_
        refine And.intro (fun h43 => ?_) (fun h43 => ?_)
        · iterate 2 refine hS _ _ _ _ ?_
          refine ⟨rfl, ?_⟩
          first | (refine qv hQ ?_; rw [bI_p]; simp_all [undP]; done) | (refine qv hQ ?_; rw [bI_n]; simp_all [undP]; done) | (refine qv hQ ?_; rw [bI_n]; intro z; simp_all [undP]; done)
        · iterate 3 refine hS _ _ _ _ ?_
          refine ⟨rfl, ?_⟩
          first | (refine qv hQ ?_; rw [bI_p]; simp_all [undP]; done) | (refine qv hQ ?_; rw [bI_n]; simp_all [undP]; done) | (refine qv hQ ?_; rw [bI_n]; intro z; simp_all [undP]; done)
  refine And.intro (fun h4_4 => ?_) (fun h4_4 => ?_)
  · iterate 3 refine hS _ _ _ _ ?_
    refine And.intro (fun h54 => ?_) (fun h54 => ?_)
    · iterate 3 refine hS _ _ _ _ ?_
      refine ⟨rfl, ?_⟩
      first | (refine qv hQ ?_; rw [bI_p]; simp_all [undP]; done) | (refine qv hQ ?_; rw [bI_n]; simp_all [undP]; done) | (refine qv hQ ?_; rw [bI_n]; intro z; simp_all [undP]; done)
    · iterate 3 refine hS _ _ _ _ ?_
      refine And.intro (fun h59 => ?_) (fun h59 => ?_)
      · iterate 3 refine hS _ _ _ _ ?_
        refine ⟨rfl, ?_⟩
        first | (refine qv hQ ?_; rw [bI_p]; simp_all [undP]; done) | (refine qv hQ ?_; rw [bI_n]; simp_all [undP]; done) | (refine qv hQ ?_; rw [bI_n]; intro z; simp_all [undP]; done)
      · iterate 2 refine hS _ _ _ _ ?_
        refine And.intro (fun h63 => ?_) (fun h63 => ?_)
        · iterate 2 refine hS _ _ _ _ ?_
          refine ⟨rfl, ?_⟩
          first | (refine qv hQ ?_; rw [bI_p]; simp_all [undP]; done) | (refine qv hQ ?_; rw [bI_n]; simp_all [undP]; done) | (refine qv hQ ?_; rw [bI_n]; intro z; simp_all [undP]; done)
        · iterate 3 refine hS _ _ _ _ ?_
          refine ⟨rfl, ?_⟩
          first | (refine qv hQ ?_; rw [bI_p]; simp_all [undP]; done) | (refine qv hQ ?_; rw [bI_n]; simp_all [undP]; done) | (refine qv hQ ?_; rw [bI_n]; intro z; simp_all [undP]; done)
  iterate 4 refine hS _ _ _ _ ?_
  refine And.intro (fun h77 => ?_) (fun h77 => ?_)
  · iterate 3 refine hS _ _ _ _ ?_
    refine ⟨rfl, ?_⟩
    first | (refine qv hQ ?_; rw [bI_p]; simp_all [undP]; done) | (refine qv hQ ?_; rw [bI_n]; simp_all [undP]; done) | (refine qv hQ ?_; rw [bI_n]; intro z; simp_all [undP]; done)
  · iterate 2 refine hS _ _ _ _ ?_
    refine And.intro (fun h81 => ?_) (fun h81 => ?_)
    · iterate 2 refine hS _ _ _ _ ?_
      refine ⟨rfl, ?_⟩
      first | (refine qv hQ ?_; rw [bI_p]; simp_all [undP]; done) | (refine qv hQ ?_; rw [bI_n]; simp_all [undP]; done) | (refine qv hQ ?_; rw [bI_n]; intro z; simp_all [undP]; done)
    · iterate 3 refine hS _ _ _ _ ?_
      refine ⟨rfl, ?_⟩
      first | (refine qv hQ ?_; rw [bI_p]; simp_all [undP]; done) | (refine qv hQ ?_; rw [bI_n]; simp_all [undP]; done) | (refine qv hQ ?_; rw [bI_n]; intro z; simp_all [undP]; done)
theorem sp_swings (hd : 1 ≤ d) (hQ : Q none (mu (mu M 3 l b 1 (M 3 l b 2)) 3 l b 2 (M 3 l b 1))) : Td PR d 6 [.inr (3, l, b)] M Q := by
  obtain ⟨e, rfl⟩ : ∃ e, d = e + 1 := ⟨d - 1, by omega⟩
  refine td_X0_swings ?_
  intro S hS
  iterate 11 refine hS _ _ _ _ ?_
  exact hQ
theorem sp_bedAs {l' b' : Nat} (hd : 1 ≤ d) (hne : ¬ (l' = l ∧ b' = b)) (hQ : ∀ M', M' 3 l b 0 = M 3 l' b' 0 → M' 3 l b 1 = M 3 l' b' 1 → M' 3 l b 2 = M 3 l' b' 2 → M' 3 l b 3 = M 3 l' b' 3 → (∀ k i j, ¬ (k = 3 ∧ i = l ∧ j = b) → M' k i j = M k i j) → Q none M') : Td PR d 0 [.inr (3, l, b), .inr (3, l', b')] M Q := by
  have hne2 : ¬ (3 = 3 ∧ l' = l ∧ b' = b) := fun z => hne z.2
  obtain ⟨e, rfl⟩ : ∃ e, d = e + 1 := ⟨d - 1, by omega⟩
  refine td_X0_becomeAs ?_
  intro S hS
  iterate 17 refine hS _ _ _ _ ?_
  refine hQ _ ?_ ?_ ?_ ?_ ?_
  · simp [mu, mr, upd]
  · simp [mu, mr, upd, hne]
  · simp [mu, mr, upd, hne]
  · simp [mu, mr, upd, hne]
  · intro k i j z; simp only [mu]; rw [mr_ne z, mr_ne z, mr_ne z, mr_ne z]
theorem sp_oneAs {l' b' : Nat} (hd : 1 ≤ d) (hne : ¬ (l' = l ∧ b' = b)) (hQ : ∀ M', M' 5 l b 0 = M 5 l' b' 0 → M' 5 l b 1 = M 5 l' b' 1 → M' 5 l b 2 = M 5 l' b' 2 → M' 5 l b 3 = M 5 l' b' 3 → (∀ k i j, ¬ (k = 5 ∧ i = l ∧ j = b) → M' k i j = M k i j) → Q none M') : Td PR d 30 [.inr (5, l, b), .inr (5, l', b')] M Q := by
  obtain ⟨e, rfl⟩ : ∃ e, d = e + 1 := ⟨d - 1, by omega⟩
  refine td_X3_becomeAs ?_
  intro S hS
  iterate 17 refine hS _ _ _ _ ?_
  refine hQ _ ?_ ?_ ?_ ?_ ?_
  · simp [mu, mr, upd]
  · simp [mu, mr, upd, hne]
  · simp [mu, mr, upd, hne]
  · simp [mu, mr, upd, hne]
  · intro k i j z; simp only [mu]; rw [mr_ne z, mr_ne z, mr_ne z, mr_ne z]
theorem sp_draw (hd : 1 ≤ d) (hQ : Q (some (.inl (ushr8 (M 1 l 0 11 * 1103515245 + 12345)))) (mu M 1 l 0 11 (M 1 l 0 11 * 1103515245 + 12345))) : Td PR d 10 [.inr (1, l, 0)] M Q := by
  obtain ⟨e, rfl⟩ : ∃ e, d = e + 1 := ⟨d - 1, by omega⟩
  refine td_X1_draw ?_
  intro S hS
  have e1 : mu M 1 l 0 11 (M 1 l 0 11 * 1103515245 + 12345) 1 l 0 11 = M 1 l 0 11 * 1103515245 + 12345 := mz_at
  iterate 13 refine hS _ _ _ _ ?_
  exact qv hQ (congrArg ushr8 e1.symm)
theorem sp_presentIn {town : Int32} (hd : 1 ≤ d) (hL : LL M l f) (hQ : Q (some (.inl (thereF f town (cP f)))) M) : Td PR d 13 [.inr (1, l, 0), .inl town] M Q := by
  obtain ⟨e, rfl⟩ : ∃ e, d = e + 1 := ⟨d - 1, by omega⟩
  refine td_X1_presentIn ?_
  intro S hS
  have hp := hL.p9
  iterate 4 refine hS _ _ _ _ ?_
  refine lp_up (T := fun i => S 4 [some (.inr (1, l, 0)), some (.inl town), some (.inl (thereF f town i)), some (.inl (nI i))] [] M) (N := cP f) ?_ ?_ 0 (Nat.zero_le _)
  · iterate 4 refine hS _ _ _ _ ?_
    refine And.intro (fun h9 => ?_) (fun h9 => ?_)
    · iterate 2 refine hS _ _ _ _ ?_
      exact hQ
    · exact (lp_x hL.pc h9).elim
  · intro i hi ih
    rw [nI_succ] at ih
    have e0 := hL.town hi
    have e3 := hL.gone hi
    iterate 4 refine hS _ _ _ _ ?_
    refine And.intro (fun h9 => ?_) (fun h9 => ?_)
    · exact (lp_s hL.pc hi (by omega) h9).elim
    · iterate 4 refine hS _ _ _ _ ?_
      refine ⟨(by first | assumption | exact vp_in_nI (by simp only [alen]; omega) (by decide)), ?_⟩
      try rw [nI_clamp (by omega)]
      iterate 3 refine hS _ _ _ _ ?_
      refine And.intro (fun h22 => ?_) (fun h22 => ?_)
      · iterate 2 refine hS _ _ _ _ ?_
        refine slv ih ?_
        simp_all [thereF]
      · iterate 4 refine hS _ _ _ _ ?_
        refine ⟨(by first | assumption | exact vp_in_nI (by simp only [alen]; omega) (by decide)), ?_⟩
        try rw [nI_clamp (by omega)]
        iterate 2 refine hS _ _ _ _ ?_
        refine And.intro (fun h34 => ?_) (fun h34 => ?_)
        · iterate 2 refine hS _ _ _ _ ?_
          refine slv ih ?_
          simp_all [thereF]
        · iterate 3 refine hS _ _ _ _ ?_
          refine slv ih ?_
          simp_all [thereF]
end W3
end
section
-- 33.pure4: texts: what they give, in the class
def phi (v : Int32) : Int32 := if 0 ≤ v then (if v < 10000 then v else 9999 - v) else if v = -1 then -124 else if v = -2 then -38 else if v = -3 then -60 else if v = -4 then -61 else if v = -5 then -62 else if v = -6 then -43 else if v = -7 then -45 else if v = -8 then -42 else if v = -9 then -47 else -33
/-- the class's texts are those of a flat row, below its count -/
def TR (M : Mem) (f : FA) : Prop := ∀ t, t < cT f → M 9 t 0 0 = f (86 + 2 * t) / 1000 ∧ M 9 t 0 2 = irem (f (86 + 2 * t)) 1000 ∧ M 9 t 0 3 = f (87 + 2 * t) ∧ ∀ k, k < lenF f t → M 10 t 0 k = phi (f (114 + 96 * t + k))
def TX (M : Mem) (f : FA) : Prop := cT f ≤ 14 ∧ f 9 = nI (cT f) ∧ TR M f ∧ ∀ t, t < cT f → txOk f t
def TXE (f f' : FA) : Prop := f' 9 = f 9 ∧ ∀ k, 86 ≤ k → f' k = f k
theorem TXE.rf {f : FA} : TXE f f := ⟨rfl, fun _ _ => rfl⟩
theorem TXE.tr {f g h : FA} (a : TXE f g) (b : TXE g h) : TXE f h := ⟨b.1.trans a.1, fun k hk => (b.2 k hk).trans (a.2 k hk)⟩
theorem TXE.ct0 {f f' : FA} (h : TXE f f') : cT f' = cT f := by unfold cT; rw [h.1]
theorem TXE.cx0 {f f' : FA} (h : TXE f f') (t : Nat) : ctx f' t = ctx f t := by funext k; unfold ctx; exact h.2 _ (by omega)
theorem TXE.len0 {f f' : FA} (h : TXE f f') (t : Nat) : lenF f' t = lenF f t := by unfold lenF; rw [h.2 _ (by omega)]
theorem TXE.ct {f f' : FA} (h : TXE f f') (ky : Int32) : ∀ n, countsF f' ky n = countsF f ky n := by
  intro n
  induction n with
  | zero => rfl
  | succ n ih => unfold countsF; rw [h.2 _ (by omega), ih]
theorem TXE.worth {f f' : FA} (h : TXE f f') {t : Nat} {x y z : Int32} : worthT f' t x y z = worthT f t x y z := by unfold worthT; rw [h.cx0, h.len0]
theorem TX.cg {M M' : Mem} {f f' : FA} (h : TX M f) (e : TXE f f') (h9 : M' 9 = M 9) (h10 : M' 10 = M 10) : TX M' f' := by
  obtain ⟨a, a2, b, c⟩ := h
  refine ⟨by rw [e.ct0]; exact a, by rw [e.1, e.ct0]; exact a2, ?_, ?_⟩
  · intro t ht
    rw [e.ct0] at ht
    rw [h9, h10, e.2 _ (by omega), e.2 _ (by omega), e.len0]
    obtain ⟨q1, q2, q3, q4⟩ := b t ht
    refine ⟨q1, q2, q3, fun k hk => ?_⟩
    rw [e.2 _ (by omega)]
    exact q4 k hk
  · intro t ht
    rw [e.ct0] at ht
    obtain ⟨ky, q1, q2, q3⟩ := c t ht
    unfold txOk
    rw [e.len0, e.cx0, e.2 _ (by omega)]
    exact ⟨ky, q1, q2, q3⟩
theorem nI_div1000 : ∀ ky, ky < 3 → ∀ n, n < 97 → nI (1000 * ky + n) / 1000 = nI ky := by decide +kernel
theorem nI_rem1000 : ∀ ky, ky < 3 → ∀ n, n < 97 → irem (nI (1000 * ky + n)) 1000 = nI n := by decide +kernel
theorem txOk.len {f : FA} {t : Nat} (h : txOk f t) : irem (f (86 + 2 * t)) 1000 = nI (lenF f t) ∧ lenF f t ≤ 96 := by
  obtain ⟨ky, h1, h2, h3⟩ := h
  have h4 : lenF f t < 97 := by have := h3.2.1; omega
  exact ⟨by rw [h2]; exact nI_rem1000 ky h1 _ h4, by omega⟩
theorem lt0_n1 : ((-1 : Int32) < 0) := by decide
theorem clamp_mm (v : Int32) : (if (if (9 : Int32) < v then 9 else v) < 0 then 0 else (if (9 : Int32) < v then 9 else v)) = clamp v 0 9 := by
  unfold clamp
  by_cases h : v < 0
  · have h9 : ¬ (9 : Int32) < v := fun z => absurd (Int32.lt_trans z h) (by decide)
    simp only [if_neg h9, if_pos h]
  · by_cases h9 : (9 : Int32) < v
    · simp only [if_pos h9, if_neg h]
      rfl
    · simp only [if_neg h9, if_neg h]
theorem lt_max (x y : Int32) : (if x < y then y else x) = (if y ≤ x then x else y) := by
  by_cases h : x < y
  · rw [if_pos h, if_neg (Int32.not_le.mpr h)]
  · rw [if_neg h, if_pos (Int32.not_lt.mp h)]
theorem countsF_s {f : FA} {ky : Int32} {n : Nat} : countsF f ky (n + 1) = if f (86 + 2 * n) / 1000 = ky then nI n else countsF f ky n := rfl
section W4
variable {d l b p : Nat} {M : Mem} {Q : PQ} {f : FA}
theorem sp_counting {ky : Int32} (hd : 1 ≤ d) (hT : TX M f) (hQ : Q (some (.inl (countsF f ky (cT f)))) M) : Td PR d 27 [.inr (6, 0, 0), .inl ky, .inl (nI (cT f))] M Q := by
  obtain ⟨e, rfl⟩ : ∃ e, d = e + 1 := ⟨d - 1, by omega⟩
  refine td_X2_counting ?_
  intro S hS
  have h14 := hT.1
  have lp : ∀ n, n ≤ cT f → countsF f ky n = countsF f ky (cT f) → S 4 [some (.inr (6, 0, 0)), some (.inl ky), some (.inl (nI (cT f))), some (.inl (nI n - 1))] [] M := by
    intro n
    induction n with
    | zero =>
      intro _ he
      iterate 2 refine hS _ _ _ _ ?_
      refine And.intro (fun h5 => ?_) (fun h5 => ?_)
      · iterate 2 refine hS _ _ _ _ ?_
        exact qv hQ he.symm
      · exact absurd h5 (by decide)
    | succ n ih =>
      intro hn he
      rw [nI_pred]
      have e0 := (hT.2.2.1 n (by omega)).1
      iterate 2 refine hS _ _ _ _ ?_
      refine And.intro (fun h5 => ?_) (fun h5 => ?_)
      · exact absurd h5 (nI_pos (by omega))
      · iterate 4 refine hS _ _ _ _ ?_
        refine ⟨(by first | assumption | exact vp_in_nI (by simp only [alen]; omega) (by decide)), ?_⟩
        try rw [nI_clamp (by omega)]
        iterate 3 refine hS _ _ _ _ ?_
        refine And.intro (fun h18 => ?_) (fun h18 => ?_)
        · have e9 : countsF f ky (n + 1) = countsF f ky n := by rw [countsF_s]; exact if_neg (e0 ▸ h18)
          iterate 2 refine hS _ _ _ _ ?_
          have ih2 := ih (by omega) (e9.symm.trans he)
          rw [Int32.sub_eq_add_neg] at ih2
          exact ih2
        · iterate 2 refine hS _ _ _ _ ?_
          refine qv hQ ?_
          rw [← he, countsF_s]
          exact (if_pos (e0 ▸ h18))
  iterate 4 refine hS _ _ _ _ ?_
  exact lp _ (Nat.le_refl _) rfl
theorem sp_lawOf {ky : Int32} (hd : 2 ≤ d) (hL : LL M l f) (hT : TX M f) (hQ : Q (some (.inl (countsF f ky (cT f)))) M) : Td PR d 11 [.inr (1, l, 0), .inl ky] M Q := by
  obtain ⟨e, rfl⟩ : ∃ e, d = e + 1 := ⟨d - 1, by omega⟩
  refine td_X1_lawOf ?_
  intro S hS
  have e := hL.tc
  iterate 6 refine hS _ _ _ _ ?_
  show Td PR _ 27 [.inr (6, 0, 0), .inl ky, .inl (M 1 l 0 12)] M _
  rw [e]
  refine sp_counting (by omega) hT ?_
  refine hS _ _ _ _ ?_
  exact hQ
theorem sp_joined_1 {x y : Int32} (hd : 1 ≤ d) (hQ : Q (some (.inl (twoF (-1) x y))) M) : Td PR d 29 [.inl 124, .inl x, .inl y] M Q := by
  obtain ⟨e, rfl⟩ : ∃ e, d = e + 1 := ⟨d - 1, by omega⟩
  refine td_X2_joined ?_
  intro S hS
  iterate 2 refine hS _ _ _ _ ?_
  refine And.intro (fun h => absurd h (by decide)) (fun _ => ?_)
  refine And.intro (fun h => absurd h (by decide)) (fun _ => ?_)
  refine And.intro (fun h => absurd h (by decide)) (fun _ => ?_)
  refine And.intro (fun h => absurd h (by decide)) (fun _ => ?_)
  refine And.intro (fun h => absurd h (by decide)) (fun _ => ?_)
  refine And.intro (fun h => absurd h (by decide)) (fun _ => ?_)
  refine And.intro (fun h => absurd h (by decide)) (fun _ => ?_)
  refine And.intro (fun h => absurd h (by decide)) (fun _ => ?_)
  refine And.intro (fun h => absurd h (by decide)) (fun _ => ?_)
  refine And.intro (fun h => absurd h (by decide)) (fun _ => ?_)
  refine And.intro (fun h => absurd h (by decide)) (fun _ => ?_)
  refine And.intro (fun h => absurd h (by decide)) (fun _ => ?_)
  refine And.intro (fun h => absurd h (by decide)) (fun _ => ?_)
  refine And.intro (fun h => absurd h (by decide)) (fun _ => ?_)
  refine And.intro (fun h => absurd h (by decide)) (fun _ => ?_)
  refine And.intro (fun h => absurd h (by decide)) (fun _ => ?_)
  refine And.intro (fun h => absurd h (by decide)) (fun _ => ?_)
  refine And.intro (fun h => absurd h (by decide)) (fun _ => ?_)
  refine And.intro (fun h => absurd h (by decide)) (fun _ => ?_)
  refine And.intro (fun h => absurd h (by decide)) (fun _ => ?_)
  refine And.intro (fun h => absurd h (by decide)) (fun _ => ?_)
  refine And.intro (fun h => absurd h (by decide)) (fun _ => ?_)
  refine And.intro (fun h => absurd h (by decide)) (fun _ => ?_)
  refine And.intro (fun h => absurd h (by decide)) (fun _ => ?_)
  refine And.intro (fun h => absurd h (by decide)) (fun _ => ?_)
  iterate 2 refine hS _ _ _ _ ?_
  refine And.intro (fun h188 => ?_) (fun h188 => ?_)
  · iterate 3 refine hS _ _ _ _ ?_
    refine qv hQ ?_
    simp_all [twoF]
  · iterate 2 refine hS _ _ _ _ ?_
    refine And.intro (fun h192 => ?_) (fun h192 => ?_)
    · iterate 2 refine hS _ _ _ _ ?_
      refine qv hQ ?_
      simp_all [twoF]
    · iterate 3 refine hS _ _ _ _ ?_
      refine qv hQ ?_
      simp_all [twoF]
theorem sp_joined_2 {x y : Int32} (hd : 1 ≤ d) (hQ : Q (some (.inl (twoF (-2) x y))) M) : Td PR d 29 [.inl 38, .inl x, .inl y] M Q := by
  obtain ⟨e, rfl⟩ : ∃ e, d = e + 1 := ⟨d - 1, by omega⟩
  refine td_X2_joined ?_
  intro S hS
  iterate 2 refine hS _ _ _ _ ?_
  refine And.intro (fun _ => ?_) (fun h => absurd rfl h)
  iterate 2 refine hS _ _ _ _ ?_
  refine And.intro (fun h174 => ?_) (fun h174 => ?_)
  · iterate 2 refine hS _ _ _ _ ?_
    refine qv hQ ?_
    simp_all [twoF]
  · iterate 2 refine hS _ _ _ _ ?_
    refine And.intro (fun h178 => ?_) (fun h178 => ?_)
    · iterate 2 refine hS _ _ _ _ ?_
      refine qv hQ ?_
      simp_all [twoF]
    · iterate 3 refine hS _ _ _ _ ?_
      refine qv hQ ?_
      simp_all [twoF]
theorem sp_joined_3 {x y : Int32} (hd : 1 ≤ d) (hQ : Q (some (.inl (twoF (-3) x y))) M) : Td PR d 29 [.inl 60, .inl x, .inl y] M Q := by
  obtain ⟨e, rfl⟩ : ∃ e, d = e + 1 := ⟨d - 1, by omega⟩
  refine td_X2_joined ?_
  intro S hS
  iterate 2 refine hS _ _ _ _ ?_
  refine And.intro (fun h => absurd h (by decide)) (fun _ => ?_)
  refine And.intro (fun h => absurd h (by decide)) (fun _ => ?_)
  refine And.intro (fun h => absurd h (by decide)) (fun _ => ?_)
  refine And.intro (fun h => absurd h (by decide)) (fun _ => ?_)
  refine And.intro (fun h => absurd h (by decide)) (fun _ => ?_)
  refine And.intro (fun h => absurd h (by decide)) (fun _ => ?_)
  refine And.intro (fun h => absurd h (by decide)) (fun _ => ?_)
  refine And.intro (fun h => absurd h (by decide)) (fun _ => ?_)
  refine And.intro (fun h => absurd h (by decide)) (fun _ => ?_)
  refine And.intro (fun h => absurd h (by decide)) (fun _ => ?_)
  refine And.intro (fun h => absurd h (by decide)) (fun _ => ?_)
  refine And.intro (fun h => absurd h (by decide)) (fun _ => ?_)
  refine And.intro (fun h => absurd h (by decide)) (fun _ => ?_)
  refine And.intro (fun h => absurd h (by decide)) (fun _ => ?_)
  refine And.intro (fun h => absurd h (by decide)) (fun _ => ?_)
  refine And.intro (fun h => absurd h (by decide)) (fun _ => ?_)
  refine And.intro (fun h => absurd h (by decide)) (fun _ => ?_)
  refine And.intro (fun h => absurd h (by decide)) (fun _ => ?_)
  refine And.intro (fun h => absurd h (by decide)) (fun _ => ?_)
  refine And.intro (fun h => absurd h (by decide)) (fun _ => ?_)
  refine And.intro (fun h => absurd h (by decide)) (fun _ => ?_)
  refine And.intro (fun h => absurd h (by decide)) (fun _ => ?_)
  refine And.intro (fun _ => ?_) (fun h => absurd rfl h)
  iterate 3 refine hS _ _ _ _ ?_
  refine And.intro (fun h142 => ?_) (fun h142 => ?_)
  · iterate 2 refine hS _ _ _ _ ?_
    refine qv hQ ?_
    simp_all [twoF]
  · iterate 3 refine hS _ _ _ _ ?_
    refine qv hQ ?_
    simp_all [twoF]
theorem sp_joined_4 {x y : Int32} (hd : 1 ≤ d) (hQ : Q (some (.inl (twoF (-4) x y))) M) : Td PR d 29 [.inl 61, .inl x, .inl y] M Q := by
  obtain ⟨e, rfl⟩ : ∃ e, d = e + 1 := ⟨d - 1, by omega⟩
  refine td_X2_joined ?_
  intro S hS
  iterate 2 refine hS _ _ _ _ ?_
  refine And.intro (fun h => absurd h (by decide)) (fun _ => ?_)
  refine And.intro (fun h => absurd h (by decide)) (fun _ => ?_)
  refine And.intro (fun h => absurd h (by decide)) (fun _ => ?_)
  refine And.intro (fun h => absurd h (by decide)) (fun _ => ?_)
  refine And.intro (fun h => absurd h (by decide)) (fun _ => ?_)
  refine And.intro (fun h => absurd h (by decide)) (fun _ => ?_)
  refine And.intro (fun h => absurd h (by decide)) (fun _ => ?_)
  refine And.intro (fun h => absurd h (by decide)) (fun _ => ?_)
  refine And.intro (fun h => absurd h (by decide)) (fun _ => ?_)
  refine And.intro (fun h => absurd h (by decide)) (fun _ => ?_)
  refine And.intro (fun h => absurd h (by decide)) (fun _ => ?_)
  refine And.intro (fun h => absurd h (by decide)) (fun _ => ?_)
  refine And.intro (fun h => absurd h (by decide)) (fun _ => ?_)
  refine And.intro (fun h => absurd h (by decide)) (fun _ => ?_)
  refine And.intro (fun h => absurd h (by decide)) (fun _ => ?_)
  refine And.intro (fun h => absurd h (by decide)) (fun _ => ?_)
  refine And.intro (fun h => absurd h (by decide)) (fun _ => ?_)
  refine And.intro (fun h => absurd h (by decide)) (fun _ => ?_)
  refine And.intro (fun h => absurd h (by decide)) (fun _ => ?_)
  refine And.intro (fun h => absurd h (by decide)) (fun _ => ?_)
  refine And.intro (fun h => absurd h (by decide)) (fun _ => ?_)
  refine And.intro (fun h => absurd h (by decide)) (fun _ => ?_)
  refine And.intro (fun h => absurd h (by decide)) (fun _ => ?_)
  refine And.intro (fun _ => ?_) (fun h => absurd rfl h)
  iterate 3 refine hS _ _ _ _ ?_
  refine And.intro (fun h153 => ?_) (fun h153 => ?_)
  · iterate 2 refine hS _ _ _ _ ?_
    refine qv hQ ?_
    simp_all [twoF]
  · iterate 3 refine hS _ _ _ _ ?_
    refine qv hQ ?_
    simp_all [twoF]
theorem sp_joined_5 {x y : Int32} (hd : 1 ≤ d) (hQ : Q (some (.inl (twoF (-5) x y))) M) : Td PR d 29 [.inl 62, .inl x, .inl y] M Q := by
  obtain ⟨e, rfl⟩ : ∃ e, d = e + 1 := ⟨d - 1, by omega⟩
  refine td_X2_joined ?_
  intro S hS
  iterate 2 refine hS _ _ _ _ ?_
  refine And.intro (fun h => absurd h (by decide)) (fun _ => ?_)
  refine And.intro (fun h => absurd h (by decide)) (fun _ => ?_)
  refine And.intro (fun h => absurd h (by decide)) (fun _ => ?_)
  refine And.intro (fun h => absurd h (by decide)) (fun _ => ?_)
  refine And.intro (fun h => absurd h (by decide)) (fun _ => ?_)
  refine And.intro (fun h => absurd h (by decide)) (fun _ => ?_)
  refine And.intro (fun h => absurd h (by decide)) (fun _ => ?_)
  refine And.intro (fun h => absurd h (by decide)) (fun _ => ?_)
  refine And.intro (fun h => absurd h (by decide)) (fun _ => ?_)
  refine And.intro (fun h => absurd h (by decide)) (fun _ => ?_)
  refine And.intro (fun h => absurd h (by decide)) (fun _ => ?_)
  refine And.intro (fun h => absurd h (by decide)) (fun _ => ?_)
  refine And.intro (fun h => absurd h (by decide)) (fun _ => ?_)
  refine And.intro (fun h => absurd h (by decide)) (fun _ => ?_)
  refine And.intro (fun h => absurd h (by decide)) (fun _ => ?_)
  refine And.intro (fun h => absurd h (by decide)) (fun _ => ?_)
  refine And.intro (fun h => absurd h (by decide)) (fun _ => ?_)
  refine And.intro (fun h => absurd h (by decide)) (fun _ => ?_)
  refine And.intro (fun h => absurd h (by decide)) (fun _ => ?_)
  refine And.intro (fun h => absurd h (by decide)) (fun _ => ?_)
  refine And.intro (fun h => absurd h (by decide)) (fun _ => ?_)
  refine And.intro (fun h => absurd h (by decide)) (fun _ => ?_)
  refine And.intro (fun h => absurd h (by decide)) (fun _ => ?_)
  refine And.intro (fun h => absurd h (by decide)) (fun _ => ?_)
  refine And.intro (fun _ => ?_) (fun h => absurd rfl h)
  iterate 3 refine hS _ _ _ _ ?_
  refine And.intro (fun h164 => ?_) (fun h164 => ?_)
  · iterate 2 refine hS _ _ _ _ ?_
    refine qv hQ ?_
    simp_all [twoF]
  · iterate 3 refine hS _ _ _ _ ?_
    refine qv hQ ?_
    simp_all [twoF]
theorem sp_joined_6 {x y : Int32} (hd : 1 ≤ d) (hQ : Q (some (.inl (twoF (-6) x y))) M) : Td PR d 29 [.inl 43, .inl x, .inl y] M Q := by
  obtain ⟨e, rfl⟩ : ∃ e, d = e + 1 := ⟨d - 1, by omega⟩
  refine td_X2_joined ?_
  intro S hS
  iterate 2 refine hS _ _ _ _ ?_
  refine And.intro (fun h => absurd h (by decide)) (fun _ => ?_)
  refine And.intro (fun h => absurd h (by decide)) (fun _ => ?_)
  refine And.intro (fun h => absurd h (by decide)) (fun _ => ?_)
  refine And.intro (fun h => absurd h (by decide)) (fun _ => ?_)
  refine And.intro (fun h => absurd h (by decide)) (fun _ => ?_)
  refine And.intro (fun _ => ?_) (fun h => absurd rfl h)
  iterate 4 refine hS _ _ _ _ ?_
  refine qv hQ ?_
  simp_all [twoF]
theorem sp_joined_7 {x y : Int32} (hd : 1 ≤ d) (hQ : Q (some (.inl (twoF (-7) x y))) M) : Td PR d 29 [.inl 45, .inl x, .inl y] M Q := by
  obtain ⟨e, rfl⟩ : ∃ e, d = e + 1 := ⟨d - 1, by omega⟩
  refine td_X2_joined ?_
  intro S hS
  iterate 2 refine hS _ _ _ _ ?_
  refine And.intro (fun h => absurd h (by decide)) (fun _ => ?_)
  refine And.intro (fun h => absurd h (by decide)) (fun _ => ?_)
  refine And.intro (fun h => absurd h (by decide)) (fun _ => ?_)
  refine And.intro (fun h => absurd h (by decide)) (fun _ => ?_)
  refine And.intro (fun h => absurd h (by decide)) (fun _ => ?_)
  refine And.intro (fun h => absurd h (by decide)) (fun _ => ?_)
  refine And.intro (fun h => absurd h (by decide)) (fun _ => ?_)
  refine And.intro (fun _ => ?_) (fun h => absurd rfl h)
  iterate 4 refine hS _ _ _ _ ?_
  refine qv hQ ?_
  simp_all [twoF]
theorem sp_joined_8 {x y : Int32} (hd : 1 ≤ d) (hQ : Q (some (.inl (twoF (-8) x y))) M) : Td PR d 29 [.inl 42, .inl x, .inl y] M Q := by
  obtain ⟨e, rfl⟩ : ∃ e, d = e + 1 := ⟨d - 1, by omega⟩
  refine td_X2_joined ?_
  intro S hS
  iterate 2 refine hS _ _ _ _ ?_
  refine And.intro (fun h => absurd h (by decide)) (fun _ => ?_)
  refine And.intro (fun h => absurd h (by decide)) (fun _ => ?_)
  refine And.intro (fun h => absurd h (by decide)) (fun _ => ?_)
  refine And.intro (fun h => absurd h (by decide)) (fun _ => ?_)
  refine And.intro (fun _ => ?_) (fun h => absurd rfl h)
  iterate 4 refine hS _ _ _ _ ?_
  refine qv hQ ?_
  simp_all [twoF]
theorem sp_joined_9 {x y : Int32} (hd : 1 ≤ d) (hQ : Q (some (.inl (twoF (-9) x y))) M) : Td PR d 29 [.inl 47, .inl x, .inl y] M Q := by
  obtain ⟨e, rfl⟩ : ∃ e, d = e + 1 := ⟨d - 1, by omega⟩
  refine td_X2_joined ?_
  intro S hS
  iterate 2 refine hS _ _ _ _ ?_
  refine And.intro (fun h => absurd h (by decide)) (fun _ => ?_)
  refine And.intro (fun h => absurd h (by decide)) (fun _ => ?_)
  refine And.intro (fun h => absurd h (by decide)) (fun _ => ?_)
  refine And.intro (fun h => absurd h (by decide)) (fun _ => ?_)
  refine And.intro (fun h => absurd h (by decide)) (fun _ => ?_)
  refine And.intro (fun h => absurd h (by decide)) (fun _ => ?_)
  refine And.intro (fun h => absurd h (by decide)) (fun _ => ?_)
  refine And.intro (fun h => absurd h (by decide)) (fun _ => ?_)
  refine And.intro (fun h => absurd h (by decide)) (fun _ => ?_)
  refine And.intro (fun _ => ?_) (fun h => absurd rfl h)
  iterate 2 refine hS _ _ _ _ ?_
  refine And.intro (fun h129 => ?_) (fun h129 => ?_)
  · iterate 3 refine hS _ _ _ _ ?_
    refine ⟨h129, ?_⟩
    refine hS _ _ _ _ ?_
    refine qv hQ ?_
    simp_all [twoF]
  · iterate 3 refine hS _ _ _ _ ?_
    refine qv hQ ?_
    simp_all [twoF]
theorem sp_joined {x y : Int32} {j : Nat} (hd : 1 ≤ d) (h1 : 1 ≤ j) (h2 : j < 10) (hQ : Q (some (.inl (twoF (- nI j) x y))) M) : Td PR d 29 [.inl (- phi (- nI j)), .inl x, .inl y] M Q := by
  obtain rfl | rfl | rfl | rfl | rfl | rfl | rfl | rfl | rfl : j = 1 ∨ j = 2 ∨ j = 3 ∨ j = 4 ∨ j = 5 ∨ j = 6 ∨ j = 7 ∨ j = 8 ∨ j = 9 := by omega
  · have e : - phi (- nI 1) = 124 := by decide
    rw [e]
    exact sp_joined_1 hd hQ
  · have e : - phi (- nI 2) = 38 := by decide
    rw [e]
    exact sp_joined_2 hd hQ
  · have e : - phi (- nI 3) = 60 := by decide
    rw [e]
    exact sp_joined_3 hd hQ
  · have e : - phi (- nI 4) = 61 := by decide
    rw [e]
    exact sp_joined_4 hd hQ
  · have e : - phi (- nI 5) = 62 := by decide
    rw [e]
    exact sp_joined_5 hd hQ
  · have e : - phi (- nI 6) = 43 := by decide
    rw [e]
    exact sp_joined_6 hd hQ
  · have e : - phi (- nI 7) = 45 := by decide
    rw [e]
    exact sp_joined_7 hd hQ
  · have e : - phi (- nI 8) = 42 := by decide
    rw [e]
    exact sp_joined_8 hd hQ
  · have e : - phi (- nI 9) = 47 := by decide
    rw [e]
    exact sp_joined_9 hd hQ
theorem depS_le {c : FA} : ∀ n, depS c n ≤ n := by
  intro n
  induction n with
  | zero => exact Nat.le_refl _
  | succ n ih =>
    unfold depS
    by_cases h : 0 ≤ c n
    · rw [if_pos h]; omega
    · rw [if_neg h]
      by_cases h2 : c n = -10
      · rw [if_pos h2]; omega
      · rw [if_neg h2]; omega
theorem phi_lo {j : Nat} (h : j < 10000) : phi (nI j) = nI j := by
  unfold phi
  have h' : nI j < 10000 := nI_lt (b := 10000) h (by decide)
  rw [if_pos (nI_pos' (by omega)), if_pos h']
theorem nlt_m3 {j : Nat} (h : j < 2 ^ 31) : ¬ nI j < -3 := fun z => nI_pos h (Int32.lt_trans z (by decide))
theorem sgS_lo {x y z : Int32} {j : Nat} {q : Nat × FA} (h : j < 10003) : sgS x y z (nI j) q = (q.1 + 1, upd q.2 q.1 (if nI j < 10000 then nI j else if nI j = 10000 then x else if nI j = 10001 then y else z)) := by
  unfold sgS
  rw [if_pos (nI_pos' (by omega))]
theorem depS_s {c : FA} {n : Nat} {x y z : Int32} : depS c (n + 1) = (sgS x y z (c n) (runS x y z c n)).1 := runS_1.symm
theorem sgS_n10 {x y z : Int32} {q : Nat × FA} : sgS x y z (-10) q = (q.1, upd q.2 (q.1 - 1) (if q.2 (q.1 - 1) = 0 then 1 else 0)) := rfl
theorem neg_nI : ∀ j, j < 10 → 1 ≤ j → ¬ (0 : Int32) ≤ - nI j ∧ ¬ - nI j = -10 ∧ phi (- nI j) < -3 ∧ ¬ phi (- nI j) = -33 := by decide +kernel
theorem sgS_op {x y z : Int32} {j : Nat} {q : Nat × FA} (h1 : 1 ≤ j) (h2 : j < 10) : sgS x y z (- nI j) q = (q.1 - 1, upd q.2 (q.1 - 2) (twoF (- nI j) (q.2 (q.1 - 2)) (q.2 (q.1 - 1)))) := by
  unfold sgS
  rw [if_neg (neg_nI j h2 h1).1, if_neg (neg_nI j h2 h1).2.1]
theorem nI_m1 (m : Nat) : nI (m + 1) + -1 = nI m := by rw [← nI_pred m, Int32.sub_eq_add_neg]
theorem nI_lt1 {m : Nat} (h : m + 1 < 2 ^ 31) : ¬ nI (m + 1) < 1 := nI_nlt (a := m + 1) (b := 1) (by omega) h
theorem nI_lt2 {m : Nat} (h : m + 2 < 2 ^ 31) : ¬ nI (m + 2) < 2 := nI_nlt (a := m + 2) (b := 2) (by omega) h
theorem sp_value {t : Nat} {x y z : Int32} (hd : 2 ≤ d) (hT : TX M f) (ht : t < cT f) (hQ : ∀ M', (∀ k, k ≠ 8 → M' k = M k) → Q (some (.inl (worthT f t x y z))) M') : Td PR d 28 [.inr (6, 0, 0), .inl (nI t), .inl x, .inl y, .inl z] M Q := by
  obtain ⟨e, rfl⟩ : ∃ e, d = e + 1 := ⟨d - 1, by omega⟩
  refine td_X2_value ?_
  intro S hS
  have h14 := hT.1
  obtain ⟨ky, k1, k2, k3⟩ := hT.2.2.2 t ht
  obtain ⟨o1, o2, o3, o4⟩ := k3
  have el : M 9 t 0 2 = nI (lenF f t) := (hT.2.2.1 t ht).2.1.trans (txOk.len (hT.2.2.2 t ht)).1
  have ep := (hT.2.2.1 t ht).2.2.2
  iterate 4 refine hS _ _ _ _ ?_
  refine ⟨(by first | assumption | exact vp_in_nI (by simp only [alen]; omega) (by decide)), ?_⟩
  try rw [nI_clamp (by omega)]
  iterate 5 refine hS _ _ _ _ ?_
  refine lp_up (T := fun i => ∀ (o : Option AV) (M' : Mem), (∀ k, k ≠ 8 → M' k = M k) → (∀ j, j < depS (ctx f t) i → M' 8 0 0 j = (runS x y z (ctx f t) i).2 j) → S 14 [some (.inr (6, 0, 0)), some (.inl (nI t)), some (.inl x), some (.inl y), some (.inl z), some (.inr (9, t, 0)), some (.inl (nI (depS (ctx f t) i))), some (.inl (nI i)), o] [] M') (N := lenF f t) ?_ ?_ 0 (Nat.zero_le _) none M (fun _ _ => rfl) (fun j h => absurd h (Nat.not_lt_zero _))
  · intro o M' hF hR
    have e9 : M' 9 t 0 2 = nI (lenF f t) := by rw [hF 9 (by decide)]; exact el
    iterate 4 refine hS _ _ _ _ ?_
    refine And.intro (fun h21 => ?_) (fun h21 => ?_)
    · iterate 4 refine hS _ _ _ _ ?_
      refine ⟨vp_l rfl, ?_⟩
      refine hS _ _ _ _ ?_
      refine qv (hQ M' hF) ?_
      exact (hR 0 (by omega)).symm
    · exact (lp_x e9 h21).elim
  · intro i hi ih o M' hF hR
    have e9 : M' 9 t 0 2 = nI (lenF f t) := by rw [hF 9 (by decide)]; exact el
    have e10 : M' 10 t 0 i = phi (ctx f t i) := by rw [hF 10 (by decide)]; exact ep i hi
    have hdl := @depS_le (ctx f t) i
    have hr1 : (runS x y z (ctx f t) i).1 = depS (ctx f t) i := runS_1
    have hds := @depS_s (ctx f t) i x y z
    have hrs : (runS x y z (ctx f t) (i + 1)) = sgS x y z (ctx f t i) (runS x y z (ctx f t) i) := rfl
    have fin : ∀ (o' : Option AV) (M2 : Mem) (D : Nat) (tv : Int32), tv = nI D → (∀ k, k ≠ 8 → M2 k = M' k) → D = (sgS x y z (ctx f t i) (runS x y z (ctx f t) i)).1 → (∀ j, j < D → M2 8 0 0 j = (sgS x y z (ctx f t i) (runS x y z (ctx f t) i)).2 j) → S 14 [some (.inr (6, 0, 0)), some (.inl (nI t)), some (.inl x), some (.inl y), some (.inl z), some (.inr (9, t, 0)), some (.inl tv), some (.inl (nI i + 1)), o'] [] M2 := by
      intro o' M2 D tv a0 a1 a2 a3
      subst a0
      have := ih o' M2 (fun k hk => (a1 k hk).trans (hF k hk)) (fun j hj => by rw [hrs]; exact a3 j (by rw [a2, ← hds]; exact hj))
      rw [hds, ← a2, nI_succ] at this
      exact this
    clear ih hds hrs
    have hso := o4 i hi
    clear o4
    generalize ctx f t i = v at *
    generalize depS (ctx f t) i = D0 at *
    generalize runS x y z (ctx f t) i = q at *
    rcases hso with ⟨j, hj, rfl⟩ | ⟨rfl, h1⟩ | ⟨j, j1, j2, rfl, h2⟩
    · have hj3 : j < 10003 := by split at hj <;> omega
      rw [sgS_lo hj3, hr1] at fin
      by_cases hlo : j < 10000
      · rw [phi_lo hlo] at e10
        have hc : nI j < 10000 := nI_lt (b := 10000) hlo (by decide)
        simp only [if_pos hc] at fin
        iterate 4 refine hS _ _ _ _ ?_
        refine And.intro (fun h21 => ?_) (fun h21 => ?_)
        · exact (lp_s e9 hi (by omega) h21).elim
        · iterate 5 refine hS _ _ _ _ ?_
          refine And.intro (fun h31 => ?_) (fun h31 => ?_)
          · exact absurd h31 (nI_ge (b := 96) (by omega) (by decide))
          · iterate 4 refine hS _ _ _ _ ?_
            refine ⟨(by first | assumption | exact vp_in_nI (by simp only [alen]; omega) (by decide)), ?_⟩
            try rw [nI_clamp (by omega)]
            iterate 4 refine hS _ _ _ _ ?_
            refine And.intro (fun h48 => ?_) (fun h48 => ?_)
            · exact absurd (e10 ▸ h48) (nlt_m3 (by omega))
            · iterate 5 refine hS _ _ _ _ ?_
              refine And.intro (fun h59 => ?_) (fun h59 => ?_)
              · exact absurd (e10 ▸ h59) (nI_pos (by omega))
              · iterate 3 refine hS _ _ _ _ ?_
                refine ⟨(by first | assumption | exact vp_in_nI (by simp only [alen]; omega) (by decide)), ?_⟩
                try rw [nI_clamp (by omega)]
                iterate 4 refine hS _ _ _ _ ?_
                refine fin _ _ (D0 + 1) _ (nI_succ _).symm ?_ rfl ?_
                · intro k hk; exact mz_k hk
                · intro r hr; simp only [mu, mr, upd, if_pos, and_self]; by_cases z : r = D0
                  · rw [if_pos z, if_pos z]; exact e10
                  · rw [if_neg z, if_neg z]; exact hR r (by omega)
      · obtain rfl | rfl | rfl : j = 10000 ∨ j = 10001 ∨ j = 10002 := by omega
        · have e11 : M' 10 t 0 i = -1 := e10.trans (by decide)
          replace e10 := e11
          have hc : (if nI 10000 < 10000 then nI 10000 else if nI 10000 = 10000 then x else if nI 10000 = 10001 then y else z) = x := by rfl
          rw [hc] at fin
          iterate 4 refine hS _ _ _ _ ?_
          refine And.intro (fun h21 => ?_) (fun h21 => ?_)
          · exact (lp_s e9 hi (by omega) h21).elim
          · iterate 5 refine hS _ _ _ _ ?_
            refine And.intro (fun h31 => ?_) (fun h31 => ?_)
            · exact absurd h31 (nI_ge (b := 96) (by omega) (by decide))
            · iterate 4 refine hS _ _ _ _ ?_
              refine ⟨(by first | assumption | exact vp_in_nI (by simp only [alen]; omega) (by decide)), ?_⟩
              try rw [nI_clamp (by omega)]
              iterate 4 refine hS _ _ _ _ ?_
              refine And.intro (fun h48 => ?_) (fun h48 => ?_)
              · exact absurd (e10 ▸ h48) (by decide)
              · iterate 5 refine hS _ _ _ _ ?_
                refine And.intro (fun h59 => ?_) (fun h59 => ?_)
                · iterate 3 refine hS _ _ _ _ ?_
                  refine And.intro (fun h70 => ?_) (fun h70 => ?_)
                  · exact absurd e10 h70
                  · iterate 3 refine hS _ _ _ _ ?_
                    refine ⟨(by first | assumption | exact vp_in_nI (by simp only [alen]; omega) (by decide)), ?_⟩
                    try rw [nI_clamp (by omega)]
                    iterate 4 refine hS _ _ _ _ ?_
                    refine fin _ _ (D0 + 1) _ (nI_succ _).symm ?_ rfl ?_
                    · intro k hk; exact mz_k hk
                    · intro r hr; simp only [mu, mr, upd, if_pos, and_self]; by_cases z : r = D0
                      · rw [if_pos z, if_pos z]
                      · rw [if_neg z, if_neg z]; exact hR r (by omega)
                · exact absurd (e10 ▸ (by decide)) h59
        · have e11 : M' 10 t 0 i = -2 := e10.trans (by decide)
          replace e10 := e11
          have hc : (if nI 10001 < 10000 then nI 10001 else if nI 10001 = 10000 then x else if nI 10001 = 10001 then y else z) = y := by rfl
          rw [hc] at fin
          iterate 4 refine hS _ _ _ _ ?_
          refine And.intro (fun h21 => ?_) (fun h21 => ?_)
          · exact (lp_s e9 hi (by omega) h21).elim
          · iterate 5 refine hS _ _ _ _ ?_
            refine And.intro (fun h31 => ?_) (fun h31 => ?_)
            · exact absurd h31 (nI_ge (b := 96) (by omega) (by decide))
            · iterate 4 refine hS _ _ _ _ ?_
              refine ⟨(by first | assumption | exact vp_in_nI (by simp only [alen]; omega) (by decide)), ?_⟩
              try rw [nI_clamp (by omega)]
              iterate 4 refine hS _ _ _ _ ?_
              refine And.intro (fun h48 => ?_) (fun h48 => ?_)
              · exact absurd (e10 ▸ h48) (by decide)
              · iterate 5 refine hS _ _ _ _ ?_
                refine And.intro (fun h59 => ?_) (fun h59 => ?_)
                · iterate 3 refine hS _ _ _ _ ?_
                  refine And.intro (fun h70 => ?_) (fun h70 => ?_)
                  · iterate 3 refine hS _ _ _ _ ?_
                    refine And.intro (fun h81 => ?_) (fun h81 => ?_)
                    · exact absurd e10 h81
                    · iterate 3 refine hS _ _ _ _ ?_
                      refine ⟨(by first | assumption | exact vp_in_nI (by simp only [alen]; omega) (by decide)), ?_⟩
                      try rw [nI_clamp (by omega)]
                      iterate 4 refine hS _ _ _ _ ?_
                      refine fin _ _ (D0 + 1) _ (nI_succ _).symm ?_ rfl ?_
                      · intro k hk; exact mz_k hk
                      · intro r hr; simp only [mu, mr, upd, if_pos, and_self]; by_cases z : r = D0
                        · rw [if_pos z, if_pos z]
                        · rw [if_neg z, if_neg z]; exact hR r (by omega)
                  · exact absurd (e10.symm.trans h70) (by decide)
                · exact absurd (e10 ▸ (by decide)) h59
        · have e11 : M' 10 t 0 i = -3 := e10.trans (by decide)
          replace e10 := e11
          have hc : (if nI 10002 < 10000 then nI 10002 else if nI 10002 = 10000 then x else if nI 10002 = 10001 then y else z) = z := by rfl
          rw [hc] at fin
          iterate 4 refine hS _ _ _ _ ?_
          refine And.intro (fun h21 => ?_) (fun h21 => ?_)
          · exact (lp_s e9 hi (by omega) h21).elim
          · iterate 5 refine hS _ _ _ _ ?_
            refine And.intro (fun h31 => ?_) (fun h31 => ?_)
            · exact absurd h31 (nI_ge (b := 96) (by omega) (by decide))
            · iterate 4 refine hS _ _ _ _ ?_
              refine ⟨(by first | assumption | exact vp_in_nI (by simp only [alen]; omega) (by decide)), ?_⟩
              try rw [nI_clamp (by omega)]
              iterate 4 refine hS _ _ _ _ ?_
              refine And.intro (fun h48 => ?_) (fun h48 => ?_)
              · exact absurd (e10 ▸ h48) (by decide)
              · iterate 5 refine hS _ _ _ _ ?_
                refine And.intro (fun h59 => ?_) (fun h59 => ?_)
                · iterate 3 refine hS _ _ _ _ ?_
                  refine And.intro (fun h70 => ?_) (fun h70 => ?_)
                  · iterate 3 refine hS _ _ _ _ ?_
                    refine And.intro (fun h81 => ?_) (fun h81 => ?_)
                    · iterate 2 refine hS _ _ _ _ ?_
                      refine ⟨(by first | assumption | exact vp_in_nI (by simp only [alen]; omega) (by decide)), ?_⟩
                      try rw [nI_clamp (by omega)]
                      iterate 4 refine hS _ _ _ _ ?_
                      refine fin _ _ (D0 + 1) _ (nI_succ _).symm ?_ rfl ?_
                      · intro k hk; exact mz_k hk
                      · intro r hr; simp only [mu, mr, upd, if_pos, and_self]; by_cases z : r = D0
                        · rw [if_pos z, if_pos z]
                        · rw [if_neg z, if_neg z]; exact hR r (by omega)
                    · exact absurd (e10.symm.trans h81) (by decide)
                  · exact absurd (e10.symm.trans h70) (by decide)
                · exact absurd (e10 ▸ (by decide)) h59
    · have e11 : M' 10 t 0 i = -33 := e10.trans (by decide)
      obtain ⟨m, rfl⟩ : ∃ m, D0 = m + 1 := ⟨D0 - 1, by omega⟩
      rw [sgS_n10, hr1] at fin
      have hm := hR m (by omega)
      iterate 4 refine hS _ _ _ _ ?_
      refine And.intro (fun h21 => ?_) (fun h21 => ?_)
      · exact (lp_s e9 hi (by omega) h21).elim
      · iterate 5 refine hS _ _ _ _ ?_
        refine And.intro (fun h31 => ?_) (fun h31 => ?_)
        · exact absurd h31 (nI_ge (b := 96) (by omega) (by decide))
        · iterate 4 refine hS _ _ _ _ ?_
          refine ⟨(by first | assumption | exact vp_in_nI (by simp only [alen]; omega) (by decide)), ?_⟩
          try rw [nI_clamp (by omega)]
          iterate 4 refine hS _ _ _ _ ?_
          refine And.intro (fun h48 => ?_) (fun h48 => ?_)
          · iterate 3 refine hS _ _ _ _ ?_
            refine And.intro (fun h101 => ?_) (fun h101 => ?_)
            · exact absurd e11 h101
            · iterate 3 refine hS _ _ _ _ ?_
              refine And.intro (fun h107 => ?_) (fun h107 => ?_)
              · exact absurd h107 (nI_lt1 (by omega))
              · iterate 11 refine hS _ _ _ _ ?_
                rw [nI_pred]
                refine ⟨(by first | assumption | exact vp_in_nI (by simp only [alen]; omega) (by decide)), ?_⟩
                try rw [nI_clamp (by omega)]
                refine hS _ _ _ _ ?_
                refine And.intro (fun h127 => ?_) (fun h127 => ?_)
                · iterate 2 refine hS _ _ _ _ ?_
                  refine ⟨(by first | assumption | exact vp_in_nI (by simp only [alen]; omega) (by decide)), ?_⟩
                  try rw [nI_clamp (by omega)]
                  iterate 3 refine hS _ _ _ _ ?_
                  refine fin _ _ (m + 1) _ rfl ?_ rfl ?_
                  · intro k hk; exact mz_k hk
                  · intro r hr; simp only [mu, mr, upd, if_pos, and_self, Nat.add_sub_cancel]; by_cases z : r = m
                    · rw [if_pos z, if_pos z, ← hm]; simp_all
                    · rw [if_neg z, if_neg z]; exact hR r (by omega)
                · iterate 3 refine hS _ _ _ _ ?_
                  refine ⟨(by first | assumption | exact vp_in_nI (by simp only [alen]; omega) (by decide)), ?_⟩
                  try rw [nI_clamp (by omega)]
                  iterate 3 refine hS _ _ _ _ ?_
                  refine fin _ _ (m + 1) _ rfl ?_ rfl ?_
                  · intro k hk; exact mz_k hk
                  · intro r hr; simp only [mu, mr, upd, if_pos, and_self, Nat.add_sub_cancel]; by_cases z : r = m
                    · rw [if_pos z, if_pos z, ← hm]; simp_all
                    · rw [if_neg z, if_neg z]; exact hR r (by omega)
          · exact absurd (e11 ▸ (by decide)) h48
    · obtain ⟨m, rfl⟩ : ∃ m, D0 = m + 2 := ⟨D0 - 2, by omega⟩
      rw [sgS_op j1 j2, hr1] at fin
      have hm := hR m (by omega)
      have hm1 := hR (m + 1) (by omega)
      have hng := neg_nI j j2 j1
      iterate 4 refine hS _ _ _ _ ?_
      refine And.intro (fun h21 => ?_) (fun h21 => ?_)
      · exact (lp_s e9 hi (by omega) h21).elim
      · iterate 5 refine hS _ _ _ _ ?_
        refine And.intro (fun h31 => ?_) (fun h31 => ?_)
        · exact absurd h31 (nI_ge (b := 96) (by omega) (by decide))
        · iterate 4 refine hS _ _ _ _ ?_
          refine ⟨(by first | assumption | exact vp_in_nI (by simp only [alen]; omega) (by decide)), ?_⟩
          try rw [nI_clamp (by omega)]
          iterate 4 refine hS _ _ _ _ ?_
          refine And.intro (fun h48 => ?_) (fun h48 => ?_)
          · iterate 3 refine hS _ _ _ _ ?_
            refine And.intro (fun h101 => ?_) (fun h101 => ?_)
            · iterate 3 refine hS _ _ _ _ ?_
              refine And.intro (fun h142 => ?_) (fun h142 => ?_)
              · exact absurd h142 (nI_lt2 (by omega))
              · iterate 2 refine hS _ _ _ _ ?_
                rw [nI_m1]
                iterate 12 refine hS _ _ _ _ ?_
                rw [nI_pred]
                refine ⟨(by first | assumption | exact vp_in_nI (by simp only [alen]; omega) (by decide)), ?_⟩
                try rw [nI_clamp (by omega)]
                iterate 4 refine hS _ _ _ _ ?_
                refine ⟨(by first | assumption | exact vp_in_nI (by simp only [alen]; omega) (by decide)), ?_⟩
                try rw [nI_clamp (by omega)]
                refine hS _ _ _ _ ?_
                rw [hm, hm1, e10]
                refine sp_joined (by omega) j1 j2 ?_
                refine hS _ _ _ _ ?_
                refine ⟨(by first | assumption | exact vp_in_nI (by simp only [alen]; omega) (by decide)), ?_⟩
                try rw [nI_clamp (by omega)]
                iterate 2 refine hS _ _ _ _ ?_
                refine fin _ _ (m + 1) _ rfl ?_ rfl ?_
                · intro k hk; exact mz_k hk
                · intro r hr; simp only [mu, mr, upd, if_pos, and_self]; by_cases z : r = m
                  · rw [if_pos z, if_pos (by omega)]; rfl
                  · rw [if_neg z, if_neg (by omega)]; exact hR r (by omega)
            · exact absurd (e10.symm.trans h101) hng.2.2.2
          · exact absurd (e10 ▸ hng.2.2.1) h48
end W4
end
section
-- 34.pure5: the reference's small methods
section W5
variable {d b p : Nat} {M : Mem} {Q : PQ}
theorem sm_in {v x y : Int32} (hd : 1 ≤ d) (hQ : Q (some (.inl (bI (¬ v < x ∧ ¬ y < v)))) M) : Td PR d 120 [.inl v, .inl x, .inl y] M Q := by
  obtain ⟨e, rfl⟩ : ∃ e, d = e + 1 := ⟨d - 1, by omega⟩
  refine td_X10_in ?_
  intro S hS
  iterate 3 refine hS _ _ _ _ ?_
  refine And.intro (fun h2 => ?_) (fun h2 => ?_)
  · iterate 2 refine hS _ _ _ _ ?_
    refine ⟨rfl, ?_⟩
    first | (refine qv hQ (bI_p ?_); constructor <;> assumption) | (refine qv hQ (bI_n ?_); intro z; first | exact z.1 (by assumption) | exact z.2 (by assumption))
  · iterate 3 refine hS _ _ _ _ ?_
    refine And.intro (fun h7 => ?_) (fun h7 => ?_)
    · iterate 2 refine hS _ _ _ _ ?_
      refine ⟨rfl, ?_⟩
      first | (refine qv hQ (bI_p ?_); constructor <;> assumption) | (refine qv hQ (bI_n ?_); intro z; first | exact z.1 (by assumption) | exact z.2 (by assumption))
    · iterate 3 refine hS _ _ _ _ ?_
      refine ⟨rfl, ?_⟩
      first | (refine qv hQ (bI_p ?_); constructor <;> assumption) | (refine qv hQ (bI_n ?_); intro z; first | exact z.1 (by assumption) | exact z.2 (by assumption))
theorem sm_within {v x y : Int32} (hd : 1 ≤ d) (hQ : Q (some (.inl (clamp v x y))) M) : Td PR d 121 [.inl v, .inl x, .inl y] M Q := by
  obtain ⟨e, rfl⟩ : ∃ e, d = e + 1 := ⟨d - 1, by omega⟩
  refine td_X10_within ?_
  intro S hS
  iterate 3 refine hS _ _ _ _ ?_
  refine And.intro (fun h2 => ?_) (fun h2 => ?_)
  · have h2' := Int32.not_lt.mpr h2
    iterate 3 refine hS _ _ _ _ ?_
    refine And.intro (fun h11 => ?_) (fun h11 => ?_)
    · have h11' := Int32.not_lt.mpr h11
      iterate 2 refine hS _ _ _ _ ?_
      refine qv hQ ?_
      unfold clamp
      simp only [*, if_true, if_false]
    · have h11' := Int32.not_le.mp h11
      iterate 3 refine hS _ _ _ _ ?_
      refine qv hQ ?_
      unfold clamp
      simp only [*, if_true, if_false]
  · have h2' := Int32.not_le.mp h2
    iterate 3 refine hS _ _ _ _ ?_
    refine qv hQ ?_
    unfold clamp
    simp only [*, if_true, if_false]
theorem sm_of0 (hd : 1 ≤ d) (hb : b < 10) (hQ : Q (some (.inl (M 31 0 0 (10 + 4 * b)))) M) : Td PR d 126 [.inr (30, 0, 0), .inl (nI b), .inl 0] M Q := by
  have ix : (10 : Int32) + 4 * nI b + 0 = nI (10 + 4 * b) := by
    show nI 10 + nI 4 * nI b + nI 0 = _
    rw [nI_mul, nI_add, nI_add]; exact congrArg nI (by omega)
  obtain ⟨e, rfl⟩ : ∃ e, d = e + 1 := ⟨d - 1, by omega⟩
  refine td_X10_of ?_
  intro S hS
  iterate 10 refine hS _ _ _ _ ?_
  rw [ix]
  refine ⟨(by first | assumption | exact vp_in_nI (by simp only [alen]; omega) (by decide)), ?_⟩
  try rw [nI_clamp (by omega)]
  refine hS _ _ _ _ ?_
  exact hQ
theorem sm_of1 (hd : 1 ≤ d) (hb : b < 10) (hQ : Q (some (.inl (M 31 0 0 (11 + 4 * b)))) M) : Td PR d 126 [.inr (30, 0, 0), .inl (nI b), .inl 1] M Q := by
  have ix : (10 : Int32) + 4 * nI b + 1 = nI (11 + 4 * b) := by
    show nI 10 + nI 4 * nI b + nI 1 = _
    rw [nI_mul, nI_add, nI_add]; exact congrArg nI (by omega)
  obtain ⟨e, rfl⟩ : ∃ e, d = e + 1 := ⟨d - 1, by omega⟩
  refine td_X10_of ?_
  intro S hS
  iterate 10 refine hS _ _ _ _ ?_
  rw [ix]
  refine ⟨(by first | assumption | exact vp_in_nI (by simp only [alen]; omega) (by decide)), ?_⟩
  try rw [nI_clamp (by omega)]
  refine hS _ _ _ _ ?_
  exact hQ
theorem sm_of2 (hd : 1 ≤ d) (hb : b < 10) (hQ : Q (some (.inl (M 31 0 0 (12 + 4 * b)))) M) : Td PR d 126 [.inr (30, 0, 0), .inl (nI b), .inl 2] M Q := by
  have ix : (10 : Int32) + 4 * nI b + 2 = nI (12 + 4 * b) := by
    show nI 10 + nI 4 * nI b + nI 2 = _
    rw [nI_mul, nI_add, nI_add]; exact congrArg nI (by omega)
  obtain ⟨e, rfl⟩ : ∃ e, d = e + 1 := ⟨d - 1, by omega⟩
  refine td_X10_of ?_
  intro S hS
  iterate 10 refine hS _ _ _ _ ?_
  rw [ix]
  refine ⟨(by first | assumption | exact vp_in_nI (by simp only [alen]; omega) (by decide)), ?_⟩
  try rw [nI_clamp (by omega)]
  refine hS _ _ _ _ ?_
  exact hQ
theorem sm_of3 (hd : 1 ≤ d) (hb : b < 10) (hQ : Q (some (.inl (M 31 0 0 (13 + 4 * b)))) M) : Td PR d 126 [.inr (30, 0, 0), .inl (nI b), .inl 3] M Q := by
  have ix : (10 : Int32) + 4 * nI b + 3 = nI (13 + 4 * b) := by
    show nI 10 + nI 4 * nI b + nI 3 = _
    rw [nI_mul, nI_add, nI_add]; exact congrArg nI (by omega)
  obtain ⟨e, rfl⟩ : ∃ e, d = e + 1 := ⟨d - 1, by omega⟩
  refine td_X10_of ?_
  intro S hS
  iterate 10 refine hS _ _ _ _ ?_
  rw [ix]
  refine ⟨(by first | assumption | exact vp_in_nI (by simp only [alen]; omega) (by decide)), ?_⟩
  try rw [nI_clamp (by omega)]
  refine hS _ _ _ _ ?_
  exact hQ
theorem sm_by0 (hd : 1 ≤ d) (hb : b < 10) (hQ : Q (some (.inl (M 31 0 0 (50 + 4 * b)))) M) : Td PR d 128 [.inr (30, 0, 0), .inl (nI b), .inl 0] M Q := by
  have ix : (50 : Int32) + 4 * nI b + 0 = nI (50 + 4 * b) := by
    show nI 50 + nI 4 * nI b + nI 0 = _
    rw [nI_mul, nI_add, nI_add]; exact congrArg nI (by omega)
  obtain ⟨e, rfl⟩ : ∃ e, d = e + 1 := ⟨d - 1, by omega⟩
  refine td_X10_by ?_
  intro S hS
  iterate 10 refine hS _ _ _ _ ?_
  rw [ix]
  refine ⟨(by first | assumption | exact vp_in_nI (by simp only [alen]; omega) (by decide)), ?_⟩
  try rw [nI_clamp (by omega)]
  refine hS _ _ _ _ ?_
  exact hQ
theorem sm_by1 (hd : 1 ≤ d) (hb : b < 10) (hQ : Q (some (.inl (M 31 0 0 (51 + 4 * b)))) M) : Td PR d 128 [.inr (30, 0, 0), .inl (nI b), .inl 1] M Q := by
  have ix : (50 : Int32) + 4 * nI b + 1 = nI (51 + 4 * b) := by
    show nI 50 + nI 4 * nI b + nI 1 = _
    rw [nI_mul, nI_add, nI_add]; exact congrArg nI (by omega)
  obtain ⟨e, rfl⟩ : ∃ e, d = e + 1 := ⟨d - 1, by omega⟩
  refine td_X10_by ?_
  intro S hS
  iterate 10 refine hS _ _ _ _ ?_
  rw [ix]
  refine ⟨(by first | assumption | exact vp_in_nI (by simp only [alen]; omega) (by decide)), ?_⟩
  try rw [nI_clamp (by omega)]
  refine hS _ _ _ _ ?_
  exact hQ
theorem sm_by2 (hd : 1 ≤ d) (hb : b < 10) (hQ : Q (some (.inl (M 31 0 0 (52 + 4 * b)))) M) : Td PR d 128 [.inr (30, 0, 0), .inl (nI b), .inl 2] M Q := by
  have ix : (50 : Int32) + 4 * nI b + 2 = nI (52 + 4 * b) := by
    show nI 50 + nI 4 * nI b + nI 2 = _
    rw [nI_mul, nI_add, nI_add]; exact congrArg nI (by omega)
  obtain ⟨e, rfl⟩ : ∃ e, d = e + 1 := ⟨d - 1, by omega⟩
  refine td_X10_by ?_
  intro S hS
  iterate 10 refine hS _ _ _ _ ?_
  rw [ix]
  refine ⟨(by first | assumption | exact vp_in_nI (by simp only [alen]; omega) (by decide)), ?_⟩
  try rw [nI_clamp (by omega)]
  refine hS _ _ _ _ ?_
  exact hQ
theorem sm_by3 (hd : 1 ≤ d) (hb : b < 10) (hQ : Q (some (.inl (M 31 0 0 (53 + 4 * b)))) M) : Td PR d 128 [.inr (30, 0, 0), .inl (nI b), .inl 3] M Q := by
  have ix : (50 : Int32) + 4 * nI b + 3 = nI (53 + 4 * b) := by
    show nI 50 + nI 4 * nI b + nI 3 = _
    rw [nI_mul, nI_add, nI_add]; exact congrArg nI (by omega)
  obtain ⟨e, rfl⟩ : ∃ e, d = e + 1 := ⟨d - 1, by omega⟩
  refine td_X10_by ?_
  intro S hS
  iterate 10 refine hS _ _ _ _ ?_
  rw [ix]
  refine ⟨(by first | assumption | exact vp_in_nI (by simp only [alen]; omega) (by decide)), ?_⟩
  try rw [nI_clamp (by omega)]
  refine hS _ _ _ _ ?_
  exact hQ
theorem sm_put0 {v : Int32} (hd : 1 ≤ d) (hb : b < 10) (hQ : Q none (mu M 31 0 0 (10 + 4 * b) v)) : Td PR d 127 [.inr (30, 0, 0), .inl (nI b), .inl 0, .inl v] M Q := by
  have ix : (10 : Int32) + 4 * nI b + 0 = nI (10 + 4 * b) := by
    show nI 10 + nI 4 * nI b + nI 0 = _
    rw [nI_mul, nI_add, nI_add]; exact congrArg nI (by omega)
  obtain ⟨e, rfl⟩ : ∃ e, d = e + 1 := ⟨d - 1, by omega⟩
  refine td_X10_put ?_
  intro S hS
  iterate 11 refine hS _ _ _ _ ?_
  rw [ix]
  refine ⟨(by first | assumption | exact vp_in_nI (by simp only [alen]; omega) (by decide)), ?_⟩
  try rw [nI_clamp (by omega)]
  refine hS _ _ _ _ ?_
  exact hQ
theorem sm_put1 {v : Int32} (hd : 1 ≤ d) (hb : b < 10) (hQ : Q none (mu M 31 0 0 (11 + 4 * b) v)) : Td PR d 127 [.inr (30, 0, 0), .inl (nI b), .inl 1, .inl v] M Q := by
  have ix : (10 : Int32) + 4 * nI b + 1 = nI (11 + 4 * b) := by
    show nI 10 + nI 4 * nI b + nI 1 = _
    rw [nI_mul, nI_add, nI_add]; exact congrArg nI (by omega)
  obtain ⟨e, rfl⟩ : ∃ e, d = e + 1 := ⟨d - 1, by omega⟩
  refine td_X10_put ?_
  intro S hS
  iterate 11 refine hS _ _ _ _ ?_
  rw [ix]
  refine ⟨(by first | assumption | exact vp_in_nI (by simp only [alen]; omega) (by decide)), ?_⟩
  try rw [nI_clamp (by omega)]
  refine hS _ _ _ _ ?_
  exact hQ
theorem sm_put2 {v : Int32} (hd : 1 ≤ d) (hb : b < 10) (hQ : Q none (mu M 31 0 0 (12 + 4 * b) v)) : Td PR d 127 [.inr (30, 0, 0), .inl (nI b), .inl 2, .inl v] M Q := by
  have ix : (10 : Int32) + 4 * nI b + 2 = nI (12 + 4 * b) := by
    show nI 10 + nI 4 * nI b + nI 2 = _
    rw [nI_mul, nI_add, nI_add]; exact congrArg nI (by omega)
  obtain ⟨e, rfl⟩ : ∃ e, d = e + 1 := ⟨d - 1, by omega⟩
  refine td_X10_put ?_
  intro S hS
  iterate 11 refine hS _ _ _ _ ?_
  rw [ix]
  refine ⟨(by first | assumption | exact vp_in_nI (by simp only [alen]; omega) (by decide)), ?_⟩
  try rw [nI_clamp (by omega)]
  refine hS _ _ _ _ ?_
  exact hQ
theorem sm_put3 {v : Int32} (hd : 1 ≤ d) (hb : b < 10) (hQ : Q none (mu M 31 0 0 (13 + 4 * b) v)) : Td PR d 127 [.inr (30, 0, 0), .inl (nI b), .inl 3, .inl v] M Q := by
  have ix : (10 : Int32) + 4 * nI b + 3 = nI (13 + 4 * b) := by
    show nI 10 + nI 4 * nI b + nI 3 = _
    rw [nI_mul, nI_add, nI_add]; exact congrArg nI (by omega)
  obtain ⟨e, rfl⟩ : ∃ e, d = e + 1 := ⟨d - 1, by omega⟩
  refine td_X10_put ?_
  intro S hS
  iterate 11 refine hS _ _ _ _ ?_
  rw [ix]
  refine ⟨(by first | assumption | exact vp_in_nI (by simp only [alen]; omega) (by decide)), ?_⟩
  try rw [nI_clamp (by omega)]
  refine hS _ _ _ _ ?_
  exact hQ
theorem sm_lays0 {v : Int32} (hd : 1 ≤ d) (hb : b < 10) (hQ : Q none (mu M 31 0 0 (50 + 4 * b) v)) : Td PR d 129 [.inr (30, 0, 0), .inl (nI b), .inl 0, .inl v] M Q := by
  have ix : (50 : Int32) + 4 * nI b + 0 = nI (50 + 4 * b) := by
    show nI 50 + nI 4 * nI b + nI 0 = _
    rw [nI_mul, nI_add, nI_add]; exact congrArg nI (by omega)
  obtain ⟨e, rfl⟩ : ∃ e, d = e + 1 := ⟨d - 1, by omega⟩
  refine td_X10_lays ?_
  intro S hS
  iterate 11 refine hS _ _ _ _ ?_
  rw [ix]
  refine ⟨(by first | assumption | exact vp_in_nI (by simp only [alen]; omega) (by decide)), ?_⟩
  try rw [nI_clamp (by omega)]
  refine hS _ _ _ _ ?_
  exact hQ
theorem sm_lays1 {v : Int32} (hd : 1 ≤ d) (hb : b < 10) (hQ : Q none (mu M 31 0 0 (51 + 4 * b) v)) : Td PR d 129 [.inr (30, 0, 0), .inl (nI b), .inl 1, .inl v] M Q := by
  have ix : (50 : Int32) + 4 * nI b + 1 = nI (51 + 4 * b) := by
    show nI 50 + nI 4 * nI b + nI 1 = _
    rw [nI_mul, nI_add, nI_add]; exact congrArg nI (by omega)
  obtain ⟨e, rfl⟩ : ∃ e, d = e + 1 := ⟨d - 1, by omega⟩
  refine td_X10_lays ?_
  intro S hS
  iterate 11 refine hS _ _ _ _ ?_
  rw [ix]
  refine ⟨(by first | assumption | exact vp_in_nI (by simp only [alen]; omega) (by decide)), ?_⟩
  try rw [nI_clamp (by omega)]
  refine hS _ _ _ _ ?_
  exact hQ
theorem sm_lays2 {v : Int32} (hd : 1 ≤ d) (hb : b < 10) (hQ : Q none (mu M 31 0 0 (52 + 4 * b) v)) : Td PR d 129 [.inr (30, 0, 0), .inl (nI b), .inl 2, .inl v] M Q := by
  have ix : (50 : Int32) + 4 * nI b + 2 = nI (52 + 4 * b) := by
    show nI 50 + nI 4 * nI b + nI 2 = _
    rw [nI_mul, nI_add, nI_add]; exact congrArg nI (by omega)
  obtain ⟨e, rfl⟩ : ∃ e, d = e + 1 := ⟨d - 1, by omega⟩
  refine td_X10_lays ?_
  intro S hS
  iterate 11 refine hS _ _ _ _ ?_
  rw [ix]
  refine ⟨(by first | assumption | exact vp_in_nI (by simp only [alen]; omega) (by decide)), ?_⟩
  try rw [nI_clamp (by omega)]
  refine hS _ _ _ _ ?_
  exact hQ
theorem sm_lays3 {v : Int32} (hd : 1 ≤ d) (hb : b < 10) (hQ : Q none (mu M 31 0 0 (53 + 4 * b) v)) : Td PR d 129 [.inr (30, 0, 0), .inl (nI b), .inl 3, .inl v] M Q := by
  have ix : (50 : Int32) + 4 * nI b + 3 = nI (53 + 4 * b) := by
    show nI 50 + nI 4 * nI b + nI 3 = _
    rw [nI_mul, nI_add, nI_add]; exact congrArg nI (by omega)
  obtain ⟨e, rfl⟩ : ∃ e, d = e + 1 := ⟨d - 1, by omega⟩
  refine td_X10_lays ?_
  intro S hS
  iterate 11 refine hS _ _ _ _ ?_
  rw [ix]
  refine ⟨(by first | assumption | exact vp_in_nI (by simp only [alen]; omega) (by decide)), ?_⟩
  try rw [nI_clamp (by omega)]
  refine hS _ _ _ _ ?_
  exact hQ
theorem sm_swaps {v : Int32} {k : Nat} (hd : 1 ≤ d) (hk : k < 1458) (hQ : Q (some (.inl (M 31 0 0 k))) (mu M 31 0 0 k v)) : Td PR d 130 [.inr (30, 0, 0), .inl (nI k), .inl v] M Q := by
  obtain ⟨e, rfl⟩ : ∃ e, d = e + 1 := ⟨d - 1, by omega⟩
  refine td_X10_swaps ?_
  intro S hS
  iterate 4 refine hS _ _ _ _ ?_
  refine ⟨(by first | assumption | exact vp_in_nI (by simp only [alen]; omega) (by decide)), ?_⟩
  try rw [nI_clamp (by omega)]
  iterate 6 refine hS _ _ _ _ ?_
  refine ⟨(by first | assumption | exact vp_in_nI (by simp only [alen]; omega) (by decide)), ?_⟩
  try rw [nI_clamp (by omega)]
  iterate 2 refine hS _ _ _ _ ?_
  exact hQ
theorem sm_draw (hd : 1 ≤ d) (hQ : Q (some (.inl (drawV (M 31 0 0)))) (mr M 31 0 0 (drawF (M 31 0 0)))) : Td PR d 143 [.inr (30, 0, 0)] M Q := by
  obtain ⟨e, rfl⟩ : ∃ e, d = e + 1 := ⟨d - 1, by omega⟩
  refine td_X10_draw ?_
  intro S hS
  have e1 : mu M 31 0 0 0 (M 31 0 0 0 * 1103515245 + 12345) 31 0 0 0 = M 31 0 0 0 * 1103515245 + 12345 := mz_at
  iterate 7 refine hS _ _ _ _ ?_
  refine ⟨vp_l rfl, ?_⟩
  iterate 5 refine hS _ _ _ _ ?_
  refine ⟨vp_l rfl, ?_⟩
  iterate 4 refine hS _ _ _ _ ?_
  refine ⟨vp_l rfl, ?_⟩
  iterate 3 refine hS _ _ _ _ ?_
  exact qv hQ (congrArg ushr8 e1.symm)
theorem sm_counts {ky : Int32} (hd : 1 ≤ d) (hC : CN (M 31 0 0)) (hQ : Q (some (.inl (countsF (M 31 0 0) ky (cT (M 31 0 0))))) M) : Td PR d 197 [.inr (30, 0, 0), .inl ky] M Q := by
  obtain ⟨e, rfl⟩ : ∃ e, d = e + 1 := ⟨d - 1, by omega⟩
  refine td_X10_counts ?_
  intro S hS
  have h14 := hC.2.2.2.2.2
  have h9 := hC.2.2.2.2.1
  have lp : ∀ n, n ≤ cT (M 31 0 0) → countsF (M 31 0 0) ky n = countsF (M 31 0 0) ky (cT (M 31 0 0)) → S 10 [some (.inr (30, 0, 0)), some (.inl ky), some (.inl (nI n - 1))] [] M := by
    intro n
    induction n with
    | zero =>
      intro _ he
      iterate 2 refine hS _ _ _ _ ?_
      refine And.intro (fun h11 => ?_) (fun h11 => ?_)
      · iterate 2 refine hS _ _ _ _ ?_
        exact qv hQ he.symm
      · exact absurd h11 (by decide)
    | succ n ih =>
      intro hn he
      rw [nI_pred]
      have ix : (86 : Int32) + 2 * nI n = nI (86 + 2 * n) := by
        show nI 86 + nI 2 * nI n = _
        rw [nI_mul, nI_add]
      iterate 2 refine hS _ _ _ _ ?_
      refine And.intro (fun h11 => ?_) (fun h11 => ?_)
      · exact absurd h11 (nI_pos (by omega))
      · iterate 8 refine hS _ _ _ _ ?_
        rw [ix]
        refine ⟨(by first | assumption | exact vp_in_nI (by simp only [alen]; omega) (by decide)), ?_⟩
        try rw [nI_clamp (by omega)]
        iterate 2 refine hS _ _ _ _ ?_
        refine ⟨by decide, ?_⟩
        iterate 2 refine hS _ _ _ _ ?_
        refine And.intro (fun h30 => ?_) (fun h30 => ?_)
        · have e9 : countsF (M 31 0 0) ky (n + 1) = countsF (M 31 0 0) ky n := by rw [countsF_s]; exact if_neg h30
          iterate 2 refine hS _ _ _ _ ?_
          have ih2 := ih (by omega) (e9.symm.trans he)
          rw [Int32.sub_eq_add_neg] at ih2
          exact ih2
        · iterate 2 refine hS _ _ _ _ ?_
          refine qv hQ ?_
          rw [← he, countsF_s]
          exact if_pos h30
  iterate 4 refine hS _ _ _ _ ?_
  refine ⟨vp_l rfl, ?_⟩
  iterate 3 refine hS _ _ _ _ ?_
  have := lp _ (Nat.le_refl _) rfl
  rw [← h9] at this
  exact this
theorem sm_two_1 {x y : Int32} (hd : 1 ≤ d) (hQ : Q (some (.inl (twoF (-1) x y))) M) : Td PR d 199 [.inl (-1), .inl x, .inl y] M Q := by
  obtain ⟨e, rfl⟩ : ∃ e, d = e + 1 := ⟨d - 1, by omega⟩
  refine td_X10_two ?_
  intro S hS
  iterate 2 refine hS _ _ _ _ ?_
  refine And.intro (fun h => absurd h (by decide)) (fun _ => ?_)
  refine And.intro (fun h => absurd h (by decide)) (fun _ => ?_)
  refine And.intro (fun h => absurd h (by decide)) (fun _ => ?_)
  refine And.intro (fun h => absurd h (by decide)) (fun _ => ?_)
  refine And.intro (fun h => absurd h (by decide)) (fun _ => ?_)
  refine And.intro (fun h => absurd h (by decide)) (fun _ => ?_)
  refine And.intro (fun h => absurd h (by decide)) (fun _ => ?_)
  refine And.intro (fun _ => ?_) (fun h => absurd rfl h)
  iterate 2 refine hS _ _ _ _ ?_
  refine And.intro (fun h49 => ?_) (fun h49 => ?_)
  · iterate 3 refine hS _ _ _ _ ?_
    refine qv hQ ?_
    simp_all [twoF]
  · iterate 2 refine hS _ _ _ _ ?_
    refine And.intro (fun h53 => ?_) (fun h53 => ?_)
    · iterate 2 refine hS _ _ _ _ ?_
      refine qv hQ ?_
      simp_all [twoF]
    · iterate 3 refine hS _ _ _ _ ?_
      refine qv hQ ?_
      simp_all [twoF]
theorem sm_two_2 {x y : Int32} (hd : 1 ≤ d) (hQ : Q (some (.inl (twoF (-2) x y))) M) : Td PR d 199 [.inl (-2), .inl x, .inl y] M Q := by
  obtain ⟨e, rfl⟩ : ∃ e, d = e + 1 := ⟨d - 1, by omega⟩
  refine td_X10_two ?_
  intro S hS
  iterate 2 refine hS _ _ _ _ ?_
  refine And.intro (fun h => absurd h (by decide)) (fun _ => ?_)
  refine And.intro (fun h => absurd h (by decide)) (fun _ => ?_)
  refine And.intro (fun h => absurd h (by decide)) (fun _ => ?_)
  refine And.intro (fun h => absurd h (by decide)) (fun _ => ?_)
  refine And.intro (fun h => absurd h (by decide)) (fun _ => ?_)
  refine And.intro (fun h => absurd h (by decide)) (fun _ => ?_)
  refine And.intro (fun _ => ?_) (fun h => absurd rfl h)
  iterate 2 refine hS _ _ _ _ ?_
  refine And.intro (fun h63 => ?_) (fun h63 => ?_)
  · iterate 2 refine hS _ _ _ _ ?_
    refine qv hQ ?_
    simp_all [twoF]
  · iterate 2 refine hS _ _ _ _ ?_
    refine And.intro (fun h67 => ?_) (fun h67 => ?_)
    · iterate 2 refine hS _ _ _ _ ?_
      refine qv hQ ?_
      simp_all [twoF]
    · iterate 3 refine hS _ _ _ _ ?_
      refine qv hQ ?_
      simp_all [twoF]
theorem sm_two_3 {x y : Int32} (hd : 1 ≤ d) (hQ : Q (some (.inl (twoF (-3) x y))) M) : Td PR d 199 [.inl (-3), .inl x, .inl y] M Q := by
  obtain ⟨e, rfl⟩ : ∃ e, d = e + 1 := ⟨d - 1, by omega⟩
  refine td_X10_two ?_
  intro S hS
  iterate 2 refine hS _ _ _ _ ?_
  refine And.intro (fun h => absurd h (by decide)) (fun _ => ?_)
  refine And.intro (fun h => absurd h (by decide)) (fun _ => ?_)
  refine And.intro (fun h => absurd h (by decide)) (fun _ => ?_)
  refine And.intro (fun h => absurd h (by decide)) (fun _ => ?_)
  refine And.intro (fun h => absurd h (by decide)) (fun _ => ?_)
  refine And.intro (fun _ => ?_) (fun h => absurd rfl h)
  iterate 3 refine hS _ _ _ _ ?_
  refine And.intro (fun h78 => ?_) (fun h78 => ?_)
  · iterate 2 refine hS _ _ _ _ ?_
    refine qv hQ ?_
    simp_all [twoF]
  · iterate 3 refine hS _ _ _ _ ?_
    refine qv hQ ?_
    simp_all [twoF]
theorem sm_two_4 {x y : Int32} (hd : 1 ≤ d) (hQ : Q (some (.inl (twoF (-4) x y))) M) : Td PR d 199 [.inl (-4), .inl x, .inl y] M Q := by
  obtain ⟨e, rfl⟩ : ∃ e, d = e + 1 := ⟨d - 1, by omega⟩
  refine td_X10_two ?_
  intro S hS
  iterate 2 refine hS _ _ _ _ ?_
  refine And.intro (fun h => absurd h (by decide)) (fun _ => ?_)
  refine And.intro (fun h => absurd h (by decide)) (fun _ => ?_)
  refine And.intro (fun h => absurd h (by decide)) (fun _ => ?_)
  refine And.intro (fun h => absurd h (by decide)) (fun _ => ?_)
  refine And.intro (fun _ => ?_) (fun h => absurd rfl h)
  iterate 3 refine hS _ _ _ _ ?_
  refine And.intro (fun h89 => ?_) (fun h89 => ?_)
  · iterate 2 refine hS _ _ _ _ ?_
    refine qv hQ ?_
    simp_all [twoF]
  · iterate 3 refine hS _ _ _ _ ?_
    refine qv hQ ?_
    simp_all [twoF]
theorem sm_two_5 {x y : Int32} (hd : 1 ≤ d) (hQ : Q (some (.inl (twoF (-5) x y))) M) : Td PR d 199 [.inl (-5), .inl x, .inl y] M Q := by
  obtain ⟨e, rfl⟩ : ∃ e, d = e + 1 := ⟨d - 1, by omega⟩
  refine td_X10_two ?_
  intro S hS
  iterate 2 refine hS _ _ _ _ ?_
  refine And.intro (fun h => absurd h (by decide)) (fun _ => ?_)
  refine And.intro (fun h => absurd h (by decide)) (fun _ => ?_)
  refine And.intro (fun h => absurd h (by decide)) (fun _ => ?_)
  refine And.intro (fun _ => ?_) (fun h => absurd rfl h)
  iterate 3 refine hS _ _ _ _ ?_
  refine And.intro (fun h100 => ?_) (fun h100 => ?_)
  · iterate 2 refine hS _ _ _ _ ?_
    refine qv hQ ?_
    simp_all [twoF]
  · iterate 3 refine hS _ _ _ _ ?_
    refine qv hQ ?_
    simp_all [twoF]
theorem sm_two_6 {x y : Int32} (hd : 1 ≤ d) (hQ : Q (some (.inl (twoF (-6) x y))) M) : Td PR d 199 [.inl (-6), .inl x, .inl y] M Q := by
  obtain ⟨e, rfl⟩ : ∃ e, d = e + 1 := ⟨d - 1, by omega⟩
  refine td_X10_two ?_
  intro S hS
  iterate 2 refine hS _ _ _ _ ?_
  refine And.intro (fun h => absurd h (by decide)) (fun _ => ?_)
  refine And.intro (fun h => absurd h (by decide)) (fun _ => ?_)
  refine And.intro (fun _ => ?_) (fun h => absurd rfl h)
  iterate 4 refine hS _ _ _ _ ?_
  refine qv hQ ?_
  simp_all [twoF]
theorem sm_two_7 {x y : Int32} (hd : 1 ≤ d) (hQ : Q (some (.inl (twoF (-7) x y))) M) : Td PR d 199 [.inl (-7), .inl x, .inl y] M Q := by
  obtain ⟨e, rfl⟩ : ∃ e, d = e + 1 := ⟨d - 1, by omega⟩
  refine td_X10_two ?_
  intro S hS
  iterate 2 refine hS _ _ _ _ ?_
  refine And.intro (fun h => absurd h (by decide)) (fun _ => ?_)
  refine And.intro (fun _ => ?_) (fun h => absurd rfl h)
  iterate 4 refine hS _ _ _ _ ?_
  refine qv hQ ?_
  simp_all [twoF]
theorem sm_two_8 {x y : Int32} (hd : 1 ≤ d) (hQ : Q (some (.inl (twoF (-8) x y))) M) : Td PR d 199 [.inl (-8), .inl x, .inl y] M Q := by
  obtain ⟨e, rfl⟩ : ∃ e, d = e + 1 := ⟨d - 1, by omega⟩
  refine td_X10_two ?_
  intro S hS
  iterate 2 refine hS _ _ _ _ ?_
  refine And.intro (fun _ => ?_) (fun h => absurd rfl h)
  iterate 4 refine hS _ _ _ _ ?_
  refine qv hQ ?_
  simp_all [twoF]
theorem sm_two_9 {x y : Int32} (hd : 1 ≤ d) (hQ : Q (some (.inl (twoF (-9) x y))) M) : Td PR d 199 [.inl (-9), .inl x, .inl y] M Q := by
  obtain ⟨e, rfl⟩ : ∃ e, d = e + 1 := ⟨d - 1, by omega⟩
  refine td_X10_two ?_
  intro S hS
  iterate 2 refine hS _ _ _ _ ?_
  refine And.intro (fun h => absurd h (by decide)) (fun _ => ?_)
  refine And.intro (fun h => absurd h (by decide)) (fun _ => ?_)
  refine And.intro (fun h => absurd h (by decide)) (fun _ => ?_)
  refine And.intro (fun h => absurd h (by decide)) (fun _ => ?_)
  refine And.intro (fun h => absurd h (by decide)) (fun _ => ?_)
  refine And.intro (fun h => absurd h (by decide)) (fun _ => ?_)
  refine And.intro (fun h => absurd h (by decide)) (fun _ => ?_)
  refine And.intro (fun h => absurd h (by decide)) (fun _ => ?_)
  iterate 2 refine hS _ _ _ _ ?_
  refine And.intro (fun h122 => ?_) (fun h122 => ?_)
  · iterate 3 refine hS _ _ _ _ ?_
    refine ⟨h122, ?_⟩
    refine hS _ _ _ _ ?_
    refine qv hQ ?_
    simp_all [twoF]
  · iterate 3 refine hS _ _ _ _ ?_
    refine qv hQ ?_
    simp_all [twoF]
theorem sm_two {x y : Int32} {j : Nat} (hd : 1 ≤ d) (h1 : 1 ≤ j) (h2 : j < 10) (hQ : Q (some (.inl (twoF (- nI j) x y))) M) : Td PR d 199 [.inl (- nI j), .inl x, .inl y] M Q := by
  obtain rfl | rfl | rfl | rfl | rfl | rfl | rfl | rfl | rfl : j = 1 ∨ j = 2 ∨ j = 3 ∨ j = 4 ∨ j = 5 ∨ j = 6 ∨ j = 7 ∨ j = 8 ∨ j = 9 := by omega
  · exact sm_two_1 hd hQ
  · exact sm_two_2 hd hQ
  · exact sm_two_3 hd hQ
  · exact sm_two_4 hd hQ
  · exact sm_two_5 hd hQ
  · exact sm_two_6 hd hQ
  · exact sm_two_7 hd hQ
  · exact sm_two_8 hd hQ
  · exact sm_two_9 hd hQ
end W5
end
section
-- 35.pure6: the reference: what texts give, a night
theorem nI_divn {a b : Nat} (ha : a < 2 ^ 31) (hb : b < 2 ^ 31) : nI a / nI b = nI (a / b) := (Int32.ofNat_div ha hb).symm
theorem irem_nI {a b : Nat} (ha : a < 2 ^ 31) (hb : b < 2 ^ 31) : irem (nI a) (nI b) = nI (a % b) := by
  unfold irem
  rw [nI_divn ha hb, nI_mul, nI_sub (Nat.div_mul_le_self a b)]
  congr 1
  have := Nat.mod_add_div a b
  rw [Nat.mul_comm] at this
  omega
theorem irem2 {x : Int32} (h : ¬ x < 0) : irem x 2 = 0 ∨ irem x 2 = 1 := by
  obtain ⟨n, hn, rfl⟩ := nI_of h
  have e : irem (nI n) 2 = nI (n % 2) := irem_nI hn (by decide)
  rw [e]
  rcases Nat.mod_two_eq_zero_or_one n with z | z <;> rw [z]
  · exact Or.inl rfl
  · exact Or.inr rfl
theorem pcb : ∀ m, m < 512 → 0 < m → nI m &&& (nI m - 1) = nI (m &&& (m - 1)) ∧ (m &&& (m - 1)) < m ∧ pcnt 9 m = pcnt 9 (m &&& (m - 1)) + 1 := by decide +kernel
theorem pcnt_le : ∀ n m, pcnt n m ≤ n := by
  intro n m
  induction n with
  | zero => exact Nat.le_refl _
  | succ n ih => unfold pcnt; split <;> omega
section W6
variable {d b p : Nat} {M : Mem} {Q : PQ}
theorem sm_manyOf {m : Nat} (hd : 1 ≤ d) (hm : m < 512) (hQ : Q (some (.inl (nI (pcnt 9 m)))) M) : Td PR d 152 [.inl (nI m)] M Q := by
  obtain ⟨e, rfl⟩ : ∃ e, d = e + 1 := ⟨d - 1, by omega⟩
  refine td_X10_manyOf ?_
  intro S hS
  have lp : ∀ n, n < 512 → ∀ c, c + pcnt 9 n = pcnt 9 m → S 4 [some (.inl (nI m)), some (.inl (nI c)), some (.inl (nI n))] [] M := by
    intro n
    induction n using Nat.strongRecOn with
    | ind n ih =>
      intro hn c hc
      by_cases h0 : n = 0
      · subst h0
        iterate 2 refine hS _ _ _ _ ?_
        refine And.intro (fun h5 => ?_) (fun h5 => ?_)
        · iterate 2 refine hS _ _ _ _ ?_
          refine qv hQ ?_
          rw [← hc]
          rfl
        · exact absurd rfl h5
      · obtain ⟨q1, q2, q3⟩ := pcb n hn (by omega)
        have := ih _ q2 (by omega) (c + 1) (by omega)
        rw [nI_succ, ← q1] at this
        iterate 2 refine hS _ _ _ _ ?_
        refine And.intro (fun h5 => ?_) (fun h5 => ?_)
        · exact absurd h5 (nI_ne0 (by omega) (by omega))
        · iterate 8 refine hS _ _ _ _ ?_
          exact this
  iterate 4 refine hS _ _ _ _ ?_
  exact lp m hm 0 (by omega)
theorem sm_wideOf (hd : 2 ≤ d) (hb : b < 10) (hQ : Q (some (.inl (wideI (M 31 0 0 (10 + 4 * b))))) M) : Td PR d 133 [.inr (30, 0, 0), .inl (nI b)] M Q := by
  obtain ⟨e, rfl⟩ : ∃ e, d = e + 1 := ⟨d - 1, by omega⟩
  refine td_X10_wideOf ?_
  intro S hS
  iterate 4 refine hS _ _ _ _ ?_
  refine sm_of0 (by omega) (by omega) ?_
  refine hS _ _ _ _ ?_
  refine And.intro (fun h6_2 => ?_) (fun h6_2 => ?_)
  · iterate 2 refine hS _ _ _ _ ?_
    refine qv hQ ?_
    simp_all [wideI]
  refine And.intro (fun h6_3 => ?_) (fun h6_3 => ?_)
  · iterate 2 refine hS _ _ _ _ ?_
    refine qv hQ ?_
    simp_all [wideI]
  refine And.intro (fun h6_4 => ?_) (fun h6_4 => ?_)
  · iterate 2 refine hS _ _ _ _ ?_
    refine qv hQ ?_
    simp_all [wideI]
  refine And.intro (fun h6_5 => ?_) (fun h6_5 => ?_)
  · iterate 2 refine hS _ _ _ _ ?_
    refine qv hQ ?_
    simp_all [wideI]
  iterate 2 refine hS _ _ _ _ ?_
  refine qv hQ ?_
  simp_all [wideI]
theorem sm_takesTo {m : Int32} (hd : 2 ≤ d) (hb : b < 10) (hn : ¬ M 31 0 0 2 < 0) (hQ : Q (some (.inl (takesF (M 31 0 0) b m))) M) : Td PR d 134 [.inr (30, 0, 0), .inl (nI b), .inl m] M Q := by
  have h2 := irem2 hn
  obtain ⟨e, rfl⟩ : ∃ e, d = e + 1 := ⟨d - 1, by omega⟩
  refine td_X10_takesTo ?_
  intro S hS
  iterate 4 refine hS _ _ _ _ ?_
  refine sm_of0 (by omega) (by omega) ?_
  refine hS _ _ _ _ ?_
  refine And.intro (fun h6_1 => ?_) (fun h6_1 => ?_)
  · iterate 3 refine hS _ _ _ _ ?_
    refine And.intro (fun h34 => ?_) (fun h34 => ?_)
    · iterate 4 refine hS _ _ _ _ ?_
      refine sm_of1 (by omega) (by omega) ?_
      refine hS _ _ _ _ ?_
      refine qv hQ ?_
      clear h2
      simp_all [takesF, takesI]
    · iterate 4 refine hS _ _ _ _ ?_
      refine sm_of2 (by omega) (by omega) ?_
      iterate 2 refine hS _ _ _ _ ?_
      refine qv hQ ?_
      clear h2
      simp_all [takesF, takesI]
  refine And.intro (fun h6_4 => ?_) (fun h6_4 => ?_)
  · iterate 4 refine hS _ _ _ _ ?_
    refine ⟨vp_l rfl, ?_⟩
    iterate 2 refine hS _ _ _ _ ?_
    refine ⟨by decide, ?_⟩
    iterate 2 refine hS _ _ _ _ ?_
    refine And.intro (fun h62 => ?_) (fun h62 => ?_)
    · have e0 : irem (M 31 0 0 2) 2 = 0 := h2.resolve_right h62
      iterate 4 refine hS _ _ _ _ ?_
      refine sm_of2 (by omega) (by omega) ?_
      refine hS _ _ _ _ ?_
      refine qv hQ ?_
      clear h2
      simp_all [takesF, takesI]
    · have e1 : ¬ irem (M 31 0 0 2) 2 = 0 := by rw [show irem (M 31 0 0 2) 2 = 1 from h62]; decide
      iterate 4 refine hS _ _ _ _ ?_
      refine sm_of3 (by omega) (by omega) ?_
      iterate 2 refine hS _ _ _ _ ?_
      refine qv hQ ?_
      clear h2
      simp_all [takesF, takesI]
  iterate 4 refine hS _ _ _ _ ?_
  refine sm_of2 (by omega) (by omega) ?_
  refine hS _ _ _ _ ?_
  refine qv hQ ?_
  clear h2
  simp_all [takesF, takesI]
theorem sm_leadsTo (hd : 2 ≤ d) (hb : b < 10) (hQ : Q (some (.inl (leadsI (M 31 0 0 (10 + 4 * b)) (M 31 0 0 (12 + 4 * b)) (M 31 0 0 (13 + 4 * b))))) M) : Td PR d 135 [.inr (30, 0, 0), .inl (nI b)] M Q := by
  obtain ⟨e, rfl⟩ : ∃ e, d = e + 1 := ⟨d - 1, by omega⟩
  refine td_X10_leadsTo ?_
  intro S hS
  iterate 5 refine hS _ _ _ _ ?_
  refine sm_of2 (by omega) (by omega) ?_
  iterate 6 refine hS _ _ _ _ ?_
  refine sm_of0 (by omega) (by omega) ?_
  iterate 2 refine hS _ _ _ _ ?_
  refine And.intro (fun h16 => ?_) (fun h16 => ?_)
  · iterate 2 refine hS _ _ _ _ ?_
    refine qv hQ ?_
    simp_all [leadsI]
  · iterate 6 refine hS _ _ _ _ ?_
    refine sm_of3 (by omega) (by omega) ?_
    iterate 4 refine hS _ _ _ _ ?_
    refine qv hQ ?_
    simp_all [leadsI]
theorem sm_worthOf (hd : 2 ≤ d) (hb : b < 10) (hQ : Q (some (.inl (worthI (M 31 0 0 (10 + 4 * b)) (M 31 0 0 (11 + 4 * b)) (M 31 0 0 (12 + 4 * b)) (M 31 0 0 (13 + 4 * b))))) M) : Td PR d 136 [.inr (30, 0, 0), .inl (nI b)] M Q := by
  obtain ⟨e, rfl⟩ : ∃ e, d = e + 1 := ⟨d - 1, by omega⟩
  refine td_X10_worthOf ?_
  intro S hS
  iterate 4 refine hS _ _ _ _ ?_
  refine sm_of1 (by omega) (by omega) ?_
  iterate 4 refine hS _ _ _ _ ?_
  refine sm_of2 (by omega) (by omega) ?_
  iterate 4 refine hS _ _ _ _ ?_
  refine And.intro (fun h15 => ?_) (fun h15 => ?_)
  · have e15 : absI (M 31 0 0 (11 + 4 * b) - M 31 0 0 (12 + 4 * b)) = M 31 0 0 (11 + 4 * b) - M 31 0 0 (12 + 4 * b) := if_neg (Int32.not_lt.mpr h15)
    iterate 6 refine hS _ _ _ _ ?_
    refine sm_of0 (by omega) (by omega) ?_
    refine hS _ _ _ _ ?_
    refine And.intro (fun h31_1 => ?_) (fun h31_1 => ?_)
    · iterate 4 refine hS _ _ _ _ ?_
      refine qv hQ ?_
      clear h15
      simp_all [worthI]
    refine And.intro (fun h31_2 => ?_) (fun h31_2 => ?_)
    · iterate 4 refine hS _ _ _ _ ?_
      refine qv hQ ?_
      clear h15
      simp_all [worthI]
    refine And.intro (fun h31_3 => ?_) (fun h31_3 => ?_)
    · iterate 6 refine hS _ _ _ _ ?_
      refine qv hQ ?_
      clear h15
      simp_all [worthI]
    refine And.intro (fun h31_4 => ?_) (fun h31_4 => ?_)
    · iterate 7 refine hS _ _ _ _ ?_
      refine sm_of3 (by omega) (by omega) ?_
      iterate 2 refine hS _ _ _ _ ?_
      refine qv hQ ?_
      clear h15
      simp_all [worthI]
    refine And.intro (fun h31_5 => ?_) (fun h31_5 => ?_)
    · iterate 2 refine hS _ _ _ _ ?_
      refine qv hQ ?_
      clear h15
      simp_all [worthI]
    iterate 2 refine hS _ _ _ _ ?_
    refine qv hQ ?_
    clear h15
    simp_all [worthI]
  · have e15 : absI (M 31 0 0 (11 + 4 * b) - M 31 0 0 (12 + 4 * b)) = -(M 31 0 0 (11 + 4 * b) - M 31 0 0 (12 + 4 * b)) := if_pos (nle_lt h15)
    iterate 8 refine hS _ _ _ _ ?_
    refine sm_of0 (by omega) (by omega) ?_
    refine hS _ _ _ _ ?_
    refine And.intro (fun h31_1 => ?_) (fun h31_1 => ?_)
    · iterate 4 refine hS _ _ _ _ ?_
      refine qv hQ ?_
      clear h15
      simp_all [worthI]
    refine And.intro (fun h31_2 => ?_) (fun h31_2 => ?_)
    · iterate 4 refine hS _ _ _ _ ?_
      refine qv hQ ?_
      clear h15
      simp_all [worthI]
    refine And.intro (fun h31_3 => ?_) (fun h31_3 => ?_)
    · iterate 6 refine hS _ _ _ _ ?_
      refine qv hQ ?_
      clear h15
      simp_all [worthI]
    refine And.intro (fun h31_4 => ?_) (fun h31_4 => ?_)
    · iterate 7 refine hS _ _ _ _ ?_
      refine sm_of3 (by omega) (by omega) ?_
      iterate 2 refine hS _ _ _ _ ?_
      refine qv hQ ?_
      clear h15
      simp_all [worthI]
    refine And.intro (fun h31_5 => ?_) (fun h31_5 => ?_)
    · iterate 2 refine hS _ _ _ _ ?_
      refine qv hQ ?_
      clear h15
      simp_all [worthI]
    iterate 2 refine hS _ _ _ _ ?_
    refine qv hQ ?_
    clear h15
    simp_all [worthI]
theorem sm_worksOut {t : Nat} {ky : Nat} (hd : 2 ≤ d) (ht : t < 14) (k1 : ky < 3) (k2 : M 31 0 0 (86 + 2 * t) = nI (1000 * ky + lenF (M 31 0 0) t)) (k3 : okS (ctx (M 31 0 0) t) 3 (lenF (M 31 0 0) t)) (hQ : ∀ M', (∀ k, k ≠ 56 → M' k = M k) → Q (some (.inl (worthT (M 31 0 0) t (M 57 0 0 0) (M 57 0 0 1) (M 57 0 0 2)))) M') : Td PR d 200 [.inr (30, 0, 0), .inl (nI t)] M Q := by
  obtain ⟨e, rfl⟩ : ∃ e, d = e + 1 := ⟨d - 1, by omega⟩
  refine td_X10_worksOut ?_
  intro S hS
  obtain ⟨o1, o2, o3, o4⟩ := k3
  have ix : (86 : Int32) + 2 * nI t = nI (86 + 2 * t) := by
    show nI 86 + nI 2 * nI t = _
    rw [nI_mul, nI_add]
  have el : irem (M 31 0 0 (86 + 2 * t)) 1000 = nI (lenF (M 31 0 0) t) := by rw [k2]; exact nI_rem1000 ky k1 _ (by omega)
  generalize hx : M 57 0 0 0 = x
  generalize hy : M 57 0 0 1 = y
  generalize hz : M 57 0 0 2 = z
  rw [hx, hy, hz] at hQ
  iterate 10 refine hS _ _ _ _ ?_
  rw [ix]
  refine ⟨(by first | assumption | exact vp_in_nI (by simp only [alen]; omega) (by decide)), ?_⟩
  try rw [nI_clamp (by omega)]
  iterate 2 refine hS _ _ _ _ ?_
  refine ⟨by decide, ?_⟩
  rw [el]
  iterate 3 refine hS _ _ _ _ ?_
  refine lp_up (T := fun i => ∀ (o : Option AV) (M' : Mem), (∀ k, k ≠ 56 → M' k = M k) → (∀ j, j < depS (ctx (M 31 0 0) t) i → M' 56 0 0 j = (runS x y z (ctx (M 31 0 0) t) i).2 j) → S 21 [some (.inr (30, 0, 0)), some (.inl (nI t)), some (.inl (nI (depS (ctx (M 31 0 0) t) i))), some (.inl (nI (lenF (M 31 0 0) t))), some (.inl (nI i)), o] [] M') (N := lenF (M 31 0 0) t) ?_ ?_ 0 (Nat.zero_le _) none M (fun _ _ => rfl) (fun j h => absurd h (Nat.not_lt_zero _))
  · intro o M' hF hR
    iterate 3 refine hS _ _ _ _ ?_
    refine And.intro (fun h24 => ?_) (fun h24 => ?_)
    · iterate 4 refine hS _ _ _ _ ?_
      refine ⟨vp_l rfl, ?_⟩
      refine hS _ _ _ _ ?_
      refine qv (hQ M' hF) ?_
      exact (hR 0 (by omega)).symm
    · exact (lp_x rfl h24).elim
  · intro i hi ih o M' hF hR
    have ix2 : (114 : Int32) + 96 * nI t + nI i = nI (114 + 96 * t + i) := by
      show nI 114 + nI 96 * nI t + nI i = _
      rw [nI_mul, nI_add, nI_add]
    have e10 : M' 31 0 0 (114 + 96 * t + i) = ctx (M 31 0 0) t i := by rw [hF 31 (by decide)]; rfl
    have f0 : M' 57 0 0 0 = x := by rw [hF 57 (by decide)]; exact hx
    have f1 : M' 57 0 0 1 = y := by rw [hF 57 (by decide)]; exact hy
    have f2 : M' 57 0 0 2 = z := by rw [hF 57 (by decide)]; exact hz
    have hdl := @depS_le (ctx (M 31 0 0) t) i
    have hr1 : (runS x y z (ctx (M 31 0 0) t) i).1 = depS (ctx (M 31 0 0) t) i := runS_1
    have hds := @depS_s (ctx (M 31 0 0) t) i x y z
    have hrs : (runS x y z (ctx (M 31 0 0) t) (i + 1)) = sgS x y z (ctx (M 31 0 0) t i) (runS x y z (ctx (M 31 0 0) t) i) := rfl
    have fin : ∀ (o' : Option AV) (M2 : Mem) (D : Nat) (tv : Int32), tv = nI D → (∀ k, k ≠ 56 → M2 k = M' k) → D = (sgS x y z (ctx (M 31 0 0) t i) (runS x y z (ctx (M 31 0 0) t) i)).1 → (∀ j, j < D → M2 56 0 0 j = (sgS x y z (ctx (M 31 0 0) t i) (runS x y z (ctx (M 31 0 0) t) i)).2 j) → S 21 [some (.inr (30, 0, 0)), some (.inl (nI t)), some (.inl tv), some (.inl (nI (lenF (M 31 0 0) t))), some (.inl (nI i + 1)), o'] [] M2 := by
      intro o' M2 D tv a0 a1 a2 a3
      subst a0
      have := ih o' M2 (fun k hk => (a1 k hk).trans (hF k hk)) (fun j hj => by rw [hrs]; exact a3 j (by rw [a2, ← hds]; exact hj))
      rw [hds, ← a2, nI_succ] at this
      exact this
    clear ih hds hrs
    have hso := o4 i hi
    clear o4
    generalize ctx (M 31 0 0) t i = v at *
    generalize depS (ctx (M 31 0 0) t) i = D0 at *
    generalize runS x y z (ctx (M 31 0 0) t) i = q at *
    rcases hso with ⟨j, hj, rfl⟩ | ⟨rfl, h1⟩ | ⟨j, j1, j2, rfl, h2⟩
    · have hj3 : j < 10003 := by omega
      rw [sgS_lo hj3, hr1] at fin
      by_cases hlo : j < 10000
      · have hc : nI j < 10000 := nI_lt (b := 10000) hlo (by decide)
        simp only [if_pos hc] at fin
        iterate 3 refine hS _ _ _ _ ?_
        refine And.intro (fun h24 => ?_) (fun h24 => ?_)
        · exact (lp_s rfl hi (by omega) h24).elim
        · iterate 10 refine hS _ _ _ _ ?_
          rw [ix2]
          refine ⟨(by first | assumption | exact vp_in_nI (by simp only [alen]; omega) (by decide)), ?_⟩
          try rw [nI_clamp (by omega)]
          iterate 3 refine hS _ _ _ _ ?_
          refine And.intro (fun h46 => ?_) (fun h46 => ?_)
          · exact absurd (e10 ▸ h46) (nI_pos (by omega))
          · iterate 6 refine hS _ _ _ _ ?_
            refine And.intro (fun h59 => ?_) (fun h59 => ?_)
            · exact absurd (e10 ▸ h59) (nI_ge (b := 10000) hlo (by decide))
            · iterate 3 refine hS _ _ _ _ ?_
              refine ⟨(by first | assumption | exact vp_in_nI (by simp only [alen]; omega) (by decide)), ?_⟩
              try rw [nI_clamp (by omega)]
              iterate 4 refine hS _ _ _ _ ?_
              refine fin _ _ (D0 + 1) _ (nI_succ _).symm ?_ rfl ?_
              · intro k hk; exact mz_k hk
              · intro r hr; simp only [mu, mr, upd, if_pos, and_self]; by_cases z : r = D0
                · rw [if_pos z, if_pos z]; exact e10
                · rw [if_neg z, if_neg z]; exact hR r (by omega)
      · obtain rfl | rfl | rfl : j = 10000 ∨ j = 10001 ∨ j = 10002 := by omega
        · have hc : (if nI 10000 < 10000 then nI 10000 else if nI 10000 = 10000 then x else if nI 10000 = 10001 then y else z) = x := by rfl
          rw [hc] at fin
          iterate 3 refine hS _ _ _ _ ?_
          refine And.intro (fun h24 => ?_) (fun h24 => ?_)
          · exact (lp_s rfl hi (by omega) h24).elim
          · iterate 10 refine hS _ _ _ _ ?_
            rw [ix2]
            refine ⟨(by first | assumption | exact vp_in_nI (by simp only [alen]; omega) (by decide)), ?_⟩
            try rw [nI_clamp (by omega)]
            iterate 3 refine hS _ _ _ _ ?_
            refine And.intro (fun h46 => ?_) (fun h46 => ?_)
            · exact absurd (e10 ▸ h46) (by decide)
            · iterate 6 refine hS _ _ _ _ ?_
              refine And.intro (fun h59 => ?_) (fun h59 => ?_)
              · iterate 6 refine hS _ _ _ _ ?_
                rw [e10]
                refine ⟨vp_l rfl, ?_⟩
                try rw [nI_clamp (by omega)]
                refine hS _ _ _ _ ?_
                refine ⟨(by first | assumption | exact vp_in_nI (by simp only [alen]; omega) (by decide)), ?_⟩
                try rw [nI_clamp (by omega)]
                iterate 4 refine hS _ _ _ _ ?_
                refine fin _ _ (D0 + 1) _ (nI_succ _).symm ?_ rfl ?_
                · intro k hk; exact mz_k hk
                · intro r hr; simp only [mu, mr, upd, if_pos, and_self]; by_cases z : r = D0
                  · rw [if_pos z, if_pos z]; exact f0
                  · rw [if_neg z, if_neg z]; exact hR r (by omega)
              · exact absurd (e10 ▸ (by decide)) h59
        · have hc : (if nI 10001 < 10000 then nI 10001 else if nI 10001 = 10000 then x else if nI 10001 = 10001 then y else z) = y := by rfl
          rw [hc] at fin
          iterate 3 refine hS _ _ _ _ ?_
          refine And.intro (fun h24 => ?_) (fun h24 => ?_)
          · exact (lp_s rfl hi (by omega) h24).elim
          · iterate 10 refine hS _ _ _ _ ?_
            rw [ix2]
            refine ⟨(by first | assumption | exact vp_in_nI (by simp only [alen]; omega) (by decide)), ?_⟩
            try rw [nI_clamp (by omega)]
            iterate 3 refine hS _ _ _ _ ?_
            refine And.intro (fun h46 => ?_) (fun h46 => ?_)
            · exact absurd (e10 ▸ h46) (by decide)
            · iterate 6 refine hS _ _ _ _ ?_
              refine And.intro (fun h59 => ?_) (fun h59 => ?_)
              · iterate 6 refine hS _ _ _ _ ?_
                rw [e10]
                refine ⟨vp_l rfl, ?_⟩
                try rw [nI_clamp (by omega)]
                refine hS _ _ _ _ ?_
                refine ⟨(by first | assumption | exact vp_in_nI (by simp only [alen]; omega) (by decide)), ?_⟩
                try rw [nI_clamp (by omega)]
                iterate 4 refine hS _ _ _ _ ?_
                refine fin _ _ (D0 + 1) _ (nI_succ _).symm ?_ rfl ?_
                · intro k hk; exact mz_k hk
                · intro r hr; simp only [mu, mr, upd, if_pos, and_self]; by_cases z : r = D0
                  · rw [if_pos z, if_pos z]; exact f1
                  · rw [if_neg z, if_neg z]; exact hR r (by omega)
              · exact absurd (e10 ▸ (by decide)) h59
        · have hc : (if nI 10002 < 10000 then nI 10002 else if nI 10002 = 10000 then x else if nI 10002 = 10001 then y else z) = z := by rfl
          rw [hc] at fin
          iterate 3 refine hS _ _ _ _ ?_
          refine And.intro (fun h24 => ?_) (fun h24 => ?_)
          · exact (lp_s rfl hi (by omega) h24).elim
          · iterate 10 refine hS _ _ _ _ ?_
            rw [ix2]
            refine ⟨(by first | assumption | exact vp_in_nI (by simp only [alen]; omega) (by decide)), ?_⟩
            try rw [nI_clamp (by omega)]
            iterate 3 refine hS _ _ _ _ ?_
            refine And.intro (fun h46 => ?_) (fun h46 => ?_)
            · exact absurd (e10 ▸ h46) (by decide)
            · iterate 6 refine hS _ _ _ _ ?_
              refine And.intro (fun h59 => ?_) (fun h59 => ?_)
              · iterate 6 refine hS _ _ _ _ ?_
                rw [e10]
                refine ⟨vp_l rfl, ?_⟩
                try rw [nI_clamp (by omega)]
                refine hS _ _ _ _ ?_
                refine ⟨(by first | assumption | exact vp_in_nI (by simp only [alen]; omega) (by decide)), ?_⟩
                try rw [nI_clamp (by omega)]
                iterate 4 refine hS _ _ _ _ ?_
                refine fin _ _ (D0 + 1) _ (nI_succ _).symm ?_ rfl ?_
                · intro k hk; exact mz_k hk
                · intro r hr; simp only [mu, mr, upd, if_pos, and_self]; by_cases z : r = D0
                  · rw [if_pos z, if_pos z]; exact f2
                  · rw [if_neg z, if_neg z]; exact hR r (by omega)
              · exact absurd (e10 ▸ (by decide)) h59
    · obtain ⟨m, rfl⟩ : ∃ m, D0 = m + 1 := ⟨D0 - 1, by omega⟩
      rw [sgS_n10, hr1] at fin
      have hm := hR m (by omega)
      iterate 3 refine hS _ _ _ _ ?_
      refine And.intro (fun h24 => ?_) (fun h24 => ?_)
      · exact (lp_s rfl hi (by omega) h24).elim
      · iterate 10 refine hS _ _ _ _ ?_
        rw [ix2]
        refine ⟨(by first | assumption | exact vp_in_nI (by simp only [alen]; omega) (by decide)), ?_⟩
        try rw [nI_clamp (by omega)]
        iterate 3 refine hS _ _ _ _ ?_
        refine And.intro (fun h46 => ?_) (fun h46 => ?_)
        · iterate 3 refine hS _ _ _ _ ?_
          refine And.intro (fun h89 => ?_) (fun h89 => ?_)
          · exact absurd e10 h89
          · iterate 11 refine hS _ _ _ _ ?_
            rw [nI_pred]
            refine ⟨(by first | assumption | exact vp_in_nI (by simp only [alen]; omega) (by decide)), ?_⟩
            try rw [nI_clamp (by omega)]
            refine hS _ _ _ _ ?_
            refine And.intro (fun h107 => ?_) (fun h107 => ?_)
            · iterate 2 refine hS _ _ _ _ ?_
              refine ⟨(by first | assumption | exact vp_in_nI (by simp only [alen]; omega) (by decide)), ?_⟩
              try rw [nI_clamp (by omega)]
              iterate 3 refine hS _ _ _ _ ?_
              refine fin _ _ (m + 1) _ rfl ?_ rfl ?_
              · intro k hk; exact mz_k hk
              · intro r hr; simp only [mu, mr, upd, if_pos, and_self, Nat.add_sub_cancel]; by_cases z : r = m
                · rw [if_pos z, if_pos z, ← hm]; simp_all
                · rw [if_neg z, if_neg z]; exact hR r (by omega)
            · iterate 3 refine hS _ _ _ _ ?_
              refine ⟨(by first | assumption | exact vp_in_nI (by simp only [alen]; omega) (by decide)), ?_⟩
              try rw [nI_clamp (by omega)]
              iterate 3 refine hS _ _ _ _ ?_
              refine fin _ _ (m + 1) _ rfl ?_ rfl ?_
              · intro k hk; exact mz_k hk
              · intro r hr; simp only [mu, mr, upd, if_pos, and_self, Nat.add_sub_cancel]; by_cases z : r = m
                · rw [if_pos z, if_pos z, ← hm]; simp_all
                · rw [if_neg z, if_neg z]; exact hR r (by omega)
        · exact absurd (e10 ▸ (by decide)) h46
    · obtain ⟨m, rfl⟩ : ∃ m, D0 = m + 2 := ⟨D0 - 2, by omega⟩
      rw [sgS_op j1 j2, hr1] at fin
      have hm := hR m (by omega)
      have hm1 := hR (m + 1) (by omega)
      have hng := neg_nI j j2 j1
      iterate 3 refine hS _ _ _ _ ?_
      refine And.intro (fun h24 => ?_) (fun h24 => ?_)
      · exact (lp_s rfl hi (by omega) h24).elim
      · iterate 10 refine hS _ _ _ _ ?_
        rw [ix2]
        refine ⟨(by first | assumption | exact vp_in_nI (by simp only [alen]; omega) (by decide)), ?_⟩
        try rw [nI_clamp (by omega)]
        iterate 3 refine hS _ _ _ _ ?_
        refine And.intro (fun h46 => ?_) (fun h46 => ?_)
        · iterate 3 refine hS _ _ _ _ ?_
          refine And.intro (fun h89 => ?_) (fun h89 => ?_)
          · iterate 2 refine hS _ _ _ _ ?_
            rw [nI_m1]
            iterate 11 refine hS _ _ _ _ ?_
            rw [nI_pred]
            refine ⟨(by first | assumption | exact vp_in_nI (by simp only [alen]; omega) (by decide)), ?_⟩
            try rw [nI_clamp (by omega)]
            iterate 4 refine hS _ _ _ _ ?_
            refine ⟨(by first | assumption | exact vp_in_nI (by simp only [alen]; omega) (by decide)), ?_⟩
            try rw [nI_clamp (by omega)]
            refine hS _ _ _ _ ?_
            rw [hm, hm1, e10]
            refine sm_two (by omega) j1 j2 ?_
            refine hS _ _ _ _ ?_
            refine ⟨(by first | assumption | exact vp_in_nI (by simp only [alen]; omega) (by decide)), ?_⟩
            try rw [nI_clamp (by omega)]
            iterate 2 refine hS _ _ _ _ ?_
            refine fin _ _ (m + 1) _ rfl ?_ rfl ?_
            · intro k hk; exact mz_k hk
            · intro r hr; simp only [mu, mr, upd, if_pos, and_self]; by_cases z : r = m
              · rw [if_pos z, if_pos (by omega)]; rfl
              · rw [if_neg z, if_neg (by omega)]; exact hR r (by omega)
          · exact absurd (e10.symm.trans h89) hng.2.1
        · exact absurd (e10 ▸ nle_lt hng.1) h46
theorem sm_thereIn {town : Int32} (hd : 2 ≤ d) (hC : CN (M 31 0 0)) (hQ : Q (some (.inl (thereF (M 31 0 0) town (cP (M 31 0 0))))) M) : Td PR d 147 [.inr (30, 0, 0), .inl town] M Q := by
  obtain ⟨e, rfl⟩ : ∃ e, d = e + 1 := ⟨d - 1, by omega⟩
  refine td_X10_thereIn ?_
  intro S hS
  have hp := hC.2.2.2.1
  have h4 := hC.2.2.1
  iterate 4 refine hS _ _ _ _ ?_
  refine lp_up (T := fun i => S 4 [some (.inr (30, 0, 0)), some (.inl town), some (.inl (thereF (M 31 0 0) town i)), some (.inl (nI i))] [] M) (N := cP (M 31 0 0)) ?_ ?_ 0 (Nat.zero_le _)
  · iterate 5 refine hS _ _ _ _ ?_
    refine ⟨vp_l rfl, ?_⟩
    refine hS _ _ _ _ ?_
    refine And.intro (fun h11 => ?_) (fun h11 => ?_)
    · iterate 2 refine hS _ _ _ _ ?_
      exact hQ
    · exact (lp_x h4 h11).elim
  · intro i hi ih
    rw [nI_succ] at ih
    iterate 5 refine hS _ _ _ _ ?_
    refine ⟨vp_l rfl, ?_⟩
    refine hS _ _ _ _ ?_
    refine And.intro (fun h11 => ?_) (fun h11 => ?_)
    · exact (lp_s h4 hi (by omega) h11).elim
    · iterate 5 refine hS _ _ _ _ ?_
      refine sm_by0 (by omega) (by omega) ?_
      iterate 2 refine hS _ _ _ _ ?_
      refine And.intro (fun h22 => ?_) (fun h22 => ?_)
      · iterate 5 refine hS _ _ _ _ ?_
        refine slv ih ?_
        simp_all [thereF]
      · iterate 4 refine hS _ _ _ _ ?_
        refine sm_by3 (by omega) (by omega) ?_
        refine hS _ _ _ _ ?_
        refine And.intro (fun h31 => ?_) (fun h31 => ?_)
        · iterate 5 refine hS _ _ _ _ ?_
          refine slv ih ?_
          simp_all [thereF]
        · iterate 6 refine hS _ _ _ _ ?_
          refine slv ih ?_
          simp_all [thereF]
end W6
end
section
-- 36.pure7: what a night keeps; the reference's night
theorem ushr8_nI (x : Int32) : ∃ m, m < 2 ^ 24 ∧ ushr8 x = nI m := by
  refine ⟨(x.toUInt32 >>> ((8 : Int32).toUInt32 &&& Int32.toUInt32 31)).toNat, ?_, ?_⟩
  · have e : ((8 : Int32).toUInt32 &&& Int32.toUInt32 31) = 8 := by decide
    rw [e, UInt32.toNat_shiftRight]
    have := x.toUInt32.toNat_lt
    rw [Nat.shiftRight_eq_div_pow]
    have e2 : (8 : UInt32).toNat % 32 = 8 := by decide
    rw [e2]
    omega
  · unfold ushr8 nI
    apply Int32.toBitVec_inj.mp
    show (x.toUInt32 >>> ((8 : Int32).toUInt32 &&& Int32.toUInt32 31)).toBitVec = _
    rw [Int32.toBitVec_ofNat']
    exact (BitVec.ofNat_toNat _ _ ▸ (by simp))
def KP (f f' : FA) : Prop := f' 1 = f 1 ∧ f' 2 = f 2 ∧ f' 3 = f 3 ∧ f' 4 = f 4 ∧ TXE f f'
theorem KP.rf {f : FA} : KP f f := ⟨rfl, rfl, rfl, rfl, TXE.rf⟩
theorem KP.tr {f g h : FA} (a : KP f g) (b : KP g h) : KP f h := ⟨b.1.trans a.1, b.2.1.trans a.2.1, b.2.2.1.trans a.2.2.1, b.2.2.2.1.trans a.2.2.2.1, a.2.2.2.2.tr b.2.2.2.2⟩
theorem KP.up {f : FA} {k : Nat} {v : Int32} (h : k = 0 ∨ (5 ≤ k ∧ k < 9) ∨ (10 ≤ k ∧ k < 86)) : KP f (upd f k v) := by
  refine ⟨upd_ne (by omega), upd_ne (by omega), upd_ne (by omega), upd_ne (by omega), upd_ne (by omega), fun j hj => upd_ne (by omega)⟩
theorem KP.cb {f f' : FA} (h : KP f f') : cB f' = cB f := by unfold cB; rw [h.1]
theorem KP.cp {f f' : FA} (h : KP f f') : cP f' = cP f := by unfold cP; rw [h.2.2.2.1]
theorem KP.ct {f f' : FA} (h : KP f f') : cT f' = cT f := h.2.2.2.2.ct0
theorem KP.cn {f f' : FA} (h : KP f f') (c : CN f) : CN f' := by
  unfold CN
  rw [h.cb, h.cp, h.ct, h.1, h.2.2.2.1, h.2.2.2.2.1]
  exact c
def TXF (f : FA) : Prop := ∀ t, t < cT f → txOk f t
theorem TXE.tok {f f' : FA} (e : TXE f f') {t : Nat} (h : txOk f t) : txOk f' t := by
  obtain ⟨ky, q1, q2, q3⟩ := h
  unfold txOk
  rw [e.len0, e.cx0, e.2 _ (by omega)]
  exact ⟨ky, q1, q2, q3⟩
theorem TXE.txf {f f' : FA} (e : TXE f f') (h : TXF f) : TXF f' := fun t ht => e.tok (h t (by rw [← e.ct0]; exact ht))
theorem okS_mono {c : FA} {a b n : Nat} (h : a ≤ b) (k : okS c a n) : okS c b n := by
  obtain ⟨h1, h2, h3, h4⟩ := k
  refine ⟨h1, h2, h3, fun k hk => ?_⟩
  rcases h4 k hk with ⟨j, hj, e⟩ | z
  · exact Or.inl ⟨j, by omega, e⟩
  · exact Or.inr z
theorem txOk.use {f : FA} {t : Nat} (h : txOk f t) : ∃ ky, ky < 3 ∧ f (86 + 2 * t) = nI (1000 * ky + lenF f t) ∧ okS (ctx f t) 3 (lenF f t) := by
  obtain ⟨ky, h1, h2, h3⟩ := h
  exact ⟨ky, h1, h2, okS_mono (by split <;> omega) h3⟩
theorem counts_c {f : FA} {ky : Int32} : ∀ n, countsF f ky n = -1 ∨ ∃ t, t < n ∧ countsF f ky n = nI t ∧ f (86 + 2 * t) / 1000 = ky := by
  intro n
  induction n with
  | zero => exact Or.inl rfl
  | succ n ih =>
    rw [countsF_s]
    by_cases h : f (86 + 2 * n) / 1000 = ky
    · rw [if_pos h]; exact Or.inr ⟨n, Nat.lt_succ_self n, rfl, h⟩
    · rw [if_neg h]
      rcases ih with z | ⟨t, h1, h2⟩
      · exact Or.inl z
      · exact Or.inr ⟨t, by omega, h2⟩
theorem freeF_s {f : FA} {g : Nat → Nat} {w : Int32} {b n : Nat} : freeF f g w b (n + 1) = if f (11 + 4 * b) = w ∧ nI (pcnt 9 (g b)) < wideB f b then nI b else freeF f g w (b + 1) n := rfl
theorem freeF_c {f : FA} {g : Nat → Nat} {w : Int32} : ∀ n b, freeF f g w b n = -1 ∨ ∃ t, t < b + n ∧ freeF f g w b n = nI t := by
  intro n
  induction n with
  | zero => intro b; exact Or.inl rfl
  | succ n ih =>
    intro b
    rw [freeF_s]
    by_cases h : f (11 + 4 * b) = w ∧ nI (pcnt 9 (g b)) < wideB f b
    · rw [if_pos h]; exact Or.inr ⟨b, by omega, rfl⟩
    · rw [if_neg h]
      rcases ih (b + 1) with z | ⟨t, h1, h2⟩
      · exact Or.inl z
      · exact Or.inr ⟨t, by omega, h2⟩
theorem bedF_c {f : FA} {g : Nat → Nat} {p : Nat} : bedF f g p = -1 ∨ ∃ t, t < cB f ∧ bedF f g p = nI t := by
  unfold bedF
  split
  · exact Or.inl rfl
  · rcases freeF_c (f := f) (g := g) (w := f (50 + 4 * p)) (cB f) 0 with z | ⟨t, h1, h2⟩
    · exact Or.inl z
    · exact Or.inr ⟨t, by omega, h2⟩
theorem orb : ∀ m, m < 512 → ∀ p, p < 9 → nI m ||| ((1 : Int32) <<< (nI p &&& 31)) = nI (m ||| 2 ^ p) ∧ m ||| 2 ^ p < 512 := by decide +kernel
theorem tbb : ∀ m, m < 512 → ∀ p, p < 9 → (nI m >>> (nI p &&& 31)) &&& 1 = if m.testBit p then 1 else 0 := by decide +kernel
theorem lie_kp {f : FA} {g : Nat → Nat} {p : Nat} (hp : p < 9) : KP f (lieF (f, g) p).1 := by
  unfold lieF
  split
  · split
    · exact (KP.up (by omega)).tr (KP.up (by omega))
    · exact KP.rf
  · exact KP.rf
theorem lie_g {f : FA} {g : Nat → Nat} {p : Nat} (hp : p < 9) (hg : ∀ b, g b < 512) : ∀ b, (lieF (f, g) p).2 b < 512 := by
  intro b
  unfold lieF
  split
  · split
    · exact hg b
    · show updN _ _ _ b < 512
      unfold updN
      split
      · exact (orb _ (hg _) p hp).2
      · exact hg b
  · exact hg b
theorem lies_kp {f : FA} : ∀ n, n ≤ 9 → KP f (liesF f n).1 := by
  intro n
  induction n with
  | zero => intro _; exact KP.rf
  | succ n ih => intro hn; exact (ih (by omega)).tr (lie_kp (f := (liesF f n).1) (g := (liesF f n).2) (by omega))
theorem lies_g {f : FA} : ∀ n, n ≤ 9 → ∀ b, (liesF f n).2 b < 512 := by
  intro n
  induction n with
  | zero => intro _ b; exact (by decide : (0 : Nat) < 512)
  | succ n ih => intro hn; exact lie_g (f := (liesF f n).1) (g := (liesF f n).2) (by omega) (ih (by omega))
theorem wakeP_lo {s : Nat} {t g : Int32} {f : FA} {k : Nat} (hk : k < 50 ∨ 86 ≤ k) : ∀ n, n ≤ 9 → wakeP s t g f n k = f k := by
  intro n
  induction n with
  | zero => intro _; rfl
  | succ n ih =>
    intro hn
    unfold wakeP
    split
    · rw [upd_ne (by omega), upd_ne (by omega), upd_ne (by omega)]; exact ih (by omega)
    · exact ih (by omega)
theorem wakeP_kp {s : Nat} {t g : Int32} {f : FA} {n : Nat} (hn : n ≤ 9) : KP f (wakeP s t g f n) := ⟨wakeP_lo (by omega) n hn, wakeP_lo (by omega) n hn, wakeP_lo (by omega) n hn, wakeP_lo (by omega) n hn, wakeP_lo (by omega) n hn, fun k hk => wakeP_lo (by omega) n hn⟩
theorem wakeB_kp {g : Nat → Nat} {f : FA} {b : Nat} (hb : b < 10) (hp : cP f ≤ 9) : KP f (wakeB g f b) := by
  unfold wakeB
  dsimp only
  split
  · exact (((((wakeP_kp hp).tr (KP.up (by omega))).tr (KP.up (by omega))).tr (KP.up (by omega))).tr (KP.up (by omega)))
  · exact (((wakeP_kp hp).tr (KP.up (by omega))).tr (KP.up (by omega)))
theorem wakeF_kp {g : Nat → Nat} {f : FA} (hp : cP f ≤ 9) : ∀ n, n ≤ 10 → KP f (wakeF g f n) := by
  intro n
  induction n with
  | zero => intro _; exact KP.rf
  | succ n ih =>
    intro hn
    have h := ih (by omega)
    exact h.tr (wakeB_kp (by omega) (by rw [h.cp]; exact hp))
theorem draw_kp {f : FA} : KP f (drawF f) := KP.up (Or.inl rfl)
theorem carry_ix {f : FA} (hC : CN f) (h : 0 < f 1) (x : Int32) : ∃ b, b < cB f ∧ irem (ushr8 x) (f 1) = nI b := by
  obtain ⟨m, hm, e⟩ := ushr8_nI x
  rw [e, hC.1, irem_nI (by omega) (by have := hC.2.1; omega)]
  refine ⟨m % cB f, Nat.mod_lt _ ?_, rfl⟩
  refine Nat.pos_of_ne_zero fun z => ?_
  rw [hC.1, z] at h
  exact absurd h (by decide)
theorem carry_kp {f : FA} (hC : CN f) : KP f (carryF f) := by
  unfold carryF
  dsimp only
  split
  · rename_i h
    obtain ⟨b, hb, e⟩ := carry_ix (draw_kp.cn hC) h.2 (drawZ (drawF f))
    have e' : irem (drawV (drawF f)) ((drawF f) 1) = nI b := e
    rw [e']
    have hb9 : b < 10 := by have := (draw_kp.cn hC).2.1; omega
    rw [nI_clamp (by omega)]
    exact (((draw_kp.tr draw_kp).tr draw_kp).tr (KP.up (by omega))).tr (KP.up (by omega))
  · exact draw_kp
/-- what many nights keep -/
def KN (f f' : FA) : Prop := f' 1 = f 1 ∧ f' 3 = f 3 ∧ f' 4 = f 4 ∧ TXE f f'
theorem KN.rf {f : FA} : KN f f := ⟨rfl, rfl, rfl, TXE.rf⟩
theorem KN.tr {f g h : FA} (a : KN f g) (b : KN g h) : KN f h := ⟨b.1.trans a.1, b.2.1.trans a.2.1, b.2.2.1.trans a.2.2.1, a.2.2.2.tr b.2.2.2⟩
theorem KP.kn {f f' : FA} (h : KP f f') : KN f f' := ⟨h.1, h.2.2.1, h.2.2.2.1, h.2.2.2.2⟩
theorem KN.cb {f f' : FA} (h : KN f f') : cB f' = cB f := by unfold cB; rw [h.1]
theorem KN.cp {f f' : FA} (h : KN f f') : cP f' = cP f := by unfold cP; rw [h.2.2.1]
theorem KN.cn {f f' : FA} (h : KN f f') (c : CN f) : CN f' := by
  unfold CN
  rw [h.cb, h.cp, h.2.2.2.ct0, h.1, h.2.2.1, h.2.2.2.1]
  exact c
theorem night_mid {f : FA} (hC : CN f) : KP f (carryF (wakeF (liesF f (cP f)).2 (liesF f (cP f)).1 (cB f))) := by
  have h1 := lies_kp (f := f) (cP f) hC.2.2.2.1
  have h2 := wakeF_kp (g := (liesF f (cP f)).2) (f := (liesF f (cP f)).1) (by rw [h1.cp]; exact hC.2.2.2.1) (cB f) hC.2.1
  exact (h1.tr h2).tr (carry_kp ((h1.tr h2).cn hC))
theorem night_kn {f : FA} (hC : CN f) : KN f (nightF f) := by
  obtain ⟨a, _, b, c, e, d⟩ := night_mid hC
  unfold nightF
  exact ⟨(upd_ne (by decide)).trans a, (upd_ne (by decide)).trans b, (upd_ne (by decide)).trans c, (upd_ne (by decide)).trans e, fun k hk => (upd_ne (by omega)).trans (d k hk)⟩
theorem night_2 {f : FA} (hC : CN f) : (nightF f) 2 = f 2 + 1 := by
  have := (night_mid hC).2.1
  unfold nightF
  rw [upd_at, this]
/-- what nights need: counts, texts, THE NIGHT below K -/
def NM (K : Nat) (f : FA) : Prop := CN f ∧ TXF f ∧ isBd K (f 2)
theorem night_nm {K : Nat} {f : FA} (h : NM K f) : NM (K + 1) (nightF f) := by
  obtain ⟨a, b, j, hj, e⟩ := h
  exact ⟨(night_kn a).cn a, (night_kn a).2.2.2.txf b, j + 1, by omega, by rw [night_2 a, e, nI_succ]⟩
theorem nights_nm {K : Nat} {f : FA} (h : NM K f) : ∀ n, NM (K + n) (nightsF f n) := by
  intro n
  induction n with
  | zero => exact h
  | succ n ih => exact night_nm ih
theorem nights_kn {K : Nat} {f : FA} (h : NM K f) : ∀ n, KN f (nightsF f n) := by
  intro n
  induction n with
  | zero => exact KN.rf
  | succ n ih => exact ih.tr (night_kn (nights_nm h n).1)
theorem NM.pos {K : Nat} {f : FA} (h : NM K f) (hK : K ≤ 100000) : ¬ f 2 < 0 := by
  obtain ⟨_, _, j, hj, e⟩ := h
  rw [e]
  exact nI_pos (by omega)
end
section
-- 37.pure8: the reference's night, walked
theorem upd_mu {M : Mem} {k i j s : Nat} {v : Int32} : mu M k i j s v k i j = upd (M k i j) s v := mu_at M k i j s v
section W8
variable {d b p K : Nat} {M : Mem} {Q : PQ}
theorem sm_hoursGive (hd : 3 ≤ d) (hp : p < cP (M 31 0 0)) (hN : NM K (M 31 0 0)) (hQ : ∀ M', (∀ k, k ≠ 56 → k ≠ 57 → M' k = M k) → Q (some (.inl (hoursF (M 31 0 0) p))) M') : Td PR d 148 [.inr (30, 0, 0), .inl (nI p)] M Q := by
  have hp9 := hN.1.2.2.2.1
  generalize hW : hoursF (M 31 0 0) p = W at hQ
  unfold hoursF at hW
  obtain ⟨e, rfl⟩ : ∃ e, d = e + 1 := ⟨d - 1, by omega⟩
  refine td_X10_hoursGive ?_
  intro S hS
  iterate 3 refine hS _ _ _ _ ?_
  refine sm_counts (by omega) hN.1 ?_
  iterate 6 refine hS _ _ _ _ ?_
  refine sm_by0 (by omega) (by omega) ?_
  refine hS _ _ _ _ ?_
  refine sm_thereIn (by omega) hN.1 ?_
  iterate 8 refine hS _ _ _ _ ?_
  refine sm_by2 (by omega) (by omega) ?_
  refine hS _ _ _ _ ?_
  refine ⟨vp_l rfl, ?_⟩
  try rw [show Int32.toNatClampNeg 0 = 0 from rfl]
  iterate 7 refine hS _ _ _ _ ?_
  refine ⟨vp_l rfl, ?_⟩
  try rw [show Int32.toNatClampNeg 2 = 2 from rfl]
  refine hS _ _ _ _ ?_
  refine ⟨vp_l rfl, ?_⟩
  try rw [show Int32.toNatClampNeg 1 = 1 from rfl]
  iterate 5 refine hS _ _ _ _ ?_
  refine ⟨vp_l rfl, ?_⟩
  try rw [show Int32.toNatClampNeg 2 = 2 from rfl]
  iterate 2 refine hS _ _ _ _ ?_
  refine And.intro (fun h49 => ?_) (fun h49 => ?_)
  · rcases counts_c (f := M 31 0 0) (ky := 0) (cT (M 31 0 0)) with z | ⟨t, t1, t2, t3⟩
    · exact absurd h49 (by rw [z]; decide)
    have h14 := hN.1.2.2.2.2.2
    obtain ⟨ky, k1, k2, k3⟩ := (hN.2.1 t t1).use
    rw [t2] at hW ⊢
    rw [if_neg (nI_pos (by omega)), nI_clamp (by omega)] at hW
    iterate 3 refine hS _ _ _ _ ?_
    refine sm_worksOut (M := mu (mu (mu M 57 0 0 0 (M 31 0 0 (52 + 4 * p))) 57 0 0 1 (M 31 0 0 2)) 57 0 0 2 (thereF (M 31 0 0) (M 31 0 0 (50 + 4 * p)) (cP (M 31 0 0)))) (by omega) (by omega) k1 k2 k3 (fun M' hF => ?_)
    iterate 3 refine hS _ _ _ _ ?_
    refine sm_within (by omega) ?_
    refine hS _ _ _ _ ?_
    first | (refine qv (hQ _ ?_) hW.symm; intro k k1 k2; exact (hF k k1).trans ((mz_k k2).trans ((mz_k k2).trans (mz_k k2)))) | (refine qv (hQ _ ?_) hW.symm; intro k k1 k2; exact (mz_k k2).trans ((mz_k k2).trans (mz_k k2)))
  · rw [if_pos (nle_lt h49)] at hW
    iterate 3 refine hS _ _ _ _ ?_
    first | (refine qv (hQ _ ?_) hW.symm; intro k k1 k2; exact (hF k k1).trans ((mz_k k2).trans ((mz_k k2).trans (mz_k k2)))) | (refine qv (hQ _ ?_) hW.symm; intro k k1 k2; exact (mz_k k2).trans ((mz_k k2).trans (mz_k k2)))
theorem sm_bedFor {g : Nat → Nat} (hd : 4 ≤ d) (hp : p < cP (M 31 0 0)) (hN : NM K (M 31 0 0)) (hg : ∀ b, g b < 512) (hG : ∀ b, b < cB (M 31 0 0) → M 35 0 0 b = nI (g b)) (hQ : ∀ M', (∀ k, k ≠ 56 → k ≠ 57 → M' k = M k) → Q (some (.inl (bedF (M 31 0 0) g p))) M') : Td PR d 153 [.inr (30, 0, 0), .inl (nI p)] M Q := by
  have hp9 := hN.1.2.2.2.1
  have hb10 := hN.1.2.1
  generalize hW : bedF (M 31 0 0) g p = W at hQ
  unfold bedF at hW
  obtain ⟨e, rfl⟩ : ∃ e, d = e + 1 := ⟨d - 1, by omega⟩
  refine td_X10_bedFor ?_
  intro S hS
  have lp : ∀ M', (∀ k, k ≠ 56 → k ≠ 57 → M' k = M k) → freeF (M 31 0 0) g (M 31 0 0 (50 + 4 * p)) 0 (cB (M 31 0 0)) = W → S 12 [some (.inr (30, 0, 0)), some (.inl (nI p)), some (.inl 0)] [] M' := by
    intro M' hF hW
    have e31 : M' 31 = M 31 := hF 31 (by decide) (by decide)
    have e35 : M' 35 = M 35 := hF 35 (by decide) (by decide)
    have e1 : M' 31 0 0 1 = nI (cB (M 31 0 0)) := by rw [e31]; exact hN.1.1
    refine lp_up (T := fun i => freeF (M 31 0 0) g (M 31 0 0 (50 + 4 * p)) i (cB (M 31 0 0) - i) = W → S 12 [some (.inr (30, 0, 0)), some (.inl (nI p)), some (.inl (nI i))] [] M') (N := cB (M 31 0 0)) ?_ ?_ 0 (Nat.zero_le _) hW
    · intro hW
      rw [Nat.sub_self] at hW
      iterate 5 refine hS _ _ _ _ ?_
      refine ⟨vp_l rfl, ?_⟩
      try rw [show Int32.toNatClampNeg 1 = 1 from rfl]
      refine hS _ _ _ _ ?_
      refine And.intro (fun h19 => ?_) (fun h19 => ?_)
      · iterate 2 refine hS _ _ _ _ ?_
        exact qv (hQ _ hF) hW.symm
      · exact (lp_x e1 h19).elim
    · intro i hi ih hW
      have es : cB (M 31 0 0) - i = (cB (M 31 0 0) - (i + 1)) + 1 := by omega
      rw [es, freeF_s] at hW
      have hgi := hG i hi
      rw [← e35] at hgi
      iterate 5 refine hS _ _ _ _ ?_
      refine ⟨vp_l rfl, ?_⟩
      try rw [show Int32.toNatClampNeg 1 = 1 from rfl]
      refine hS _ _ _ _ ?_
      refine And.intro (fun h19 => ?_) (fun h19 => ?_)
      · exact (lp_s e1 hi (by omega) h19).elim
      · iterate 4 refine hS _ _ _ _ ?_
        refine sm_of1 (by omega) (by omega) ?_
        iterate 4 refine hS _ _ _ _ ?_
        refine sm_by0 (by omega) (by omega) ?_
        refine hS _ _ _ _ ?_
        refine And.intro (fun h34 => ?_) (fun h34 => ?_)
        · rw [e31] at h34
          rw [if_neg (fun z => h34 z.1)] at hW
          iterate 2 refine hS _ _ _ _ ?_
          have := ih hW
          rw [nI_succ] at this
          exact this
        · iterate 4 refine hS _ _ _ _ ?_
          refine ⟨(by first | assumption | exact vp_in_nI (by simp only [alen]; omega) (by decide)), ?_⟩
          try rw [nI_clamp (by omega)]
          refine hS _ _ _ _ ?_
          rw [hgi]
          refine sm_manyOf (by omega) (hg i) ?_
          iterate 3 refine hS _ _ _ _ ?_
          refine sm_wideOf (by omega) (by omega) ?_
          refine hS _ _ _ _ ?_
          refine And.intro (fun h51 => ?_) (fun h51 => ?_)
          · rw [e31] at h51
            rw [if_neg (fun z => Int32.not_lt.mpr h51 z.2)] at hW
            iterate 2 refine hS _ _ _ _ ?_
            have := ih hW
            rw [nI_succ] at this
            exact this
          · rw [e31] at h34 h51
            rw [if_pos ⟨h34, nle_lt h51⟩] at hW
            iterate 2 refine hS _ _ _ _ ?_
            exact qv (hQ _ hF) hW.symm
  iterate 3 refine hS _ _ _ _ ?_
  refine sm_hoursGive (by omega) hp hN (fun M' hF => ?_)
  refine hS _ _ _ _ ?_
  refine And.intro (fun h5 => ?_) (fun h5 => ?_)
  · rw [if_neg h5] at hW
    iterate 2 refine hS _ _ _ _ ?_
    exact lp M' hF hW
  · rw [if_pos h5] at hW
    iterate 2 refine hS _ _ _ _ ?_
    exact qv (hQ _ hF) hW.symm
theorem sm_liesDown {g : Nat → Nat} (hd : 5 ≤ d) (hp : p < cP (M 31 0 0)) (hN : NM K (M 31 0 0)) (h3 : M 31 0 0 (53 + 4 * p) = 0) (hg : ∀ b, g b < 512) (hG : ∀ b, b < cB (M 31 0 0) → M 35 0 0 b = nI (g b))
    (hQ : ∀ M', (∀ k, k ≠ 31 → k ≠ 35 → k ≠ 56 → k ≠ 57 → M' k = M k) → M' 31 0 0 = (lieF (M 31 0 0, g) p).1 → (∀ b, b < cB (M 31 0 0) → M' 35 0 0 b = nI ((lieF (M 31 0 0, g) p).2 b)) → Q none M') : Td PR d 154 [.inr (30, 0, 0), .inl (nI p)] M Q := by
  have hp9 := hN.1.2.2.2.1
  have hb10 := hN.1.2.1
  generalize hW : lieF (M 31 0 0, g) p = W at hQ
  unfold lieF at hW
  rw [if_pos h3] at hW
  obtain ⟨e, rfl⟩ : ∃ e, d = e + 1 := ⟨d - 1, by omega⟩
  refine td_X10_liesDown ?_
  intro S hS
  iterate 3 refine hS _ _ _ _ ?_
  refine sm_bedFor (by omega) hp hN hg hG (fun M' hF => ?_)
  have e31 : M' 31 = M 31 := hF 31 (by decide) (by decide)
  have e35 : M' 35 = M 35 := hF 35 (by decide) (by decide)
  iterate 3 refine hS _ _ _ _ ?_
  refine And.intro (fun h7 => ?_) (fun h7 => ?_)
  · rw [if_pos h7] at hW
    iterate 5 refine hS _ _ _ _ ?_
    refine ⟨vp_l rfl, ?_⟩
    try rw [show Int32.toNatClampNeg 6 = 6 from rfl]
    iterate 3 refine hS _ _ _ _ ?_
    refine ⟨vp_l rfl, ?_⟩
    try rw [show Int32.toNatClampNeg 6 = 6 from rfl]
    iterate 7 refine hS _ _ _ _ ?_
    refine sm_by2 (by omega) (by omega) ?_
    iterate 5 refine hS _ _ _ _ ?_
    refine sm_within (by omega) ?_
    refine hS _ _ _ _ ?_
    refine sm_lays2 (by omega) (by omega) ?_
    refine hS _ _ _ _ ?_
    refine hQ _ ?_ ?_ ?_
    · intro k k1 k2 k3 k4
      exact (mz_k k1).trans ((mz_k k1).trans (hF k k3 k4))
    · rw [← hW]
      have e52 : upd (M 31 0 0) 6 (M 31 0 0 6 + 1) (52 + 4 * p) = M 31 0 0 (52 + 4 * p) := upd_ne (by omega)
      show _ = upd (upd (M 31 0 0) 6 (M 31 0 0 6 + 1)) (52 + 4 * p) (clamp (M 31 0 0 (52 + 4 * p) + 1) 0 9)
      rw [upd_mu, ← e52]
      rw [upd_mu, e31]
    · intro b hb
      rw [← hW]
      show M' 35 0 0 b = _
      rw [e35]
      exact hG b hb
  · rcases bedF_c (f := M 31 0 0) (g := g) (p := p) with z | ⟨b, b1, b2⟩
    · exact absurd (by rw [z]; decide) h7
    rw [if_neg h7] at hW
    rw [b2] at hW ⊢
    rw [nI_clamp (by omega)] at hW
    have hgb := hG b b1
    rw [← e35] at hgb
    iterate 5 refine hS _ _ _ _ ?_
    refine ⟨(by first | assumption | exact vp_in_nI (by simp only [alen]; omega) (by decide)), ?_⟩
    try rw [nI_clamp (by omega)]
    iterate 5 refine hS _ _ _ _ ?_
    rw [hgb, (orb _ (hg b) p (by omega)).1]
    refine ⟨(by first | assumption | exact vp_in_nI (by simp only [alen]; omega) (by decide)), ?_⟩
    try rw [nI_clamp (by omega)]
    iterate 2 refine hS _ _ _ _ ?_
    refine hQ _ ?_ ?_ ?_
    · intro k k1 k2 k3 k4
      exact (mz_k k2).trans (hF k k3 k4)
    · rw [← hW]
      show M' 31 0 0 = _
      rw [e31]
    · intro c hc
      rw [← hW]
      show _ = nI (updN g b (g b ||| 2 ^ p) c)
      unfold updN
      by_cases z : c = b
      · rw [if_pos z, z, upd_mu, upd_at]
      · rw [if_neg z, upd_mu, upd_ne z, e35]
        exact hG c hc
theorem wakeP_s {s : Nat} {w gn : Int32} {f : FA} {n : Nat} : wakeP s w gn f (n + 1) = if s.testBit n then upd (upd (upd (wakeP s w gn f n) (50 + 4 * n) w) (52 + 4 * n) 0) (53 + 4 * n) gn else wakeP s w gn f n := rfl
theorem sm_wakes {g : Nat → Nat} (hd : 3 ≤ d) (hb : b < cB (M 31 0 0)) (hN : NM K (M 31 0 0)) (hK : K ≤ 100000) (hg : ∀ b, g b < 512) (hG : M 35 0 0 b = nI (g b))
    (hQ : ∀ M', (∀ k, k ≠ 31 → M' k = M k) → M' 31 0 0 = wakeB g (M 31 0 0) b → Q none M') : Td PR d 155 [.inr (30, 0, 0), .inl (nI b)] M Q := by
  have hp9 := hN.1.2.2.2.1
  have hb10 := hN.1.2.1
  have hC := hN.1
  have hn := hN.pos hK
  have hgb := hg b
  generalize hW : wakeB g (M 31 0 0) b = W at hQ
  unfold wakeB at hW
  dsimp only at hW
  generalize hmm : pcnt 9 (g b) = mm at hW
  have hmm9 : mm ≤ 9 := by rw [← hmm]; exact pcnt_le 9 _
  generalize htt : takesF (M 31 0 0) b (nI mm) = tt at hW
  obtain ⟨e, rfl⟩ : ∃ e, d = e + 1 := ⟨d - 1, by omega⟩
  refine td_X10_wakes ?_
  intro S hS
  have lp : ∀ (gn : Int32), gn = (if M 31 0 0 (10 + 4 * b) = 5 then 1 else 0) → S 37 [some (.inr (30, 0, 0)), some (.inl (nI b)), some (.inl (nI mm)), some (.inl tt), some (.inl gn), some (.inl 0)] [] M := by
    intro gn hgn
    have eg : gn = 0 ∨ gn = 1 := by rw [hgn]; split <;> simp
    rw [← hgn] at hW
    refine lp_up (T := fun i => ∀ M', (∀ k, k ≠ 31 → M' k = M k) → M' 31 0 0 = wakeP (g b) tt gn (M 31 0 0) i → S 37 [some (.inr (30, 0, 0)), some (.inl (nI b)), some (.inl (nI mm)), some (.inl tt), some (.inl gn), some (.inl (nI i))] [] M') (N := cP (M 31 0 0)) ?_ ?_ 0 (Nat.zero_le _) M (fun _ _ => rfl) rfl
    · intro M' hF hM
      have e4 : M' 31 0 0 4 = nI (cP (M 31 0 0)) := by rw [hM, wakeP_lo (by omega) _ hp9]; exact hC.2.2.1
      generalize hV : wakeP (g b) tt gn (M 31 0 0) (cP (M 31 0 0)) = V at *
      have v10 : V (10 + 4 * b) = M 31 0 0 (10 + 4 * b) := by rw [← hV]; exact wakeP_lo (by omega) _ hp9
      have v11 : V (11 + 4 * b) = M 31 0 0 (11 + 4 * b) := by rw [← hV]; exact wakeP_lo (by omega) _ hp9
      have v12 : V (12 + 4 * b) = M 31 0 0 (12 + 4 * b) := by rw [← hV]; exact wakeP_lo (by omega) _ hp9
      have r10 : ∀ x y, upd (upd V 5 x) 7 y (10 + 4 * b) = V (10 + 4 * b) := fun x y => by rw [upd_ne (by omega), upd_ne (by omega)]
      have r11 : ∀ x y, upd (upd V 5 x) 7 y (11 + 4 * b) = V (11 + 4 * b) := fun x y => by rw [upd_ne (by omega), upd_ne (by omega)]
      have r12 : ∀ x y, upd (upd V 5 x) 7 y (12 + 4 * b) = V (12 + 4 * b) := fun x y => by rw [upd_ne (by omega), upd_ne (by omega)]
      have r12b : ∀ x y z, upd (upd (upd V 5 x) 7 y) (11 + 4 * b) z (12 + 4 * b) = V (12 + 4 * b) := fun x y z => by rw [upd_ne (by omega), upd_ne (by omega), upd_ne (by omega)]
      iterate 5 refine hS _ _ _ _ ?_
      refine ⟨vp_l rfl, ?_⟩
      try rw [show Int32.toNatClampNeg 4 = 4 from rfl]
      refine hS _ _ _ _ ?_
      refine And.intro (fun h45 => ?_) (fun h45 => ?_)
      · iterate 5 refine hS _ _ _ _ ?_
        refine ⟨vp_l rfl, ?_⟩
        try rw [show Int32.toNatClampNeg 5 = 5 from rfl]
        iterate 3 refine hS _ _ _ _ ?_
        refine ⟨vp_l rfl, ?_⟩
        try rw [show Int32.toNatClampNeg 5 = 5 from rfl]
        iterate 5 refine hS _ _ _ _ ?_
        refine ⟨vp_l rfl, ?_⟩
        try rw [show Int32.toNatClampNeg 7 = 7 from rfl]
        iterate 2 refine hS _ _ _ _ ?_
        refine And.intro (fun h122 => ?_) (fun h122 => ?_)
        · have hk5 : ¬ M 31 0 0 (10 + 4 * b) = 5 := fun z => by rw [hgn, if_pos z] at h122; exact absurd h122 (by decide)
          rw [if_neg hk5] at hW
          iterate 3 refine hS _ _ _ _ ?_
          refine ⟨vp_l rfl, ?_⟩
          try rw [show Int32.toNatClampNeg 7 = 7 from rfl]
          iterate 2 refine hS _ _ _ _ ?_
          refine And.intro (fun h133 => ?_) (fun h133 => ?_)
          · rw [if_neg (fun z => Int32.not_lt.mpr h133 z.1)] at hW
            refine hS _ _ _ _ ?_
            refine hQ _ ?_ ?_
            · intro k hk
              simp only [mz_k hk]
              exact hF k hk
            · rw [← hW]
              simp only [upd_mu, hM, r11, r12, r12b, v11, v12]
          · iterate 4 refine hS _ _ _ _ ?_
            refine sm_of0 (by omega) (by omega) ?_
            iterate 2 refine hS _ _ _ _ ?_
            refine And.intro (fun h143 => ?_) (fun h143 => ?_)
            · simp only [upd_mu, hM, r10, v10] at h143
              rw [if_neg (fun z => h143 z.2)] at hW
              refine hS _ _ _ _ ?_
              refine hQ _ ?_ ?_
              · intro k hk
                simp only [mz_k hk]
                exact hF k hk
              · rw [← hW]
                simp only [upd_mu, hM, r11, r12, r12b, v11, v12]
            · simp only [upd_mu, hM, r10, v10] at h143
              rw [if_pos ⟨nle_lt h133, h143⟩] at hW
              iterate 4 refine hS _ _ _ _ ?_
              refine sm_of1 (by omega) (by omega) ?_
              iterate 8 refine hS _ _ _ _ ?_
              refine sm_of2 (by omega) (by omega) ?_
              refine hS _ _ _ _ ?_
              refine sm_put1 (by omega) (by omega) ?_
              iterate 5 refine hS _ _ _ _ ?_
              refine sm_put2 (by omega) (by omega) ?_
              refine hS _ _ _ _ ?_
              refine hQ _ ?_ ?_
              · intro k hk
                simp only [mz_k hk]
                exact hF k hk
              · rw [← hW]
                simp only [upd_mu, hM, r11, r12, r12b, v11, v12]
        · have hk5 : M 31 0 0 (10 + 4 * b) = 5 := by
            by_cases z : M 31 0 0 (10 + 4 * b) = 5
            · exact z
            · rw [hgn, if_neg z] at h122; exact absurd rfl h122
          rw [if_pos hk5] at hW
          iterate 4 refine hS _ _ _ _ ?_
          refine ⟨vp_l rfl, ?_⟩
          try rw [show Int32.toNatClampNeg 7 = 7 from rfl]
          iterate 2 refine hS _ _ _ _ ?_
          refine And.intro (fun h133 => ?_) (fun h133 => ?_)
          · rw [if_neg (fun z => Int32.not_lt.mpr h133 z.1)] at hW
            refine hS _ _ _ _ ?_
            refine hQ _ ?_ ?_
            · intro k hk
              simp only [mz_k hk]
              exact hF k hk
            · rw [← hW]
              simp only [upd_mu, hM, r11, r12, r12b, v11, v12]
          · iterate 4 refine hS _ _ _ _ ?_
            refine sm_of0 (by omega) (by omega) ?_
            iterate 2 refine hS _ _ _ _ ?_
            refine And.intro (fun h143 => ?_) (fun h143 => ?_)
            · simp only [upd_mu, hM, r10, v10] at h143
              rw [if_neg (fun z => h143 z.2)] at hW
              refine hS _ _ _ _ ?_
              refine hQ _ ?_ ?_
              · intro k hk
                simp only [mz_k hk]
                exact hF k hk
              · rw [← hW]
                simp only [upd_mu, hM, r11, r12, r12b, v11, v12]
            · simp only [upd_mu, hM, r10, v10] at h143
              rw [if_pos ⟨nle_lt h133, h143⟩] at hW
              iterate 4 refine hS _ _ _ _ ?_
              refine sm_of1 (by omega) (by omega) ?_
              iterate 8 refine hS _ _ _ _ ?_
              refine sm_of2 (by omega) (by omega) ?_
              refine hS _ _ _ _ ?_
              refine sm_put1 (by omega) (by omega) ?_
              iterate 5 refine hS _ _ _ _ ?_
              refine sm_put2 (by omega) (by omega) ?_
              refine hS _ _ _ _ ?_
              refine hQ _ ?_ ?_
              · intro k hk
                simp only [mz_k hk]
                exact hF k hk
              · rw [← hW]
                simp only [upd_mu, hM, r11, r12, r12b, v11, v12]
      · exact (lp_x e4 h45).elim
    · intro i hi ih M' hF hM
      have e4 : M' 31 0 0 4 = nI (cP (M 31 0 0)) := by rw [hM, wakeP_lo (by omega) _ (by omega)]; exact hC.2.2.1
      have tb := tbb (g b) hgb i (by omega)
      have e35 : M' 35 0 0 b = nI (g b) := by rw [hF 35 (by decide)]; exact hG
      have go : ∀ M2, (∀ k, k ≠ 31 → M2 k = M' k) → M2 31 0 0 = wakeP (g b) tt gn (M 31 0 0) (i + 1) → S 37 [some (.inr (30, 0, 0)), some (.inl (nI b)), some (.inl (nI mm)), some (.inl tt), some (.inl gn), some (.inl (nI i + 1))] [] M2 := by
        intro M2 a1 a2
        have := ih M2 (fun k hk => (a1 k hk).trans (hF k hk)) a2
        rw [nI_succ] at this
        exact this
      iterate 5 refine hS _ _ _ _ ?_
      refine ⟨vp_l rfl, ?_⟩
      try rw [show Int32.toNatClampNeg 4 = 4 from rfl]
      refine hS _ _ _ _ ?_
      refine And.intro (fun h45 => ?_) (fun h45 => ?_)
      · exact (lp_s e4 hi (by omega) h45).elim
      · iterate 4 refine hS _ _ _ _ ?_
        refine ⟨(by first | assumption | exact vp_in_nI (by simp only [alen]; omega) (by decide)), ?_⟩
        try rw [nI_clamp (by omega)]
        iterate 6 refine hS _ _ _ _ ?_
        refine And.intro (fun h60 => ?_) (fun h60 => ?_)
        · rw [e35, tb] at h60
          have ht : ¬ (g b).testBit i = true := fun z => h60 (by rw [if_pos z])
          iterate 2 refine hS _ _ _ _ ?_
          exact go _ (fun _ _ => rfl) (by rw [hM, wakeP_s, if_neg ht])
        · rw [e35, tb] at h60
          have ht : (g b).testBit i = true := by
            by_cases z : (g b).testBit i = true
            · exact z
            · rw [if_neg z] at h60; exact absurd h60 (by decide)
          iterate 5 refine hS _ _ _ _ ?_
          refine sm_lays0 (by omega) (by omega) ?_
          iterate 5 refine hS _ _ _ _ ?_
          refine sm_lays2 (by omega) (by omega) ?_
          iterate 5 refine hS _ _ _ _ ?_
          refine And.intro (fun h85 => ?_) (fun h85 => ?_)
          · iterate 2 refine hS _ _ _ _ ?_
            refine sm_lays3 (by omega) (by omega) ?_
            iterate 2 refine hS _ _ _ _ ?_
            exact go _ (fun k hk => by simp only [mz_k hk]) (by rw [wakeP_s, if_pos ht]; simp only [upd_mu, hM]; rw [h85])
          · iterate 3 refine hS _ _ _ _ ?_
            refine sm_lays3 (by omega) (by omega) ?_
            iterate 2 refine hS _ _ _ _ ?_
            exact go _ (fun k hk => by simp only [mz_k hk]) (by rw [wakeP_s, if_pos ht]; simp only [upd_mu, hM]; rw [eg.resolve_left h85])
  iterate 4 refine hS _ _ _ _ ?_
  refine ⟨(by first | assumption | exact vp_in_nI (by simp only [alen]; omega) (by decide)), ?_⟩
  try rw [nI_clamp (by omega)]
  refine hS _ _ _ _ ?_
  rw [hG]
  refine sm_manyOf (by omega) hgb ?_
  rw [hmm]
  iterate 5 refine hS _ _ _ _ ?_
  refine sm_takesTo (by omega) (by omega) hn ?_
  rw [htt]
  iterate 5 refine hS _ _ _ _ ?_
  refine sm_of0 (by omega) (by omega) ?_
  iterate 2 refine hS _ _ _ _ ?_
  refine And.intro (fun h24 => ?_) (fun h24 => ?_)
  · iterate 4 refine hS _ _ _ _ ?_
    exact lp 0 (if_neg h24).symm
  · iterate 5 refine hS _ _ _ _ ?_
    exact lp 1 (if_pos h24).symm
end W8
end
section
-- 38.pure9: the reference's night, whole
theorem KP.nm {K : Nat} {f f' : FA} (h : KP f f') (n : NM K f) : NM K f' := ⟨h.cn n.1, h.2.2.2.2.txf n.2.1, by rw [h.2.1]; exact n.2.2⟩
section W9
variable {d b p K : Nat} {M : Mem} {Q : PQ}
theorem sm_night (hd : 6 ≤ d) (hN : NM K (M 31 0 0)) (hK : K ≤ 100000)
    (hQ : ∀ M', (∀ k, k ≠ 31 → k ≠ 35 → k ≠ 56 → k ≠ 57 → M' k = M k) → M' 31 0 0 = nightF (M 31 0 0) → Q none M') : Td PR d 156 [.inr (30, 0, 0)] M Q := by
  have hp9 := hN.1.2.2.2.1
  have hb10 := hN.1.2.1
  have hC := hN.1
  generalize hf : M 31 0 0 = f at *
  have k1 := lies_kp (f := f) (cP f) hp9
  have k2 := fun n hn => wakeF_kp (g := (liesF f (cP f)).2) (f := (liesF f (cP f)).1) (by rw [k1.cp]; exact hp9) n hn
  have hg := lies_g (f := f) (cP f) hp9
  obtain ⟨e, rfl⟩ : ∃ e, d = e + 1 := ⟨d - 1, by omega⟩
  refine td_X10_night ?_
  intro S hS
  have fin : ∀ M', (∀ k, k ≠ 31 → k ≠ 35 → k ≠ 56 → k ≠ 57 → M' k = M k) → M' 31 0 0 = carryF (wakeF (liesF f (cP f)).2 (liesF f (cP f)).1 (cB f)) → ∀ o1 o2, S 151 [some (.inr (30, 0, 0)), o1, o2] [] M' := by
    intro M' hF hM o1 o2
    iterate 5 refine hS _ _ _ _ ?_
    refine ⟨vp_l rfl, ?_⟩
    try rw [show Int32.toNatClampNeg 2 = 2 from rfl]
    iterate 3 refine hS _ _ _ _ ?_
    refine ⟨vp_l rfl, ?_⟩
    try rw [show Int32.toNatClampNeg 2 = 2 from rfl]
    refine hS _ _ _ _ ?_
    refine hQ _ (fun k a1 a2 a3 a4 => (mz_k a1).trans (hF k a1 a2 a3 a4)) ?_
    rw [upd_mu, hM]; rfl
  have cry : ∀ M', (∀ k, k ≠ 31 → k ≠ 35 → k ≠ 56 → k ≠ 57 → M' k = M k) → M' 31 0 0 = wakeF (liesF f (cP f)).2 (liesF f (cP f)).1 (cB f) → ∀ o1, S 80 [some (.inr (30, 0, 0)), o1, none] [] M' := by
    intro M' hF hM o1
    have kV := k1.tr (k2 (cB f) hb10)
    generalize wakeF (liesF f (cP f)).2 (liesF f (cP f)).1 (cB f) = V at *
    have cV := kV.cn hC
    generalize hW : carryF V = W at fin
    unfold carryF at hW
    dsimp only at hW
    iterate 2 refine hS _ _ _ _ ?_
    refine sm_draw (by omega) ?_
    rw [hM]
    generalize hM1 : mr M' 31 0 0 (drawF V) = M1
    have m1 : M1 31 0 0 = drawF V := by rw [← hM1, mr_same]
    have f1 : ∀ k, k ≠ 31 → M1 k = M' k := fun k hk => by rw [← hM1]; exact mr_k hk
    iterate 2 refine hS _ _ _ _ ?_
    refine ⟨by decide, ?_⟩
    iterate 4 refine hS _ _ _ _ ?_
    refine ⟨vp_l rfl, ?_⟩
    try rw [show Int32.toNatClampNeg 3 = 3 from rfl]
    refine hS _ _ _ _ ?_
    refine And.intro (fun h93 => ?_) (fun h93 => ?_)
    · rw [m1] at h93
      rw [if_neg (fun z => Int32.not_lt.mpr h93 z.1)] at hW
      iterate 4 refine hS _ _ _ _ ?_
      refine And.intro (fun _ => ?_) (fun h => absurd h (by decide))
      exact fin M1 (fun k a1 a2 a3 a4 => (f1 k a1).trans (hF k a1 a2 a3 a4)) (m1.trans hW) _ _
    · rw [m1] at h93
      iterate 5 refine hS _ _ _ _ ?_
      refine And.intro (fun h => absurd h (by decide)) (fun _ => ?_)
      iterate 4 refine hS _ _ _ _ ?_
      refine ⟨vp_l rfl, ?_⟩
      try rw [show Int32.toNatClampNeg 1 = 1 from rfl]
      refine hS _ _ _ _ ?_
      refine And.intro (fun h112 => ?_) (fun h112 => ?_)
      · rw [m1] at h112
        rw [if_neg (fun z => Int32.not_lt.mpr h112 z.2)] at hW
        exact fin M1 (fun k a1 a2 a3 a4 => (f1 k a1).trans (hF k a1 a2 a3 a4)) (m1.trans hW) _ _
      · rw [m1] at h112
        rw [if_pos ⟨nle_lt h93, nle_lt h112⟩] at hW
        obtain ⟨c, hc, ec⟩ := carry_ix (draw_kp.cn cV) (nle_lt h112) (drawZ (drawF V))
        rw [draw_kp.cb] at hc
        have hc10 : c < 10 := by have := cV.2.1; omega
        have ec' : irem (drawV (drawF V)) (drawF V 1) = nI c := ec
        rw [ec', nI_clamp (by omega)] at hW
        iterate 2 refine hS _ _ _ _ ?_
        refine sm_draw (by omega) ?_
        rw [m1]
        generalize hM2 : mr M1 31 0 0 (drawF (drawF V)) = M2
        have m2 : M2 31 0 0 = drawF (drawF V) := by rw [← hM2, mr_same]
        have f2 : ∀ k, k ≠ 31 → M2 k = M1 k := fun k hk => by rw [← hM2]; exact mr_k hk
        iterate 4 refine hS _ _ _ _ ?_
        refine ⟨vp_l rfl, ?_⟩
        try rw [show Int32.toNatClampNeg 1 = 1 from rfl]
        refine hS _ _ _ _ ?_
        refine ⟨fun z => h112 (by rw [z]; exact Int32.le_refl _), ?_⟩
        rw [ec']
        iterate 6 refine hS _ _ _ _ ?_
        refine sm_draw (by omega) ?_
        rw [m2]
        generalize hM3 : mr M2 31 0 0 (drawF (drawF (drawF V))) = M3
        have m3 : M3 31 0 0 = drawF (drawF (drawF V)) := by rw [← hM3, mr_same]
        have f3 : ∀ k, k ≠ 31 → M3 k = M2 k := fun k hk => by rw [← hM3]; exact mr_k hk
        iterate 2 refine hS _ _ _ _ ?_
        refine ⟨by decide, ?_⟩
        refine hS _ _ _ _ ?_
        refine sm_put1 (by omega) (by omega) ?_
        iterate 5 refine hS _ _ _ _ ?_
        refine ⟨vp_l rfl, ?_⟩
        try rw [show Int32.toNatClampNeg 8 = 8 from rfl]
        iterate 3 refine hS _ _ _ _ ?_
        refine ⟨vp_l rfl, ?_⟩
        try rw [show Int32.toNatClampNeg 8 = 8 from rfl]
        refine fin _ (fun k a1 a2 a3 a4 => ?_) ?_ _ _
        · simp only [mz_k a1]
          exact (f3 k a1).trans ((f2 k a1).trans ((f1 k a1).trans (hF k a1 a2 a3 a4)))
        · rw [← hW]; simp only [upd_mu, m3]
  have wks : ∀ M', (∀ k, k ≠ 31 → k ≠ 35 → k ≠ 56 → k ≠ 57 → M' k = M k) → M' 31 0 0 = (liesF f (cP f)).1 → (∀ b, b < cB f → M' 35 0 0 b = nI ((liesF f (cP f)).2 b)) → S 59 [some (.inr (30, 0, 0)), some (.inl 0), none] [] M' := by
    intro M' hF hM hG
    refine lp_up (T := fun i => ∀ M2, (∀ k, k ≠ 31 → M2 k = M' k) → M2 31 0 0 = wakeF (liesF f (cP f)).2 (liesF f (cP f)).1 i → S 59 [some (.inr (30, 0, 0)), some (.inl (nI i)), none] [] M2) (N := cB f) ?_ ?_ 0 (Nat.zero_le _) M' (fun _ _ => rfl) hM
    · intro M2 a1 a2
      have e1 : M2 31 0 0 1 = nI (cB f) := by rw [a2, (k2 (cB f) hb10).1, k1.1]; exact hC.1
      iterate 5 refine hS _ _ _ _ ?_
      refine ⟨vp_l rfl, ?_⟩
      try rw [show Int32.toNatClampNeg 1 = 1 from rfl]
      refine hS _ _ _ _ ?_
      refine And.intro (fun h66 => ?_) (fun h66 => ?_)
      · exact cry M2 (fun k b1 b2 b3 b4 => (a1 k b1).trans (hF k b1 b2 b3 b4)) a2 _
      · exact (lp_x e1 h66).elim
    · intro i hi ih M2 a1 a2
      have ki := k1.tr (k2 i (by omega))
      have e1 : M2 31 0 0 1 = nI (cB f) := by rw [a2, ki.1]; exact hC.1
      have hN2 : NM K (M2 31 0 0) := by rw [a2]; exact ki.nm hN
      iterate 5 refine hS _ _ _ _ ?_
      refine ⟨vp_l rfl, ?_⟩
      try rw [show Int32.toNatClampNeg 1 = 1 from rfl]
      refine hS _ _ _ _ ?_
      refine And.intro (fun h66 => ?_) (fun h66 => ?_)
      · exact (lp_s e1 hi (by omega) h66).elim
      · iterate 3 refine hS _ _ _ _ ?_
        refine sm_wakes (g := (liesF f (cP f)).2) (by omega) (by rw [a2, ki.cb]; exact hi) hN2 hK hg (by rw [a1 35 (by decide)]; exact hG i hi) (fun M3 b1 b2 => ?_)
        iterate 2 refine hS _ _ _ _ ?_
        have := ih M3 (fun k hk => (b1 k hk).trans (a1 k hk)) (by rw [b2, a2]; rfl)
        rw [nI_succ] at this
        exact this
  have lis : ∀ M', (∀ k, k ≠ 35 → M' k = M k) → (∀ b, b < cB f → M' 35 0 0 b = 0) → S 27 [some (.inr (30, 0, 0)), some (.inl 0), none] [] M' := by
    intro M' hF hG
    refine lp_up (T := fun i => ∀ M2, (∀ k, k ≠ 31 → k ≠ 35 → k ≠ 56 → k ≠ 57 → M2 k = M' k) → M2 31 0 0 = (liesF f i).1 → (∀ b, b < cB f → M2 35 0 0 b = nI ((liesF f i).2 b)) → S 27 [some (.inr (30, 0, 0)), some (.inl (nI i)), none] [] M2) (N := cP f) ?_ ?_ 0 (Nat.zero_le _) M' (fun _ _ _ _ _ => rfl) (by rw [hF 31 (by decide)]; exact hf) (fun b hb => hG b hb)
    · intro M2 a1 a2 a3
      have e4 : M2 31 0 0 4 = nI (cP f) := by rw [a2, k1.2.2.2.1]; exact hC.2.2.1
      iterate 5 refine hS _ _ _ _ ?_
      refine ⟨vp_l rfl, ?_⟩
      try rw [show Int32.toNatClampNeg 4 = 4 from rfl]
      refine hS _ _ _ _ ?_
      refine And.intro (fun h34 => ?_) (fun h34 => ?_)
      · iterate 2 refine hS _ _ _ _ ?_
        exact wks M2 (fun k b1 b2 b3 b4 => (a1 k b1 b2 b3 b4).trans (hF k b2)) a2 a3
      · exact (lp_x e4 h34).elim
    · intro i hi ih M2 a1 a2 a3
      have ki := lies_kp (f := f) i (by omega)
      have e4 : M2 31 0 0 4 = nI (cP f) := by rw [a2, ki.2.2.2.1]; exact hC.2.2.1
      have hN2 : NM K (M2 31 0 0) := by rw [a2]; exact ki.nm hN
      have es : liesF f (i + 1) = lieF (liesF f i) i := rfl
      iterate 5 refine hS _ _ _ _ ?_
      refine ⟨vp_l rfl, ?_⟩
      try rw [show Int32.toNatClampNeg 4 = 4 from rfl]
      refine hS _ _ _ _ ?_
      refine And.intro (fun h34 => ?_) (fun h34 => ?_)
      · exact (lp_s e4 hi (by omega) h34).elim
      · iterate 4 refine hS _ _ _ _ ?_
        refine sm_by3 (by omega) (by omega) ?_
        refine hS _ _ _ _ ?_
        refine And.intro (fun h43 => ?_) (fun h43 => ?_)
        · rw [a2] at h43
          have e0 : lieF (liesF f i) i = liesF f i := by unfold lieF; exact if_neg h43
          iterate 2 refine hS _ _ _ _ ?_
          have := ih M2 a1 (by rw [es, e0]; exact a2) (by rw [es, e0]; exact a3)
          rw [nI_succ] at this
          exact this
        · iterate 3 refine hS _ _ _ _ ?_
          refine sm_liesDown (g := (liesF f i).2) (by omega) (by rw [a2, ki.cp]; exact hi) hN2 h43 (lies_g i (by omega)) (by rw [a2, ki.cb]; exact a3) (fun M3 b1 b2 b3 => ?_)
          iterate 2 refine hS _ _ _ _ ?_
          have := ih M3 (fun k c1 c2 c3 c4 => (b1 k c1 c2 c3 c4).trans (a1 k c1 c2 c3 c4)) (by rw [b2, a2]; rfl) (by rw [a2, ki.cb] at b3; exact b3)
          rw [nI_succ] at this
          exact this
  iterate 2 refine hS _ _ _ _ ?_
  refine lp_up (T := fun i => ∀ M', (∀ k, k ≠ 35 → M' k = M k) → (∀ b, b < i → M' 35 0 0 b = 0) → S 2 [some (.inr (30, 0, 0)), some (.inl (nI i)), none] [] M') (N := cB f) ?_ ?_ 0 (Nat.zero_le _) M (fun _ _ => rfl) (fun b hb => absurd hb (Nat.not_lt_zero _))
  · intro M' a1 a2
    have e1 : M' 31 0 0 1 = nI (cB f) := by rw [a1 31 (by decide), hf]; exact hC.1
    iterate 5 refine hS _ _ _ _ ?_
    refine ⟨vp_l rfl, ?_⟩
    try rw [show Int32.toNatClampNeg 1 = 1 from rfl]
    refine hS _ _ _ _ ?_
    refine And.intro (fun h9 => ?_) (fun h9 => ?_)
    · iterate 2 refine hS _ _ _ _ ?_
      exact lis M' a1 a2
    · exact (lp_x e1 h9).elim
  · intro i hi ih M' a1 a2
    have e1 : M' 31 0 0 1 = nI (cB f) := by rw [a1 31 (by decide), hf]; exact hC.1
    iterate 5 refine hS _ _ _ _ ?_
    refine ⟨vp_l rfl, ?_⟩
    try rw [show Int32.toNatClampNeg 1 = 1 from rfl]
    refine hS _ _ _ _ ?_
    refine And.intro (fun h9 => ?_) (fun h9 => ?_)
    · exact (lp_s e1 hi (by omega) h9).elim
    · iterate 5 refine hS _ _ _ _ ?_
      refine ⟨(by first | assumption | exact vp_in_nI (by simp only [alen]; omega) (by decide)), ?_⟩
      try rw [nI_clamp (by omega)]
      iterate 2 refine hS _ _ _ _ ?_
      have := ih (mu M' 35 0 0 i 0) (fun k hk => (mz_k hk).trans (a1 k hk)) (fun b hb => by
        rw [upd_mu]
        by_cases z : b = i
        · rw [z, upd_at]
        · rw [upd_ne z]; exact a2 b (by omega))
      rw [nI_succ] at this
      exact this
theorem sm_goesOn {n : Nat} (hd : 7 ≤ d) (hN : NM K (M 31 0 0)) (hK : K + n ≤ 100000)
    (hQ : ∀ M', (∀ k, k ≠ 31 → k ≠ 35 → k ≠ 56 → k ≠ 57 → M' k = M k) → M' 31 0 0 = nightsF (M 31 0 0) n → Q none M') : Td PR d 157 [.inr (30, 0, 0), .inl (nI n)] M Q := by
  obtain ⟨e, rfl⟩ : ∃ e, d = e + 1 := ⟨d - 1, by omega⟩
  refine td_X10_goesOn ?_
  intro S hS
  iterate 2 refine hS _ _ _ _ ?_
  refine lp_up (T := fun i => ∀ M', (∀ k, k ≠ 31 → k ≠ 35 → k ≠ 56 → k ≠ 57 → M' k = M k) → M' 31 0 0 = nightsF (M 31 0 0) i → S 2 [some (.inr (30, 0, 0)), some (.inl (nI n)), some (.inl (nI i))] [] M') (N := n) ?_ ?_ 0 (Nat.zero_le _) M (fun _ _ _ _ _ => rfl) rfl
  · intro M' a1 a2
    iterate 3 refine hS _ _ _ _ ?_
    refine And.intro (fun h4 => ?_) (fun h4 => ?_)
    · refine hS _ _ _ _ ?_
      exact hQ M' a1 a2
    · exact (lp_x rfl h4).elim
  · intro i hi ih M' a1 a2
    have hN2 : NM (K + i) (M' 31 0 0) := by rw [a2]; exact nights_nm hN i
    iterate 3 refine hS _ _ _ _ ?_
    refine And.intro (fun h4 => ?_) (fun h4 => ?_)
    · exact (lp_s rfl hi (by omega) h4).elim
    · iterate 2 refine hS _ _ _ _ ?_
      refine sm_night (by omega) hN2 (by omega) (fun M2 b1 b2 => ?_)
      iterate 2 refine hS _ _ _ _ ?_
      have := ih M2 (fun k c1 c2 c3 c4 => (b1 k c1 c2 c3 c4).trans (a1 k c1 c2 c3 c4)) (by rw [b2, a2]; rfl)
      rw [nI_succ] at this
      exact this
end W9
end
