section
-- 01.tabs: the tables words (kit skeleton PART A), the printed names (kit NAMES.whole); by program gen01.py
-- ===== PART A: goes FIRST, ahead of the names: the tables' words, and 'selects' of the private methods out of them =====
/-- a private method of a class that the tables say can be made, by its rows of tables_1 -/
def lw_okq (q : MethodName × Nat) : Prop := (q.1.cls ≠ "java/lang/invoke/MethodHandle" ∧ q.1.cls ≠ "java/lang/invoke/VarHandle") ∧ Cond.instantiable q.1.cls q.2 ∈ tables_1 ∧ Cond.privateMethod q.1 ∈ tables_1 ∧ Cond.instanceMethod q.1 ∈ tables_1
theorem lw_p0 : lw_okq (⟨"BedsArePlaces", "isBed", "(I)Z"⟩, 11) := ⟨⟨by decide +kernel, by decide +kernel⟩, List.mem_of_getElem? (i := 21) (by decide +kernel), List.mem_of_getElem? (i := 341) (by decide +kernel), List.mem_of_getElem? (i := 342) (by decide +kernel)⟩
theorem lw_p1 : lw_okq (⟨"BedsArePlaces", "isOne", "(I)Z"⟩, 11) := ⟨⟨by decide +kernel, by decide +kernel⟩, List.mem_of_getElem? (i := 21) (by decide +kernel), List.mem_of_getElem? (i := 410) (by decide +kernel), List.mem_of_getElem? (i := 411) (by decide +kernel)⟩
theorem lw_p2 : lw_okq (⟨"BedsArePlaces$Reader", "goOn", "()V"⟩, 7) := ⟨⟨by decide +kernel, by decide +kernel⟩, List.mem_of_getElem? (i := 70) (by decide +kernel), List.mem_of_getElem? (i := 661) (by decide +kernel), List.mem_of_getElem? (i := 662) (by decide +kernel)⟩
theorem lw_p3 : lw_okq (⟨"BedsArePlaces$Reader", "isDigit", "(I)Z"⟩, 7) := ⟨⟨by decide +kernel, by decide +kernel⟩, List.mem_of_getElem? (i := 70) (by decide +kernel), List.mem_of_getElem? (i := 665) (by decide +kernel), List.mem_of_getElem? (i := 666) (by decide +kernel)⟩
theorem lw_p4 : lw_okq (⟨"BedsArePlaces$Reader", "readNumber", "()V"⟩, 7) := ⟨⟨by decide +kernel, by decide +kernel⟩, List.mem_of_getElem? (i := 70) (by decide +kernel), List.mem_of_getElem? (i := 669) (by decide +kernel), List.mem_of_getElem? (i := 670) (by decide +kernel)⟩
theorem lw_p5 : lw_okq (⟨"BedsArePlaces$Reader", "isLetter", "(I)Z"⟩, 7) := ⟨⟨by decide +kernel, by decide +kernel⟩, List.mem_of_getElem? (i := 70) (by decide +kernel), List.mem_of_getElem? (i := 673) (by decide +kernel), List.mem_of_getElem? (i := 674) (by decide +kernel)⟩
theorem lw_p6 : lw_okq (⟨"BedsArePlaces$Reader", "readLetters", "()V"⟩, 7) := ⟨⟨by decide +kernel, by decide +kernel⟩, List.mem_of_getElem? (i := 70) (by decide +kernel), List.mem_of_getElem? (i := 677) (by decide +kernel), List.mem_of_getElem? (i := 678) (by decide +kernel)⟩
theorem lw_p7 : lw_okq (⟨"BedsArePlaces$Reader", "keyHere", "()I"⟩, 7) := ⟨⟨by decide +kernel, by decide +kernel⟩, List.mem_of_getElem? (i := 70) (by decide +kernel), List.mem_of_getElem? (i := 681) (by decide +kernel), List.mem_of_getElem? (i := 682) (by decide +kernel)⟩
theorem lw_p8 : lw_okq (⟨"BedsArePlaces$Reader", "isWord", "(Ljava/lang/String;)Z"⟩, 7) := ⟨⟨by decide +kernel, by decide +kernel⟩, List.mem_of_getElem? (i := 70) (by decide +kernel), List.mem_of_getElem? (i := 686) (by decide +kernel), List.mem_of_getElem? (i := 687) (by decide +kernel)⟩
theorem lw_p9 : lw_okq (⟨"BedsArePlaces$Reader", "readsLevel", "(III)Z"⟩, 7) := ⟨⟨by decide +kernel, by decide +kernel⟩, List.mem_of_getElem? (i := 70) (by decide +kernel), List.mem_of_getElem? (i := 744) (by decide +kernel), List.mem_of_getElem? (i := 745) (by decide +kernel)⟩
theorem lw_p10 : lw_okq (⟨"BedsArePlaces$Reader", "readsPiece", "(II)Z"⟩, 7) := ⟨⟨by decide +kernel, by decide +kernel⟩, List.mem_of_getElem? (i := 70) (by decide +kernel), List.mem_of_getElem? (i := 748) (by decide +kernel), List.mem_of_getElem? (i := 749) (by decide +kernel)⟩
theorem lw_p11 : lw_okq (⟨"BedsArePlaces$Text", "add", "(I)V"⟩, 4) := ⟨⟨by decide +kernel, by decide +kernel⟩, List.mem_of_getElem? (i := 36) (by decide +kernel), List.mem_of_getElem? (i := 756) (by decide +kernel), List.mem_of_getElem? (i := 757) (by decide +kernel)⟩
theorem lw_p12 : lw_okq (⟨"BedsArePlaces$Reader", "readsName", "()Z"⟩, 7) := ⟨⟨by decide +kernel, by decide +kernel⟩, List.mem_of_getElem? (i := 70) (by decide +kernel), List.mem_of_getElem? (i := 760) (by decide +kernel), List.mem_of_getElem? (i := 761) (by decide +kernel)⟩
theorem lw_p13 : lw_okq (⟨"BedsArePlaces$Reader", "nameHere", "()I"⟩, 7) := ⟨⟨by decide +kernel, by decide +kernel⟩, List.mem_of_getElem? (i := 70) (by decide +kernel), List.mem_of_getElem? (i := 764) (by decide +kernel), List.mem_of_getElem? (i := 765) (by decide +kernel)⟩
theorem lw_p14 : lw_okq (⟨"BedsArePlaces$Reader", "isSign", "(C)Z"⟩, 7) := ⟨⟨by decide +kernel, by decide +kernel⟩, List.mem_of_getElem? (i := 70) (by decide +kernel), List.mem_of_getElem? (i := 829) (by decide +kernel), List.mem_of_getElem? (i := 830) (by decide +kernel)⟩
theorem lw_p15 : lw_okq (⟨"BedsArePlaces$Reader", "readsNegated", "(II)Z"⟩, 7) := ⟨⟨by decide +kernel, by decide +kernel⟩, List.mem_of_getElem? (i := 70) (by decide +kernel), List.mem_of_getElem? (i := 833) (by decide +kernel), List.mem_of_getElem? (i := 834) (by decide +kernel)⟩
def lw_privs_1 : List (MethodName × Nat) := [(⟨"BedsArePlaces", "isBed", "(I)Z"⟩, 11), (⟨"BedsArePlaces", "isOne", "(I)Z"⟩, 11), (⟨"BedsArePlaces$Reader", "goOn", "()V"⟩, 7), (⟨"BedsArePlaces$Reader", "isDigit", "(I)Z"⟩, 7), (⟨"BedsArePlaces$Reader", "readNumber", "()V"⟩, 7), (⟨"BedsArePlaces$Reader", "isLetter", "(I)Z"⟩, 7), (⟨"BedsArePlaces$Reader", "readLetters", "()V"⟩, 7), (⟨"BedsArePlaces$Reader", "keyHere", "()I"⟩, 7), (⟨"BedsArePlaces$Reader", "isWord", "(Ljava/lang/String;)Z"⟩, 7), (⟨"BedsArePlaces$Reader", "readsLevel", "(III)Z"⟩, 7), (⟨"BedsArePlaces$Reader", "readsPiece", "(II)Z"⟩, 7), (⟨"BedsArePlaces$Text", "add", "(I)V"⟩, 4), (⟨"BedsArePlaces$Reader", "readsName", "()Z"⟩, 7), (⟨"BedsArePlaces$Reader", "nameHere", "()I"⟩, 7), (⟨"BedsArePlaces$Reader", "isSign", "(C)Z"⟩, 7), (⟨"BedsArePlaces$Reader", "readsNegated", "(II)Z"⟩, 7)]
theorem lw_r1 : ∀ q ∈ lw_privs_1, lw_okq q := List.forall_mem_cons.mpr ⟨lw_p0, List.forall_mem_cons.mpr ⟨lw_p1, List.forall_mem_cons.mpr ⟨lw_p2, List.forall_mem_cons.mpr ⟨lw_p3, List.forall_mem_cons.mpr ⟨lw_p4, List.forall_mem_cons.mpr ⟨lw_p5, List.forall_mem_cons.mpr ⟨lw_p6, List.forall_mem_cons.mpr ⟨lw_p7, List.forall_mem_cons.mpr ⟨lw_p8, List.forall_mem_cons.mpr ⟨lw_p9, List.forall_mem_cons.mpr ⟨lw_p10, List.forall_mem_cons.mpr ⟨lw_p11, List.forall_mem_cons.mpr ⟨lw_p12, List.forall_mem_cons.mpr ⟨lw_p13, List.forall_mem_cons.mpr ⟨lw_p14, List.forall_mem_cons.mpr ⟨lw_p15, fun _ h => absurd h List.not_mem_nil⟩⟩⟩⟩⟩⟩⟩⟩⟩⟩⟩⟩⟩⟩⟩⟩
theorem lw_p16 : lw_okq (⟨"BedsArePlaces$Reader", "readsBracket", "(II)Z"⟩, 7) := ⟨⟨by decide +kernel, by decide +kernel⟩, List.mem_of_getElem? (i := 70) (by decide +kernel), List.mem_of_getElem? (i := 841) (by decide +kernel), List.mem_of_getElem? (i := 842) (by decide +kernel)⟩
theorem lw_p17 : lw_okq (⟨"BedsArePlaces$Reader", "isJoined", "(I)Z"⟩, 7) := ⟨⟨by decide +kernel, by decide +kernel⟩, List.mem_of_getElem? (i := 70) (by decide +kernel), List.mem_of_getElem? (i := 845) (by decide +kernel), List.mem_of_getElem? (i := 846) (by decide +kernel)⟩
theorem lw_p18 : lw_okq (⟨"BedsArePlaces", "rightAhead", "(II)I"⟩, 11) := ⟨⟨by decide +kernel, by decide +kernel⟩, List.mem_of_getElem? (i := 21) (by decide +kernel), List.mem_of_getElem? (i := 938) (by decide +kernel), List.mem_of_getElem? (i := 939) (by decide +kernel)⟩
theorem lw_p19 : lw_okq (⟨"BedsArePlacesModel", "comes", "(IIII)I"⟩, 37) := ⟨⟨by decide +kernel, by decide +kernel⟩, List.mem_of_getElem? (i := 954) (by decide +kernel), List.mem_of_getElem? (i := 1086) (by decide +kernel), List.mem_of_getElem? (i := 1087) (by decide +kernel)⟩
theorem lw_p20 : lw_okq (⟨"BedsArePlacesModel", "put", "(III)V"⟩, 37) := ⟨⟨by decide +kernel, by decide +kernel⟩, List.mem_of_getElem? (i := 954) (by decide +kernel), List.mem_of_getElem? (i := 1090) (by decide +kernel), List.mem_of_getElem? (i := 1091) (by decide +kernel)⟩
theorem lw_p21 : lw_okq (⟨"BedsArePlacesModel", "isBed", "(I)Z"⟩, 37) := ⟨⟨by decide +kernel, by decide +kernel⟩, List.mem_of_getElem? (i := 954) (by decide +kernel), List.mem_of_getElem? (i := 1098) (by decide +kernel), List.mem_of_getElem? (i := 1099) (by decide +kernel)⟩
theorem lw_p22 : lw_okq (⟨"BedsArePlacesModel", "of", "(II)I"⟩, 37) := ⟨⟨by decide +kernel, by decide +kernel⟩, List.mem_of_getElem? (i := 954) (by decide +kernel), List.mem_of_getElem? (i := 1102) (by decide +kernel), List.mem_of_getElem? (i := 1103) (by decide +kernel)⟩
theorem lw_p23 : lw_okq (⟨"BedsArePlacesModel", "wideOf", "(I)I"⟩, 37) := ⟨⟨by decide +kernel, by decide +kernel⟩, List.mem_of_getElem? (i := 954) (by decide +kernel), List.mem_of_getElem? (i := 1106) (by decide +kernel), List.mem_of_getElem? (i := 1107) (by decide +kernel)⟩
theorem lw_p24 : lw_okq (⟨"BedsArePlacesModel", "takesTo", "(II)I"⟩, 37) := ⟨⟨by decide +kernel, by decide +kernel⟩, List.mem_of_getElem? (i := 954) (by decide +kernel), List.mem_of_getElem? (i := 1110) (by decide +kernel), List.mem_of_getElem? (i := 1111) (by decide +kernel)⟩
theorem lw_p25 : lw_okq (⟨"BedsArePlacesModel", "leadsTo", "(I)I"⟩, 37) := ⟨⟨by decide +kernel, by decide +kernel⟩, List.mem_of_getElem? (i := 954) (by decide +kernel), List.mem_of_getElem? (i := 1114) (by decide +kernel), List.mem_of_getElem? (i := 1115) (by decide +kernel)⟩
theorem lw_p26 : lw_okq (⟨"BedsArePlacesModel", "worthOf", "(I)I"⟩, 37) := ⟨⟨by decide +kernel, by decide +kernel⟩, List.mem_of_getElem? (i := 954) (by decide +kernel), List.mem_of_getElem? (i := 1118) (by decide +kernel), List.mem_of_getElem? (i := 1119) (by decide +kernel)⟩
theorem lw_p27 : lw_okq (⟨"BedsArePlacesModel", "swaps", "(II)I"⟩, 37) := ⟨⟨by decide +kernel, by decide +kernel⟩, List.mem_of_getElem? (i := 954) (by decide +kernel), List.mem_of_getElem? (i := 1134) (by decide +kernel), List.mem_of_getElem? (i := 1135) (by decide +kernel)⟩
theorem lw_p28 : lw_okq (⟨"BedsArePlacesModel", "draw", "()I"⟩, 37) := ⟨⟨by decide +kernel, by decide +kernel⟩, List.mem_of_getElem? (i := 954) (by decide +kernel), List.mem_of_getElem? (i := 1150) (by decide +kernel), List.mem_of_getElem? (i := 1151) (by decide +kernel)⟩
theorem lw_p29 : lw_okq (⟨"BedsArePlacesModel", "lays", "(III)V"⟩, 37) := ⟨⟨by decide +kernel, by decide +kernel⟩, List.mem_of_getElem? (i := 954) (by decide +kernel), List.mem_of_getElem? (i := 1163) (by decide +kernel), List.mem_of_getElem? (i := 1164) (by decide +kernel)⟩
theorem lw_p30 : lw_okq (⟨"BedsArePlacesModel", "isOne", "(I)Z"⟩, 37) := ⟨⟨by decide +kernel, by decide +kernel⟩, List.mem_of_getElem? (i := 954) (by decide +kernel), List.mem_of_getElem? (i := 1171) (by decide +kernel), List.mem_of_getElem? (i := 1172) (by decide +kernel)⟩
theorem lw_p31 : lw_okq (⟨"BedsArePlacesModel", "hoursGive", "(I)I"⟩, 37) := ⟨⟨by decide +kernel, by decide +kernel⟩, List.mem_of_getElem? (i := 954) (by decide +kernel), List.mem_of_getElem? (i := 1175) (by decide +kernel), List.mem_of_getElem? (i := 1176) (by decide +kernel)⟩
def lw_privs_2 : List (MethodName × Nat) := [(⟨"BedsArePlaces$Reader", "readsBracket", "(II)Z"⟩, 7), (⟨"BedsArePlaces$Reader", "isJoined", "(I)Z"⟩, 7), (⟨"BedsArePlaces", "rightAhead", "(II)I"⟩, 11), (⟨"BedsArePlacesModel", "comes", "(IIII)I"⟩, 37), (⟨"BedsArePlacesModel", "put", "(III)V"⟩, 37), (⟨"BedsArePlacesModel", "isBed", "(I)Z"⟩, 37), (⟨"BedsArePlacesModel", "of", "(II)I"⟩, 37), (⟨"BedsArePlacesModel", "wideOf", "(I)I"⟩, 37), (⟨"BedsArePlacesModel", "takesTo", "(II)I"⟩, 37), (⟨"BedsArePlacesModel", "leadsTo", "(I)I"⟩, 37), (⟨"BedsArePlacesModel", "worthOf", "(I)I"⟩, 37), (⟨"BedsArePlacesModel", "swaps", "(II)I"⟩, 37), (⟨"BedsArePlacesModel", "draw", "()I"⟩, 37), (⟨"BedsArePlacesModel", "lays", "(III)V"⟩, 37), (⟨"BedsArePlacesModel", "isOne", "(I)Z"⟩, 37), (⟨"BedsArePlacesModel", "hoursGive", "(I)I"⟩, 37)]
theorem lw_r2 : ∀ q ∈ lw_privs_2, lw_okq q := List.forall_mem_cons.mpr ⟨lw_p16, List.forall_mem_cons.mpr ⟨lw_p17, List.forall_mem_cons.mpr ⟨lw_p18, List.forall_mem_cons.mpr ⟨lw_p19, List.forall_mem_cons.mpr ⟨lw_p20, List.forall_mem_cons.mpr ⟨lw_p21, List.forall_mem_cons.mpr ⟨lw_p22, List.forall_mem_cons.mpr ⟨lw_p23, List.forall_mem_cons.mpr ⟨lw_p24, List.forall_mem_cons.mpr ⟨lw_p25, List.forall_mem_cons.mpr ⟨lw_p26, List.forall_mem_cons.mpr ⟨lw_p27, List.forall_mem_cons.mpr ⟨lw_p28, List.forall_mem_cons.mpr ⟨lw_p29, List.forall_mem_cons.mpr ⟨lw_p30, List.forall_mem_cons.mpr ⟨lw_p31, fun _ h => absurd h List.not_mem_nil⟩⟩⟩⟩⟩⟩⟩⟩⟩⟩⟩⟩⟩⟩⟩⟩
theorem lw_p32 : lw_okq (⟨"BedsArePlacesModel", "counts", "(I)I"⟩, 37) := ⟨⟨by decide +kernel, by decide +kernel⟩, List.mem_of_getElem? (i := 954) (by decide +kernel), List.mem_of_getElem? (i := 1179) (by decide +kernel), List.mem_of_getElem? (i := 1180) (by decide +kernel)⟩
theorem lw_p33 : lw_okq (⟨"BedsArePlacesModel", "by", "(II)I"⟩, 37) := ⟨⟨by decide +kernel, by decide +kernel⟩, List.mem_of_getElem? (i := 954) (by decide +kernel), List.mem_of_getElem? (i := 1183) (by decide +kernel), List.mem_of_getElem? (i := 1184) (by decide +kernel)⟩
theorem lw_p34 : lw_okq (⟨"BedsArePlacesModel", "thereIn", "(I)I"⟩, 37) := ⟨⟨by decide +kernel, by decide +kernel⟩, List.mem_of_getElem? (i := 954) (by decide +kernel), List.mem_of_getElem? (i := 1187) (by decide +kernel), List.mem_of_getElem? (i := 1188) (by decide +kernel)⟩
theorem lw_p35 : lw_okq (⟨"BedsArePlacesModel", "worksOut", "(I)I"⟩, 37) := ⟨⟨by decide +kernel, by decide +kernel⟩, List.mem_of_getElem? (i := 954) (by decide +kernel), List.mem_of_getElem? (i := 1191) (by decide +kernel), List.mem_of_getElem? (i := 1192) (by decide +kernel)⟩
theorem lw_p36 : lw_okq (⟨"BedsArePlacesModel", "goesOn", "(I)V"⟩, 37) := ⟨⟨by decide +kernel, by decide +kernel⟩, List.mem_of_getElem? (i := 954) (by decide +kernel), List.mem_of_getElem? (i := 1213) (by decide +kernel), List.mem_of_getElem? (i := 1214) (by decide +kernel)⟩
theorem lw_p37 : lw_okq (⟨"BedsArePlacesModel", "night", "()V"⟩, 37) := ⟨⟨by decide +kernel, by decide +kernel⟩, List.mem_of_getElem? (i := 954) (by decide +kernel), List.mem_of_getElem? (i := 1217) (by decide +kernel), List.mem_of_getElem? (i := 1218) (by decide +kernel)⟩
theorem lw_p38 : lw_okq (⟨"BedsArePlacesModel", "liesDown", "(I)V"⟩, 37) := ⟨⟨by decide +kernel, by decide +kernel⟩, List.mem_of_getElem? (i := 954) (by decide +kernel), List.mem_of_getElem? (i := 1221) (by decide +kernel), List.mem_of_getElem? (i := 1222) (by decide +kernel)⟩
theorem lw_p39 : lw_okq (⟨"BedsArePlacesModel", "bedFor", "(I)I"⟩, 37) := ⟨⟨by decide +kernel, by decide +kernel⟩, List.mem_of_getElem? (i := 954) (by decide +kernel), List.mem_of_getElem? (i := 1225) (by decide +kernel), List.mem_of_getElem? (i := 1226) (by decide +kernel)⟩
theorem lw_p40 : lw_okq (⟨"BedsArePlacesModel", "wakes", "(I)V"⟩, 37) := ⟨⟨by decide +kernel, by decide +kernel⟩, List.mem_of_getElem? (i := 954) (by decide +kernel), List.mem_of_getElem? (i := 1232) (by decide +kernel), List.mem_of_getElem? (i := 1233) (by decide +kernel)⟩
theorem lw_p41 : lw_okq (⟨"BedsArePlacesModel", "atHome", "()I"⟩, 37) := ⟨⟨by decide +kernel, by decide +kernel⟩, List.mem_of_getElem? (i := 954) (by decide +kernel), List.mem_of_getElem? (i := 1240) (by decide +kernel), List.mem_of_getElem? (i := 1241) (by decide +kernel)⟩
theorem lw_p42 : lw_okq (⟨"BedsArePlacesModel", "isHome", "(I)Z"⟩, 37) := ⟨⟨by decide +kernel, by decide +kernel⟩, List.mem_of_getElem? (i := 954) (by decide +kernel), List.mem_of_getElem? (i := 1244) (by decide +kernel), List.mem_of_getElem? (i := 1245) (by decide +kernel)⟩
theorem lw_p43 : lw_okq (⟨"BedsArePlacesModel", "gone", "()I"⟩, 37) := ⟨⟨by decide +kernel, by decide +kernel⟩, List.mem_of_getElem? (i := 954) (by decide +kernel), List.mem_of_getElem? (i := 1248) (by decide +kernel), List.mem_of_getElem? (i := 1249) (by decide +kernel)⟩
theorem lw_p44 : lw_okq (⟨"BedsArePlacesModel", "looksAround", "(I)V"⟩, 37) := ⟨⟨by decide +kernel, by decide +kernel⟩, List.mem_of_getElem? (i := 954) (by decide +kernel), List.mem_of_getElem? (i := 1256) (by decide +kernel), List.mem_of_getElem? (i := 1257) (by decide +kernel)⟩
theorem lw_p45 : lw_okq (⟨"BedsArePlacesModel", "onward", "(I)I"⟩, 37) := ⟨⟨by decide +kernel, by decide +kernel⟩, List.mem_of_getElem? (i := 954) (by decide +kernel), List.mem_of_getElem? (i := 1260) (by decide +kernel), List.mem_of_getElem? (i := 1261) (by decide +kernel)⟩
theorem lw_p46 : lw_okq (⟨"BedsArePlacesModel", "reachedInAll", "(I)I"⟩, 37) := ⟨⟨by decide +kernel, by decide +kernel⟩, List.mem_of_getElem? (i := 954) (by decide +kernel), List.mem_of_getElem? (i := 1277) (by decide +kernel), List.mem_of_getElem? (i := 1278) (by decide +kernel)⟩
theorem lw_p47 : lw_okq (⟨"BedsArePlacesModel", "thinks", "()V"⟩, 37) := ⟨⟨by decide +kernel, by decide +kernel⟩, List.mem_of_getElem? (i := 954) (by decide +kernel), List.mem_of_getElem? (i := 1285) (by decide +kernel), List.mem_of_getElem? (i := 1286) (by decide +kernel)⟩
def lw_privs_3 : List (MethodName × Nat) := [(⟨"BedsArePlacesModel", "counts", "(I)I"⟩, 37), (⟨"BedsArePlacesModel", "by", "(II)I"⟩, 37), (⟨"BedsArePlacesModel", "thereIn", "(I)I"⟩, 37), (⟨"BedsArePlacesModel", "worksOut", "(I)I"⟩, 37), (⟨"BedsArePlacesModel", "goesOn", "(I)V"⟩, 37), (⟨"BedsArePlacesModel", "night", "()V"⟩, 37), (⟨"BedsArePlacesModel", "liesDown", "(I)V"⟩, 37), (⟨"BedsArePlacesModel", "bedFor", "(I)I"⟩, 37), (⟨"BedsArePlacesModel", "wakes", "(I)V"⟩, 37), (⟨"BedsArePlacesModel", "atHome", "()I"⟩, 37), (⟨"BedsArePlacesModel", "isHome", "(I)Z"⟩, 37), (⟨"BedsArePlacesModel", "gone", "()I"⟩, 37), (⟨"BedsArePlacesModel", "looksAround", "(I)V"⟩, 37), (⟨"BedsArePlacesModel", "onward", "(I)I"⟩, 37), (⟨"BedsArePlacesModel", "reachedInAll", "(I)I"⟩, 37), (⟨"BedsArePlacesModel", "thinks", "()V"⟩, 37)]
theorem lw_r3 : ∀ q ∈ lw_privs_3, lw_okq q := List.forall_mem_cons.mpr ⟨lw_p32, List.forall_mem_cons.mpr ⟨lw_p33, List.forall_mem_cons.mpr ⟨lw_p34, List.forall_mem_cons.mpr ⟨lw_p35, List.forall_mem_cons.mpr ⟨lw_p36, List.forall_mem_cons.mpr ⟨lw_p37, List.forall_mem_cons.mpr ⟨lw_p38, List.forall_mem_cons.mpr ⟨lw_p39, List.forall_mem_cons.mpr ⟨lw_p40, List.forall_mem_cons.mpr ⟨lw_p41, List.forall_mem_cons.mpr ⟨lw_p42, List.forall_mem_cons.mpr ⟨lw_p43, List.forall_mem_cons.mpr ⟨lw_p44, List.forall_mem_cons.mpr ⟨lw_p45, List.forall_mem_cons.mpr ⟨lw_p46, List.forall_mem_cons.mpr ⟨lw_p47, fun _ h => absurd h List.not_mem_nil⟩⟩⟩⟩⟩⟩⟩⟩⟩⟩⟩⟩⟩⟩⟩⟩
theorem lw_p48 : lw_okq (⟨"BedsArePlacesModel", "putsBack", "()V"⟩, 37) := ⟨⟨by decide +kernel, by decide +kernel⟩, List.mem_of_getElem? (i := 954) (by decide +kernel), List.mem_of_getElem? (i := 1289) (by decide +kernel), List.mem_of_getElem? (i := 1290) (by decide +kernel)⟩
theorem lw_p49 : lw_okq (⟨"BedsArePlacesModel", "homeBy", "(II)I"⟩, 37) := ⟨⟨by decide +kernel, by decide +kernel⟩, List.mem_of_getElem? (i := 954) (by decide +kernel), List.mem_of_getElem? (i := 1297) (by decide +kernel), List.mem_of_getElem? (i := 1298) (by decide +kernel)⟩
theorem lw_p50 : lw_okq (⟨"BedsArePlacesModel", "mostBy", "(IIII)I"⟩, 37) := ⟨⟨by decide +kernel, by decide +kernel⟩, List.mem_of_getElem? (i := 954) (by decide +kernel), List.mem_of_getElem? (i := 1309) (by decide +kernel), List.mem_of_getElem? (i := 1310) (by decide +kernel)⟩
theorem lw_p51 : lw_okq (⟨"BedsArePlacesModel", "go", "()V"⟩, 37) := ⟨⟨by decide +kernel, by decide +kernel⟩, List.mem_of_getElem? (i := 954) (by decide +kernel), List.mem_of_getElem? (i := 1345) (by decide +kernel), List.mem_of_getElem? (i := 1346) (by decide +kernel)⟩
theorem lw_p52 : lw_okq (⟨"BedsArePlacesModel", "isLetter", "(I)Z"⟩, 37) := ⟨⟨by decide +kernel, by decide +kernel⟩, List.mem_of_getElem? (i := 954) (by decide +kernel), List.mem_of_getElem? (i := 1349) (by decide +kernel), List.mem_of_getElem? (i := 1350) (by decide +kernel)⟩
theorem lw_p53 : lw_okq (⟨"BedsArePlacesModel", "isFigure", "(I)Z"⟩, 37) := ⟨⟨by decide +kernel, by decide +kernel⟩, List.mem_of_getElem? (i := 954) (by decide +kernel), List.mem_of_getElem? (i := 1353) (by decide +kernel), List.mem_of_getElem? (i := 1354) (by decide +kernel)⟩
theorem lw_p54 : lw_okq (⟨"BedsArePlacesModel", "takesKey", "()Z"⟩, 37) := ⟨⟨by decide +kernel, by decide +kernel⟩, List.mem_of_getElem? (i := 954) (by decide +kernel), List.mem_of_getElem? (i := 1357) (by decide +kernel), List.mem_of_getElem? (i := 1358) (by decide +kernel)⟩
theorem lw_p55 : lw_okq (⟨"BedsArePlacesModel", "takesE", "()Z"⟩, 37) := ⟨⟨by decide +kernel, by decide +kernel⟩, List.mem_of_getElem? (i := 954) (by decide +kernel), List.mem_of_getElem? (i := 1361) (by decide +kernel), List.mem_of_getElem? (i := 1362) (by decide +kernel)⟩
theorem lw_p56 : lw_okq (⟨"BedsArePlacesModel", "takesPart", "()Z"⟩, 37) := ⟨⟨by decide +kernel, by decide +kernel⟩, List.mem_of_getElem? (i := 954) (by decide +kernel), List.mem_of_getElem? (i := 1365) (by decide +kernel), List.mem_of_getElem? (i := 1366) (by decide +kernel)⟩
theorem lw_p57 : lw_okq (⟨"BedsArePlacesModel", "nameOf", "(I)I"⟩, 37) := ⟨⟨by decide +kernel, by decide +kernel⟩, List.mem_of_getElem? (i := 954) (by decide +kernel), List.mem_of_getElem? (i := 1369) (by decide +kernel), List.mem_of_getElem? (i := 1370) (by decide +kernel)⟩
theorem lw_p58 : lw_okq (⟨"BedsArePlacesModel", "settle", "(I)V"⟩, 37) := ⟨⟨by decide +kernel, by decide +kernel⟩, List.mem_of_getElem? (i := 954) (by decide +kernel), List.mem_of_getElem? (i := 1373) (by decide +kernel), List.mem_of_getElem? (i := 1374) (by decide +kernel)⟩
theorem lw_p59 : lw_okq (⟨"BedsArePlacesModel", "notsOpen", "()I"⟩, 37) := ⟨⟨by decide +kernel, by decide +kernel⟩, List.mem_of_getElem? (i := 954) (by decide +kernel), List.mem_of_getElem? (i := 1380) (by decide +kernel), List.mem_of_getElem? (i := 1381) (by decide +kernel)⟩
theorem lw_p60 : lw_okq (⟨"BedsArePlacesModel", "signHere", "()I"⟩, 37) := ⟨⟨by decide +kernel, by decide +kernel⟩, List.mem_of_getElem? (i := 954) (by decide +kernel), List.mem_of_getElem? (i := 1384) (by decide +kernel), List.mem_of_getElem? (i := 1385) (by decide +kernel)⟩
def lw_privs_4 : List (MethodName × Nat) := [(⟨"BedsArePlacesModel", "putsBack", "()V"⟩, 37), (⟨"BedsArePlacesModel", "homeBy", "(II)I"⟩, 37), (⟨"BedsArePlacesModel", "mostBy", "(IIII)I"⟩, 37), (⟨"BedsArePlacesModel", "go", "()V"⟩, 37), (⟨"BedsArePlacesModel", "isLetter", "(I)Z"⟩, 37), (⟨"BedsArePlacesModel", "isFigure", "(I)Z"⟩, 37), (⟨"BedsArePlacesModel", "takesKey", "()Z"⟩, 37), (⟨"BedsArePlacesModel", "takesE", "()Z"⟩, 37), (⟨"BedsArePlacesModel", "takesPart", "()Z"⟩, 37), (⟨"BedsArePlacesModel", "nameOf", "(I)I"⟩, 37), (⟨"BedsArePlacesModel", "settle", "(I)V"⟩, 37), (⟨"BedsArePlacesModel", "notsOpen", "()I"⟩, 37), (⟨"BedsArePlacesModel", "signHere", "()I"⟩, 37)]
theorem lw_r4 : ∀ q ∈ lw_privs_4, lw_okq q := List.forall_mem_cons.mpr ⟨lw_p48, List.forall_mem_cons.mpr ⟨lw_p49, List.forall_mem_cons.mpr ⟨lw_p50, List.forall_mem_cons.mpr ⟨lw_p51, List.forall_mem_cons.mpr ⟨lw_p52, List.forall_mem_cons.mpr ⟨lw_p53, List.forall_mem_cons.mpr ⟨lw_p54, List.forall_mem_cons.mpr ⟨lw_p55, List.forall_mem_cons.mpr ⟨lw_p56, List.forall_mem_cons.mpr ⟨lw_p57, List.forall_mem_cons.mpr ⟨lw_p58, List.forall_mem_cons.mpr ⟨lw_p59, List.forall_mem_cons.mpr ⟨lw_p60, fun _ h => absurd h List.not_mem_nil⟩⟩⟩⟩⟩⟩⟩⟩⟩⟩⟩⟩⟩
def lw_privs : List (MethodName × Nat) := lw_privs_1 ++ (lw_privs_2 ++ (lw_privs_3 ++ (lw_privs_4)))
def lw_tbl : List Cond := k2_sels lw_privs ++ tables_1
theorem lw_privs_ok : ∀ q ∈ lw_privs, lw_okq q := by
  show ∀ q ∈ lw_privs_1 ++ (lw_privs_2 ++ (lw_privs_3 ++ (lw_privs_4))), lw_okq q
  exact List.forall_mem_append.mpr ⟨lw_r1, List.forall_mem_append.mpr ⟨lw_r2, List.forall_mem_append.mpr ⟨lw_r3, lw_r4⟩⟩⟩
/-! ===== BEGIN printed: names, fields, word lists, decode rows ===== -/
def RX0 : String := "BedsArePlaces$Bed"
def TX0 : u_T := fun k => match k with
  | 0 => ("BedsArePlaces$Bed", "kind", "I", false)
  | 1 => ("BedsArePlaces$Bed", "at", "I", false)
  | 2 => ("BedsArePlaces$Bed", "to", "I", false)
  | 3 => ("BedsArePlaces$Bed", "other", "I", false)
  | _ => ("BedsArePlaces$Bed", "lying", "I", false)
def tyX0 : Nat → FieldType := fun k => match k with
  | 0 => .int
  | 1 => .int
  | 2 => .int
  | 3 => .int
  | _ => .int
abbrev wsX00 : List Cond := u_ws RX0 TX0 5
theorem nmX0 : ∀ a, a < 5 → ∀ b, b < 5 → a ≠ b → (TX0 a).2.1 ≠ (TX0 b).2.1 := by decide +kernel
theorem tyX0_ok : ∀ k, k < 5 → parseFieldDescriptor (TX0 k).2.2.1 = some (tyX0 k) := by decide +kernel
abbrev cX0_init : ByteArray := prog_2_method_1_code
def yX0_init : MethodName := ⟨RX0, "<init>", "()V"⟩
abbrev cX0_becomeAs : ByteArray := prog_2_method_2_code
def yX0_becomeAs : MethodName := ⟨RX0, "becomeAs", "(LBedsArePlaces$Bed;)V"⟩
abbrev cX0_isOf : ByteArray := prog_2_method_3_code
def yX0_isOf : MethodName := ⟨RX0, "isOf", "(I)Z"⟩
abbrev cX0_wide : ByteArray := prog_2_method_4_code
def yX0_wide : MethodName := ⟨RX0, "wide", "()I"⟩
abbrev cX0_takes : ByteArray := prog_2_method_5_code
def yX0_takes : MethodName := ⟨RX0, "takes", "(II)I"⟩
abbrev cX0_leads : ByteArray := prog_2_method_6_code
def yX0_leads : MethodName := ⟨RX0, "leads", "()I"⟩
abbrev cX0_worth : ByteArray := prog_2_method_7_code
def yX0_worth : MethodName := ⟨RX0, "worth", "()I"⟩
abbrev cX0_swings : ByteArray := prog_2_method_8_code
def yX0_swings : MethodName := ⟨RX0, "swings", "()V"⟩
def RX1 : String := "BedsArePlaces$Land"
def TX1 : u_T := fun k => match k with
  | 0 => ("BedsArePlaces$Land", "laws", "LBedsArePlaces$Laws;", true)
  | 1 => ("BedsArePlaces$Land", "beds", "[LBedsArePlaces$Bed;", true)
  | 2 => ("BedsArePlaces$Land", "bedCount", "I", false)
  | 3 => ("BedsArePlaces$Land", "folk", "[LBedsArePlaces$One;", true)
  | 4 => ("BedsArePlaces$Land", "folkCount", "I", false)
  | 5 => ("BedsArePlaces$Land", "carry", "I", false)
  | 6 => ("BedsArePlaces$Land", "slept", "I", false)
  | 7 => ("BedsArePlaces$Land", "awake", "I", false)
  | 8 => ("BedsArePlaces$Land", "lost", "I", false)
  | 9 => ("BedsArePlaces$Land", "carried", "I", false)
  | 10 => ("BedsArePlaces$Land", "night", "I", false)
  | 11 => ("BedsArePlaces$Land", "z", "I", false)
  | _ => ("BedsArePlaces$Land", "textCount", "I", false)
def tyX1 : Nat → FieldType := fun k => match k with
  | 0 => .object "BedsArePlaces$Laws"
  | 1 => .array (.object "BedsArePlaces$Bed")
  | 2 => .int
  | 3 => .array (.object "BedsArePlaces$One")
  | 4 => .int
  | 5 => .int
  | 6 => .int
  | 7 => .int
  | 8 => .int
  | 9 => .int
  | 10 => .int
  | 11 => .int
  | _ => .int
abbrev wsX10 : List Cond := u_ws RX1 TX1 13
theorem nmX1 : ∀ a, a < 13 → ∀ b, b < 13 → a ≠ b → (TX1 a).2.1 ≠ (TX1 b).2.1 := by decide +kernel
theorem tyX1_ok : ∀ k, k < 13 → parseFieldDescriptor (TX1 k).2.2.1 = some (tyX1 k) := by decide +kernel
abbrev cX1_init : ByteArray := prog_3_method_1_code
def yX1_init : MethodName := ⟨RX1, "<init>", "(LBedsArePlaces$Laws;)V"⟩
abbrev cX1_becomeAs : ByteArray := prog_3_method_2_code
def yX1_becomeAs : MethodName := ⟨RX1, "becomeAs", "(LBedsArePlaces$Land;)V"⟩
abbrev cX1_addBed : ByteArray := prog_3_method_3_code
def yX1_addBed : MethodName := ⟨RX1, "addBed", "(IIII)I"⟩
abbrev cX1_addOne : ByteArray := prog_3_method_4_code
def yX1_addOne : MethodName := ⟨RX1, "addOne", "(II)I"⟩
abbrev cX1_draw : ByteArray := prog_3_method_5_code
def yX1_draw : MethodName := ⟨RX1, "draw", "()I"⟩
abbrev cX1_lawOf : ByteArray := prog_3_method_6_code
def yX1_lawOf : MethodName := ⟨RX1, "lawOf", "(I)I"⟩
abbrev cX1_hours : ByteArray := prog_3_method_7_code
def yX1_hours : MethodName := ⟨RX1, "hours", "(LBedsArePlaces$One;I)I"⟩
abbrev cX1_presentIn : ByteArray := prog_3_method_8_code
def yX1_presentIn : MethodName := ⟨RX1, "presentIn", "(I)I"⟩
abbrev cX1_thoseIn : ByteArray := prog_3_method_9_code
def yX1_thoseIn : MethodName := ⟨RX1, "thoseIn", "(I)I"⟩
abbrev cX1_isAtHome : ByteArray := prog_3_method_10_code
def yX1_isAtHome : MethodName := ⟨RX1, "isAtHome", "(I)Z"⟩
abbrev cX1_thoseAtHome : ByteArray := prog_3_method_11_code
def yX1_thoseAtHome : MethodName := ⟨RX1, "thoseAtHome", "()I"⟩
abbrev cX1_thoseGone : ByteArray := prog_3_method_12_code
def yX1_thoseGone : MethodName := ⟨RX1, "thoseGone", "()I"⟩
abbrev cX1_passNights : ByteArray := prog_3_method_13_code
def yX1_passNights : MethodName := ⟨RX1, "passNights", "(I)V"⟩
abbrev cX1_passNight : ByteArray := prog_3_method_14_code
def yX1_passNight : MethodName := ⟨RX1, "passNight", "()V"⟩
abbrev cX1_lieDown : ByteArray := prog_3_method_15_code
def yX1_lieDown : MethodName := ⟨RX1, "lieDown", "()V"⟩
abbrev cX1_freeBedAt : ByteArray := prog_3_method_16_code
def yX1_freeBedAt : MethodName := ⟨RX1, "freeBedAt", "(I)I"⟩
abbrev cX1_wake : ByteArray := prog_3_method_17_code
def yX1_wake : MethodName := ⟨RX1, "wake", "()V"⟩
abbrev cX1_wakeThoseIn : ByteArray := prog_3_method_18_code
def yX1_wakeThoseIn : MethodName := ⟨RX1, "wakeThoseIn", "(IIZ)V"⟩
abbrev cX1_carryOne : ByteArray := prog_3_method_19_code
def yX1_carryOne : MethodName := ⟨RX1, "carryOne", "()V"⟩
abbrev cX1_nightsUntilHome : ByteArray := prog_3_method_20_code
def yX1_nightsUntilHome : MethodName := ⟨RX1, "nightsUntilHome", "(II)I"⟩
abbrev cX1_nightsTold : ByteArray := prog_3_method_21_code
def yX1_nightsTold : MethodName := ⟨RX1, "nightsTold", "(ILBedsArePlaces$Row;)I"⟩
def RX2 : String := "BedsArePlaces$Laws"
def TX2 : u_T := fun k => match k with
  | 0 => ("BedsArePlaces$Laws", "texts", "[LBedsArePlaces$Text;", true)
  | _ => ("BedsArePlaces$Laws", "stack", "[I", true)
def tyX2 : Nat → FieldType := fun k => match k with
  | 0 => .array (.object "BedsArePlaces$Text")
  | _ => .array .int
abbrev wsX20 : List Cond := u_ws RX2 TX2 2
theorem nmX2 : ∀ a, a < 2 → ∀ b, b < 2 → a ≠ b → (TX2 a).2.1 ≠ (TX2 b).2.1 := by decide +kernel
theorem tyX2_ok : ∀ k, k < 2 → parseFieldDescriptor (TX2 k).2.2.1 = some (tyX2 k) := by decide +kernel
abbrev cX2_init : ByteArray := prog_4_method_1_code
def yX2_init : MethodName := ⟨RX2, "<init>", "()V"⟩
abbrev cX2_counting : ByteArray := prog_4_method_2_code
def yX2_counting : MethodName := ⟨RX2, "counting", "(II)I"⟩
abbrev cX2_value : ByteArray := prog_4_method_3_code
def yX2_value : MethodName := ⟨RX2, "value", "(IIII)I"⟩
abbrev cX2_joined : ByteArray := prog_4_method_4_code
def yX2_joined : MethodName := ⟨RX2, "joined", "(III)I"⟩
def RX3 : String := "BedsArePlaces$One"
def TX3 : u_T := fun k => match k with
  | 0 => ("BedsArePlaces$One", "town", "I", false)
  | 1 => ("BedsArePlaces$One", "home", "I", false)
  | 2 => ("BedsArePlaces$One", "tired", "I", false)
  | 3 => ("BedsArePlaces$One", "gone", "I", false)
  | _ => ("BedsArePlaces$One", "liesIn", "I", false)
def tyX3 : Nat → FieldType := fun k => match k with
  | 0 => .int
  | 1 => .int
  | 2 => .int
  | 3 => .int
  | _ => .int
abbrev wsX30 : List Cond := u_ws RX3 TX3 5
theorem nmX3 : ∀ a, a < 5 → ∀ b, b < 5 → a ≠ b → (TX3 a).2.1 ≠ (TX3 b).2.1 := by decide +kernel
theorem tyX3_ok : ∀ k, k < 5 → parseFieldDescriptor (TX3 k).2.2.1 = some (tyX3 k) := by decide +kernel
abbrev cX3_init : ByteArray := prog_5_method_1_code
def yX3_init : MethodName := ⟨RX3, "<init>", "()V"⟩
abbrev cX3_becomeAs : ByteArray := prog_5_method_2_code
def yX3_becomeAs : MethodName := ⟨RX3, "becomeAs", "(LBedsArePlaces$One;)V"⟩
def RX4 : String := "BedsArePlaces$Reader"
def TX4 : u_T := fun k => match k with
  | 0 => ("BedsArePlaces$Reader", "bytes", "[I", true)
  | 1 => ("BedsArePlaces$Reader", "length", "I", false)
  | 2 => ("BedsArePlaces$Reader", "start", "I", false)
  | 3 => ("BedsArePlaces$Reader", "end", "I", false)
  | 4 => ("BedsArePlaces$Reader", "sort", "I", false)
  | 5 => ("BedsArePlaces$Reader", "number", "I", false)
  | _ => ("BedsArePlaces$Reader", "draft", "LBedsArePlaces$Text;", false)
def tyX4 : Nat → FieldType := fun k => match k with
  | 0 => .array .int
  | 1 => .int
  | 2 => .int
  | 3 => .int
  | 4 => .int
  | 5 => .int
  | _ => .object "BedsArePlaces$Text"
abbrev wsX40 : List Cond := u_ws RX4 TX4 7
theorem nmX4 : ∀ a, a < 7 → ∀ b, b < 7 → a ≠ b → (TX4 a).2.1 ≠ (TX4 b).2.1 := by decide +kernel
theorem tyX4_ok : ∀ k, k < 7 → parseFieldDescriptor (TX4 k).2.2.1 = some (tyX4 k) := by decide +kernel
abbrev cX4_init : ByteArray := prog_6_method_1_code
def yX4_init : MethodName := ⟨RX4, "<init>", "()V"⟩
abbrev cX4_take : ByteArray := prog_6_method_2_code
def yX4_take : MethodName := ⟨RX4, "take", "(I)V"⟩
abbrev cX4_readsText : ByteArray := prog_6_method_3_code
def yX4_readsText : MethodName := ⟨RX4, "readsText", "(LBedsArePlaces$Text;)Z"⟩
abbrev cX4_goOn : ByteArray := prog_6_method_4_code
def yX4_goOn : MethodName := ⟨RX4, "goOn", "()V"⟩
abbrev cX4_readNumber : ByteArray := prog_6_method_5_code
def yX4_readNumber : MethodName := ⟨RX4, "readNumber", "()V"⟩
abbrev cX4_readLetters : ByteArray := prog_6_method_6_code
def yX4_readLetters : MethodName := ⟨RX4, "readLetters", "()V"⟩
abbrev cX4_isDigit : ByteArray := prog_6_method_7_code
def yX4_isDigit : MethodName := ⟨RX4, "isDigit", "(I)Z"⟩
abbrev cX4_isLetter : ByteArray := prog_6_method_8_code
def yX4_isLetter : MethodName := ⟨RX4, "isLetter", "(I)Z"⟩
abbrev cX4_isSign : ByteArray := prog_6_method_9_code
def yX4_isSign : MethodName := ⟨RX4, "isSign", "(C)Z"⟩
abbrev cX4_isWord : ByteArray := prog_6_method_10_code
def yX4_isWord : MethodName := ⟨RX4, "isWord", "(Ljava/lang/String;)Z"⟩
abbrev cX4_keyHere : ByteArray := prog_6_method_11_code
def yX4_keyHere : MethodName := ⟨RX4, "keyHere", "()I"⟩
abbrev cX4_namesOf : ByteArray := prog_6_method_12_code
def yX4_namesOf : MethodName := ⟨RX4, "namesOf", "(I)Ljava/lang/String;"⟩
abbrev cX4_nameHere : ByteArray := prog_6_method_13_code
def yX4_nameHere : MethodName := ⟨RX4, "nameHere", "()I"⟩
abbrev cX4_signsOf : ByteArray := prog_6_method_14_code
def yX4_signsOf : MethodName := ⟨RX4, "signsOf", "(I)Ljava/lang/String;"⟩
abbrev cX4_isJoined : ByteArray := prog_6_method_15_code
def yX4_isJoined : MethodName := ⟨RX4, "isJoined", "(I)Z"⟩
abbrev cX4_readsLevel : ByteArray := prog_6_method_16_code
def yX4_readsLevel : MethodName := ⟨RX4, "readsLevel", "(III)Z"⟩
abbrev cX4_readsPiece : ByteArray := prog_6_method_17_code
def yX4_readsPiece : MethodName := ⟨RX4, "readsPiece", "(II)Z"⟩
abbrev cX4_readsName : ByteArray := prog_6_method_18_code
def yX4_readsName : MethodName := ⟨RX4, "readsName", "()Z"⟩
abbrev cX4_readsNegated : ByteArray := prog_6_method_19_code
def yX4_readsNegated : MethodName := ⟨RX4, "readsNegated", "(II)Z"⟩
abbrev cX4_readsBracket : ByteArray := prog_6_method_20_code
def yX4_readsBracket : MethodName := ⟨RX4, "readsBracket", "(II)Z"⟩
def RX5 : String := "BedsArePlaces$Row"
def TX5 : u_T := fun k => match k with
  | 0 => ("BedsArePlaces$Row", "sort", "I", false)
  | 1 => ("BedsArePlaces$Row", "length", "I", false)
  | _ => ("BedsArePlaces$Row", "places", "[I", true)
def tyX5 : Nat → FieldType := fun k => match k with
  | 0 => .int
  | 1 => .int
  | _ => .array .int
abbrev wsX50 : List Cond := u_ws RX5 TX5 3
theorem nmX5 : ∀ a, a < 3 → ∀ b, b < 3 → a ≠ b → (TX5 a).2.1 ≠ (TX5 b).2.1 := by decide +kernel
theorem tyX5_ok : ∀ k, k < 3 → parseFieldDescriptor (TX5 k).2.2.1 = some (tyX5 k) := by decide +kernel
abbrev cX5_init : ByteArray := prog_7_method_1_code
def yX5_init : MethodName := ⟨RX5, "<init>", "()V"⟩
abbrev cX5_isMissing : ByteArray := prog_7_method_2_code
def yX5_isMissing : MethodName := ⟨RX5, "isMissing", "()Z"⟩
abbrev cX5_has : ByteArray := prog_7_method_3_code
def yX5_has : MethodName := ⟨RX5, "has", "(I)Z"⟩
abbrev cX5_hasAll : ByteArray := prog_7_method_4_code
def yX5_hasAll : MethodName := ⟨RX5, "hasAll", "(II)Z"⟩
abbrev cX5_isNumber : ByteArray := prog_7_method_5_code
def yX5_isNumber : MethodName := ⟨RX5, "isNumber", "(I)Z"⟩
abbrev cX5_clear : ByteArray := prog_7_method_6_code
def yX5_clear : MethodName := ⟨RX5, "clear", "(II)V"⟩
abbrev cX5_becomeAs : ByteArray := prog_7_method_7_code
def yX5_becomeAs : MethodName := ⟨RX5, "becomeAs", "(LBedsArePlaces$Row;)V"⟩
def RX6 : String := "BedsArePlaces$Slot"
def TX6 : u_T := fun k => match k with
  | 0 => ("BedsArePlaces$Slot", "thing", "I", false)
  | 1 => ("BedsArePlaces$Slot", "bed", "LBedsArePlaces$Bed;", true)
  | 2 => ("BedsArePlaces$Slot", "row", "LBedsArePlaces$Row;", true)
  | _ => ("BedsArePlaces$Slot", "number", "I", false)
def tyX6 : Nat → FieldType := fun k => match k with
  | 0 => .int
  | 1 => .object "BedsArePlaces$Bed"
  | 2 => .object "BedsArePlaces$Row"
  | _ => .int
abbrev wsX60 : List Cond := u_ws RX6 TX6 4
theorem nmX6 : ∀ a, a < 4 → ∀ b, b < 4 → a ≠ b → (TX6 a).2.1 ≠ (TX6 b).2.1 := by decide +kernel
theorem tyX6_ok : ∀ k, k < 4 → parseFieldDescriptor (TX6 k).2.2.1 = some (tyX6 k) := by decide +kernel
abbrev cX6_init : ByteArray := prog_8_method_1_code
def yX6_init : MethodName := ⟨RX6, "<init>", "()V"⟩
def RX7 : String := "BedsArePlaces$Text"
def TX7 : u_T := fun k => match k with
  | 0 => ("BedsArePlaces$Text", "key", "I", false)
  | 1 => ("BedsArePlaces$Text", "parts", "[I", true)
  | 2 => ("BedsArePlaces$Text", "length", "I", false)
  | _ => ("BedsArePlaces$Text", "leaves", "I", false)
def tyX7 : Nat → FieldType := fun k => match k with
  | 0 => .int
  | 1 => .array .int
  | 2 => .int
  | _ => .int
abbrev wsX70 : List Cond := u_ws RX7 TX7 4
theorem nmX7 : ∀ a, a < 4 → ∀ b, b < 4 → a ≠ b → (TX7 a).2.1 ≠ (TX7 b).2.1 := by decide +kernel
theorem tyX7_ok : ∀ k, k < 4 → parseFieldDescriptor (TX7 k).2.2.1 = some (tyX7 k) := by decide +kernel
abbrev cX7_init : ByteArray := prog_9_method_1_code
def yX7_init : MethodName := ⟨RX7, "<init>", "()V"⟩
abbrev cX7_begin : ByteArray := prog_9_method_2_code
def yX7_begin : MethodName := ⟨RX7, "begin", "(I)V"⟩
abbrev cX7_addLeaf : ByteArray := prog_9_method_3_code
def yX7_addLeaf : MethodName := ⟨RX7, "addLeaf", "(I)V"⟩
abbrev cX7_addSign : ByteArray := prog_9_method_4_code
def yX7_addSign : MethodName := ⟨RX7, "addSign", "(C)V"⟩
abbrev cX7_add : ByteArray := prog_9_method_5_code
def yX7_add : MethodName := ⟨RX7, "add", "(I)V"⟩
def RX8 : String := "BedsArePlaces$Ways"
def TX8 : u_T := fun k => match k with
  | 0 => ("BedsArePlaces$Ways", "land", "LBedsArePlaces$Land;", true)
  | _ => ("BedsArePlaces$Ways", "reaches", "[I", true)
def tyX8 : Nat → FieldType := fun k => match k with
  | 0 => .object "BedsArePlaces$Land"
  | _ => .array .int
abbrev wsX80 : List Cond := u_ws RX8 TX8 2
theorem nmX8 : ∀ a, a < 2 → ∀ b, b < 2 → a ≠ b → (TX8 a).2.1 ≠ (TX8 b).2.1 := by decide +kernel
theorem tyX8_ok : ∀ k, k < 2 → parseFieldDescriptor (TX8 k).2.2.1 = some (tyX8 k) := by decide +kernel
abbrev cX8_init : ByteArray := prog_10_method_1_code
def yX8_init : MethodName := ⟨RX8, "<init>", "(LBedsArePlaces$Land;)V"⟩
abbrev cX8_oneFurther : ByteArray := prog_10_method_2_code
def yX8_oneFurther : MethodName := ⟨RX8, "oneFurther", "(II)I"⟩
abbrev cX8_reachOf : ByteArray := prog_10_method_3_code
def yX8_reachOf : MethodName := ⟨RX8, "reachOf", "(II)I"⟩
abbrev cX8_steps : ByteArray := prog_10_method_4_code
def yX8_steps : MethodName := ⟨RX8, "steps", "(II)I"⟩
abbrev cX8_reachedWithout : ByteArray := prog_10_method_5_code
def yX8_reachedWithout : MethodName := ⟨RX8, "reachedWithout", "(I)I"⟩
abbrev cX8_comingTo : ByteArray := prog_10_method_6_code
def yX8_comingTo : MethodName := ⟨RX8, "comingTo", "(I)I"⟩
abbrev cX8_lacking : ByteArray := prog_10_method_7_code
def yX8_lacking : MethodName := ⟨RX8, "lacking", "()I"⟩
def RX9 : String := "BedsArePlaces"
def TX9 : u_T := fun k => match k with
  | 0 => ("BedsArePlaces", "laws", "LBedsArePlaces$Laws;", true)
  | 1 => ("BedsArePlaces", "reader", "LBedsArePlaces$Reader;", true)
  | 2 => ("BedsArePlaces", "now", "LBedsArePlaces$Land;", true)
  | 3 => ("BedsArePlaces", "thought", "LBedsArePlaces$Land;", true)
  | 4 => ("BedsArePlaces", "image", "LBedsArePlaces$Land;", true)
  | 5 => ("BedsArePlaces", "imaged", "Z", false)
  | 6 => ("BedsArePlaces", "ways", "LBedsArePlaces$Ways;", true)
  | 7 => ("BedsArePlaces", "rows", "[LBedsArePlaces$Row;", true)
  | 8 => ("BedsArePlaces", "slots", "[LBedsArePlaces$Slot;", true)
  | 9 => ("BedsArePlaces", "waiting", "[I", true)
  | _ => ("BedsArePlaces", "waits", "I", false)
def tyX9 : Nat → FieldType := fun k => match k with
  | 0 => .object "BedsArePlaces$Laws"
  | 1 => .object "BedsArePlaces$Reader"
  | 2 => .object "BedsArePlaces$Land"
  | 3 => .object "BedsArePlaces$Land"
  | 4 => .object "BedsArePlaces$Land"
  | 5 => .boolean
  | 6 => .object "BedsArePlaces$Ways"
  | 7 => .array (.object "BedsArePlaces$Row")
  | 8 => .array (.object "BedsArePlaces$Slot")
  | 9 => .array .int
  | _ => .int
abbrev wsX90 : List Cond := u_ws RX9 TX9 11
theorem nmX9 : ∀ a, a < 11 → ∀ b, b < 11 → a ≠ b → (TX9 a).2.1 ≠ (TX9 b).2.1 := by decide +kernel
theorem tyX9_ok : ∀ k, k < 11 → parseFieldDescriptor (TX9 k).2.2.1 = some (tyX9 k) := by decide +kernel
abbrev cX9_init : ByteArray := prog_1_method_1_code
def yX9_init : MethodName := ⟨RX9, "<init>", "()V"⟩
abbrev cX9_bed : ByteArray := prog_1_method_2_code
def yX9_bed : MethodName := ⟨RX9, "bed", "(IIII)I"⟩
abbrev cX9_told : ByteArray := prog_1_method_3_code
def yX9_told : MethodName := ⟨RX9, "told", "(II)I"⟩
abbrev cX9_as : ByteArray := prog_1_method_4_code
def yX9_as : MethodName := ⟨RX9, "as", "(II)I"⟩
abbrev cX9_turns : ByteArray := prog_1_method_5_code
def yX9_turns : MethodName := ⟨RX9, "turns", "(II)I"⟩
abbrev cX9_set : ByteArray := prog_1_method_6_code
def yX9_set : MethodName := ⟨RX9, "set", "(III)I"⟩
abbrev cX9_carry : ByteArray := prog_1_method_7_code
def yX9_carry : MethodName := ⟨RX9, "carry", "(I)I"⟩
abbrev cX9_deal : ByteArray := prog_1_method_8_code
def yX9_deal : MethodName := ⟨RX9, "deal", "(I)I"⟩
abbrev cX9_seed : ByteArray := prog_1_method_9_code
def yX9_seed : MethodName := ⟨RX9, "seed", "(I)I"⟩
abbrev cX9_one : ByteArray := prog_1_method_10_code
def yX9_one : MethodName := ⟨RX9, "one", "(II)I"⟩
abbrev cX9_folk : ByteArray := prog_1_method_11_code
def yX9_folk : MethodName := ⟨RX9, "folk", "(II)I"⟩
abbrev cX9_sends : ByteArray := prog_1_method_12_code
def yX9_sends : MethodName := ⟨RX9, "sends", "(III)I"⟩
abbrev cX9_who : ByteArray := prog_1_method_13_code
def yX9_who : MethodName := ⟨RX9, "who", "(I)I"⟩
abbrev cX9_nights : ByteArray := prog_1_method_14_code
def yX9_nights : MethodName := ⟨RX9, "nights", "(I)I"⟩
abbrev cX9_land : ByteArray := prog_1_method_15_code
def yX9_land : MethodName := ⟨RX9, "land", "(I)I"⟩
abbrev cX9_reach : ByteArray := prog_1_method_16_code
def yX9_reach : MethodName := ⟨RX9, "reach", "(I)I"⟩
abbrev cX9_way : ByteArray := prog_1_method_17_code
def yX9_way : MethodName := ⟨RX9, "way", "(II)I"⟩
abbrev cX9_lacks : ByteArray := prog_1_method_18_code
def yX9_lacks : MethodName := ⟨RX9, "lacks", "()I"⟩
abbrev cX9_missed : ByteArray := prog_1_method_19_code
def yX9_missed : MethodName := ⟨RX9, "missed", "(I)I"⟩
abbrev cX9_behind : ByteArray := prog_1_method_20_code
def yX9_behind : MethodName := ⟨RX9, "behind", "(II)I"⟩
abbrev cX9_home : ByteArray := prog_1_method_21_code
def yX9_home : MethodName := ⟨RX9, "home", "(I)I"⟩
abbrev cX9_brought : ByteArray := prog_1_method_22_code
def yX9_brought : MethodName := ⟨RX9, "brought", "(II)I"⟩
abbrev cX9_belongs : ByteArray := prog_1_method_23_code
def yX9_belongs : MethodName := ⟨RX9, "belongs", "(III)I"⟩
abbrev cX9_becomes : ByteArray := prog_1_method_24_code
def yX9_becomes : MethodName := ⟨RX9, "becomes", "(III)I"⟩
abbrev cX9_whose : ByteArray := prog_1_method_25_code
def yX9_whose : MethodName := ⟨RX9, "whose", "(II)I"⟩
abbrev cX9_fee : ByteArray := prog_1_method_26_code
def yX9_fee : MethodName := ⟨RX9, "fee", "()I"⟩
abbrev cX9_fine : ByteArray := prog_1_method_27_code
def yX9_fine : MethodName := ⟨RX9, "fine", "(I)I"⟩
abbrev cX9_feed : ByteArray := prog_1_method_28_code
def yX9_feed : MethodName := ⟨RX9, "feed", "(III)I"⟩
abbrev cX9_trim : ByteArray := prog_1_method_29_code
def yX9_trim : MethodName := ⟨RX9, "trim", "(I)I"⟩
abbrev cX9_text : ByteArray := prog_1_method_30_code
def yX9_text : MethodName := ⟨RX9, "text", "()I"⟩
abbrev cX9_textTold : ByteArray := prog_1_method_31_code
def yX9_textTold : MethodName := ⟨RX9, "textTold", "(II)I"⟩
abbrev cX9_why : ByteArray := prog_1_method_32_code
def yX9_why : MethodName := ⟨RX9, "why", "(I)I"⟩
abbrev cX9_sheet : ByteArray := prog_1_method_33_code
def yX9_sheet : MethodName := ⟨RX9, "sheet", "(III)I"⟩
abbrev cX9_mark : ByteArray := prog_1_method_34_code
def yX9_mark : MethodName := ⟨RX9, "mark", "(III)I"⟩
abbrev cX9_pour : ByteArray := prog_1_method_35_code
def yX9_pour : MethodName := ⟨RX9, "pour", "(I)I"⟩
abbrev cX9_reads : ByteArray := prog_1_method_36_code
def yX9_reads : MethodName := ⟨RX9, "reads", "(I)I"⟩
abbrev cX9_copy : ByteArray := prog_1_method_37_code
def yX9_copy : MethodName := ⟨RX9, "copy", "(IIIII)I"⟩
abbrev cX9_lay : ByteArray := prog_1_method_38_code
def yX9_lay : MethodName := ⟨RX9, "lay", "(III)I"⟩
abbrev cX9_ask : ByteArray := prog_1_method_39_code
def yX9_ask : MethodName := ⟨RX9, "ask", "(II)I"⟩
abbrev cX9_item : ByteArray := prog_1_method_40_code
def yX9_item : MethodName := ⟨RX9, "item", "(II)I"⟩
abbrev cX9_rest : ByteArray := prog_1_method_41_code
def yX9_rest : MethodName := ⟨RX9, "rest", "(II)I"⟩
abbrev cX9_tell : ByteArray := prog_1_method_42_code
def yX9_tell : MethodName := ⟨RX9, "tell", "(I)I"⟩
abbrev cX9_check : ByteArray := prog_1_method_43_code
def yX9_check : MethodName := ⟨RX9, "check", "(I)I"⟩
abbrev cX9_keep : ByteArray := prog_1_method_44_code
def yX9_keep : MethodName := ⟨RX9, "keep", "()I"⟩
abbrev cX9_back : ByteArray := prog_1_method_45_code
def yX9_back : MethodName := ⟨RX9, "back", "()I"⟩
abbrev cX9_count : ByteArray := prog_1_method_46_code
def yX9_count : MethodName := ⟨RX9, "count", "(I)I"⟩
abbrev cX9_isBed : ByteArray := prog_1_method_47_code
def yX9_isBed : MethodName := ⟨RX9, "isBed", "(I)Z"⟩
abbrev cX9_isOne : ByteArray := prog_1_method_48_code
def yX9_isOne : MethodName := ⟨RX9, "isOne", "(I)Z"⟩
abbrev cX9_isTown : ByteArray := prog_1_method_49_code
def yX9_isTown : MethodName := ⟨RX9, "isTown", "(I)Z"⟩
abbrev cX9_isKind : ByteArray := prog_1_method_50_code
def yX9_isKind : MethodName := ⟨RX9, "isKind", "(I)Z"⟩
abbrev cX9_isSheet : ByteArray := prog_1_method_51_code
def yX9_isSheet : MethodName := ⟨RX9, "isSheet", "(I)Z"⟩
abbrev cX9_isSlot : ByteArray := prog_1_method_52_code
def yX9_isSlot : MethodName := ⟨RX9, "isSlot", "(I)Z"⟩
abbrev cX9_mostOfOne : ByteArray := prog_1_method_53_code
def yX9_mostOfOne : MethodName := ⟨RX9, "mostOfOne", "(I)I"⟩
abbrev cX9_within : ByteArray := prog_1_method_54_code
def yX9_within : MethodName := ⟨RX9, "within", "(II)I"⟩
abbrev cX9_rightAhead : ByteArray := prog_1_method_55_code
def yX9_rightAhead : MethodName := ⟨RX9, "rightAhead", "(II)I"⟩
def RX10 : String := "BedsArePlacesModel"
def TX10 : u_T := fun k => match k with
  | 0 => ("BedsArePlacesModel", "now", "[I", true)
  | 1 => ("BedsArePlacesModel", "image", "[I", true)
  | 2 => ("BedsArePlacesModel", "aside", "[I", true)
  | 3 => ("BedsArePlacesModel", "hasImage", "Z", false)
  | 4 => ("BedsArePlacesModel", "lying", "[I", true)
  | 5 => ("BedsArePlacesModel", "leads", "[I", true)
  | 6 => ("BedsArePlacesModel", "reached", "[I", true)
  | 7 => ("BedsArePlacesModel", "before", "[I", true)
  | 8 => ("BedsArePlacesModel", "alike", "[I", true)
  | 9 => ("BedsArePlacesModel", "tape", "[I", true)
  | 10 => ("BedsArePlacesModel", "taped", "I", false)
  | 11 => ("BedsArePlacesModel", "next", "I", false)
  | 12 => ("BedsArePlacesModel", "from", "I", false)
  | 13 => ("BedsArePlacesModel", "token", "I", false)
  | 14 => ("BedsArePlacesModel", "value", "I", false)
  | 15 => ("BedsArePlacesModel", "ended", "I", false)
  | 16 => ("BedsArePlacesModel", "key", "I", false)
  | 17 => ("BedsArePlacesModel", "keys", "[C", true)
  | 18 => ("BedsArePlacesModel", "keyAt", "[I", true)
  | 19 => ("BedsArePlacesModel", "code", "[I", true)
  | 20 => ("BedsArePlacesModel", "codes", "I", false)
  | 21 => ("BedsArePlacesModel", "atoms", "I", false)
  | 22 => ("BedsArePlacesModel", "waits", "[I", true)
  | 23 => ("BedsArePlacesModel", "held", "I", false)
  | 24 => ("BedsArePlacesModel", "tested", "[Z", true)
  | 25 => ("BedsArePlacesModel", "stack", "[I", true)
  | 26 => ("BedsArePlacesModel", "facts", "[I", true)
  | 27 => ("BedsArePlacesModel", "sorts", "[I", true)
  | 28 => ("BedsArePlacesModel", "sizes", "[I", true)
  | 29 => ("BedsArePlacesModel", "cells", "[I", true)
  | 30 => ("BedsArePlacesModel", "holds", "[I", true)
  | 31 => ("BedsArePlacesModel", "holdsA", "[I", true)
  | 32 => ("BedsArePlacesModel", "holdsB", "[I", true)
  | 33 => ("BedsArePlacesModel", "heldCells", "[I", true)
  | 34 => ("BedsArePlacesModel", "moved", "[I", true)
  | 35 => ("BedsArePlacesModel", "tells", "[I", true)
  | _ => ("BedsArePlacesModel", "waiting", "I", false)
def tyX10 : Nat → FieldType := fun k => match k with
  | 0 => .array .int
  | 1 => .array .int
  | 2 => .array .int
  | 3 => .boolean
  | 4 => .array .int
  | 5 => .array .int
  | 6 => .array .int
  | 7 => .array .int
  | 8 => .array .int
  | 9 => .array .int
  | 10 => .int
  | 11 => .int
  | 12 => .int
  | 13 => .int
  | 14 => .int
  | 15 => .int
  | 16 => .int
  | 17 => .array .char
  | 18 => .array .int
  | 19 => .array .int
  | 20 => .int
  | 21 => .int
  | 22 => .array .int
  | 23 => .int
  | 24 => .array .boolean
  | 25 => .array .int
  | 26 => .array .int
  | 27 => .array .int
  | 28 => .array .int
  | 29 => .array .int
  | 30 => .array .int
  | 31 => .array .int
  | 32 => .array .int
  | 33 => .array .int
  | 34 => .array .int
  | 35 => .array .int
  | _ => .int
abbrev wsX100 : List Cond := u_ws RX10 TX10 37
theorem nmX10 : ∀ a, a < 37 → ∀ b, b < 37 → a ≠ b → (TX10 a).2.1 ≠ (TX10 b).2.1 := by decide +kernel
theorem tyX10_ok : ∀ k, k < 37 → parseFieldDescriptor (TX10 k).2.2.1 = some (tyX10 k) := by decide +kernel
abbrev cX10_init : ByteArray := prog_12_method_1_code
def yX10_init : MethodName := ⟨RX10, "<init>", "()V"⟩
abbrev cX10_in : ByteArray := prog_12_method_2_code
def yX10_in : MethodName := ⟨RX10, "in", "(III)Z"⟩
abbrev cX10_within : ByteArray := prog_12_method_3_code
def yX10_within : MethodName := ⟨RX10, "within", "(III)I"⟩
abbrev cX10_copyAll : ByteArray := prog_12_method_4_code
def yX10_copyAll : MethodName := ⟨RX10, "copyAll", "([I[I)V"⟩
abbrev cX10_isBed : ByteArray := prog_12_method_5_code
def yX10_isBed : MethodName := ⟨RX10, "isBed", "(I)Z"⟩
abbrev cX10_isOne : ByteArray := prog_12_method_6_code
def yX10_isOne : MethodName := ⟨RX10, "isOne", "(I)Z"⟩
abbrev cX10_isTown : ByteArray := prog_12_method_7_code
def yX10_isTown : MethodName := ⟨RX10, "isTown", "(I)Z"⟩
abbrev cX10_of : ByteArray := prog_12_method_8_code
def yX10_of : MethodName := ⟨RX10, "of", "(II)I"⟩
abbrev cX10_put : ByteArray := prog_12_method_9_code
def yX10_put : MethodName := ⟨RX10, "put", "(III)V"⟩
abbrev cX10_by : ByteArray := prog_12_method_10_code
def yX10_by : MethodName := ⟨RX10, "by", "(II)I"⟩
abbrev cX10_lays : ByteArray := prog_12_method_11_code
def yX10_lays : MethodName := ⟨RX10, "lays", "(III)V"⟩
abbrev cX10_swaps : ByteArray := prog_12_method_12_code
def yX10_swaps : MethodName := ⟨RX10, "swaps", "(II)I"⟩
abbrev cX10_comes : ByteArray := prog_12_method_13_code
def yX10_comes : MethodName := ⟨RX10, "comes", "(IIII)I"⟩
abbrev cX10_bed : ByteArray := prog_12_method_14_code
def yX10_bed : MethodName := ⟨RX10, "bed", "(IIII)I"⟩
abbrev cX10_wideOf : ByteArray := prog_12_method_15_code
def yX10_wideOf : MethodName := ⟨RX10, "wideOf", "(I)I"⟩
abbrev cX10_takesTo : ByteArray := prog_12_method_16_code
def yX10_takesTo : MethodName := ⟨RX10, "takesTo", "(II)I"⟩
abbrev cX10_leadsTo : ByteArray := prog_12_method_17_code
def yX10_leadsTo : MethodName := ⟨RX10, "leadsTo", "(I)I"⟩
abbrev cX10_worthOf : ByteArray := prog_12_method_18_code
def yX10_worthOf : MethodName := ⟨RX10, "worthOf", "(I)I"⟩
abbrev cX10_told : ByteArray := prog_12_method_19_code
def yX10_told : MethodName := ⟨RX10, "told", "(II)I"⟩
abbrev cX10_isUnder : ByteArray := prog_12_method_20_code
def yX10_isUnder : MethodName := ⟨RX10, "isUnder", "(II)Z"⟩
abbrev cX10_as : ByteArray := prog_12_method_21_code
def yX10_as : MethodName := ⟨RX10, "as", "(II)I"⟩
abbrev cX10_turns : ByteArray := prog_12_method_22_code
def yX10_turns : MethodName := ⟨RX10, "turns", "(II)I"⟩
abbrev cX10_set : ByteArray := prog_12_method_23_code
def yX10_set : MethodName := ⟨RX10, "set", "(III)I"⟩
abbrev cX10_carry : ByteArray := prog_12_method_24_code
def yX10_carry : MethodName := ⟨RX10, "carry", "(I)I"⟩
abbrev cX10_draw : ByteArray := prog_12_method_25_code
def yX10_draw : MethodName := ⟨RX10, "draw", "()I"⟩
abbrev cX10_deal : ByteArray := prog_12_method_26_code
def yX10_deal : MethodName := ⟨RX10, "deal", "(I)I"⟩
abbrev cX10_seed : ByteArray := prog_12_method_27_code
def yX10_seed : MethodName := ⟨RX10, "seed", "(I)I"⟩
abbrev cX10_one : ByteArray := prog_12_method_28_code
def yX10_one : MethodName := ⟨RX10, "one", "(II)I"⟩
abbrev cX10_thereIn : ByteArray := prog_12_method_29_code
def yX10_thereIn : MethodName := ⟨RX10, "thereIn", "(I)I"⟩
abbrev cX10_hoursGive : ByteArray := prog_12_method_30_code
def yX10_hoursGive : MethodName := ⟨RX10, "hoursGive", "(I)I"⟩
abbrev cX10_folk : ByteArray := prog_12_method_31_code
def yX10_folk : MethodName := ⟨RX10, "folk", "(II)I"⟩
abbrev cX10_sends : ByteArray := prog_12_method_32_code
def yX10_sends : MethodName := ⟨RX10, "sends", "(III)I"⟩
abbrev cX10_who : ByteArray := prog_12_method_33_code
def yX10_who : MethodName := ⟨RX10, "who", "(I)I"⟩
abbrev cX10_manyOf : ByteArray := prog_12_method_34_code
def yX10_manyOf : MethodName := ⟨RX10, "manyOf", "(I)I"⟩
abbrev cX10_bedFor : ByteArray := prog_12_method_35_code
def yX10_bedFor : MethodName := ⟨RX10, "bedFor", "(I)I"⟩
abbrev cX10_liesDown : ByteArray := prog_12_method_36_code
def yX10_liesDown : MethodName := ⟨RX10, "liesDown", "(I)V"⟩
abbrev cX10_wakes : ByteArray := prog_12_method_37_code
def yX10_wakes : MethodName := ⟨RX10, "wakes", "(I)V"⟩
abbrev cX10_night : ByteArray := prog_12_method_38_code
def yX10_night : MethodName := ⟨RX10, "night", "()V"⟩
abbrev cX10_goesOn : ByteArray := prog_12_method_39_code
def yX10_goesOn : MethodName := ⟨RX10, "goesOn", "(I)V"⟩
abbrev cX10_nights : ByteArray := prog_12_method_40_code
def yX10_nights : MethodName := ⟨RX10, "nights", "(I)I"⟩
abbrev cX10_isHome : ByteArray := prog_12_method_41_code
def yX10_isHome : MethodName := ⟨RX10, "isHome", "(I)Z"⟩
abbrev cX10_atHome : ByteArray := prog_12_method_42_code
def yX10_atHome : MethodName := ⟨RX10, "atHome", "()I"⟩
abbrev cX10_gone : ByteArray := prog_12_method_43_code
def yX10_gone : MethodName := ⟨RX10, "gone", "()I"⟩
abbrev cX10_land : ByteArray := prog_12_method_44_code
def yX10_land : MethodName := ⟨RX10, "land", "(I)I"⟩
abbrev cX10_looksAround : ByteArray := prog_12_method_45_code
def yX10_looksAround : MethodName := ⟨RX10, "looksAround", "(I)V"⟩
abbrev cX10_onward : ByteArray := prog_12_method_46_code
def yX10_onward : MethodName := ⟨RX10, "onward", "(I)I"⟩
abbrev cX10_reach : ByteArray := prog_12_method_47_code
def yX10_reach : MethodName := ⟨RX10, "reach", "(I)I"⟩
abbrev cX10_way : ByteArray := prog_12_method_48_code
def yX10_way : MethodName := ⟨RX10, "way", "(II)I"⟩
abbrev cX10_lacks : ByteArray := prog_12_method_49_code
def yX10_lacks : MethodName := ⟨RX10, "lacks", "()I"⟩
abbrev cX10_reachedInAll : ByteArray := prog_12_method_50_code
def yX10_reachedInAll : MethodName := ⟨RX10, "reachedInAll", "(I)I"⟩
abbrev cX10_missed : ByteArray := prog_12_method_51_code
def yX10_missed : MethodName := ⟨RX10, "missed", "(I)I"⟩
abbrev cX10_thinks : ByteArray := prog_12_method_52_code
def yX10_thinks : MethodName := ⟨RX10, "thinks", "()V"⟩
abbrev cX10_putsBack : ByteArray := prog_12_method_53_code
def yX10_putsBack : MethodName := ⟨RX10, "putsBack", "()V"⟩
abbrev cX10_behind : ByteArray := prog_12_method_54_code
def yX10_behind : MethodName := ⟨RX10, "behind", "(II)I"⟩
abbrev cX10_homeBy : ByteArray := prog_12_method_55_code
def yX10_homeBy : MethodName := ⟨RX10, "homeBy", "(II)I"⟩
abbrev cX10_home : ByteArray := prog_12_method_56_code
def yX10_home : MethodName := ⟨RX10, "home", "(I)I"⟩
abbrev cX10_brought : ByteArray := prog_12_method_57_code
def yX10_brought : MethodName := ⟨RX10, "brought", "(II)I"⟩
abbrev cX10_mostBy : ByteArray := prog_12_method_58_code
def yX10_mostBy : MethodName := ⟨RX10, "mostBy", "(IIII)I"⟩
abbrev cX10_belongs : ByteArray := prog_12_method_59_code
def yX10_belongs : MethodName := ⟨RX10, "belongs", "(III)I"⟩
abbrev cX10_becomes : ByteArray := prog_12_method_60_code
def yX10_becomes : MethodName := ⟨RX10, "becomes", "(III)I"⟩
abbrev cX10_whose : ByteArray := prog_12_method_61_code
def yX10_whose : MethodName := ⟨RX10, "whose", "(II)I"⟩
abbrev cX10_fee : ByteArray := prog_12_method_62_code
def yX10_fee : MethodName := ⟨RX10, "fee", "()I"⟩
abbrev cX10_fine : ByteArray := prog_12_method_63_code
def yX10_fine : MethodName := ⟨RX10, "fine", "(I)I"⟩
abbrev cX10_feed : ByteArray := prog_12_method_64_code
def yX10_feed : MethodName := ⟨RX10, "feed", "(III)I"⟩
abbrev cX10_trim : ByteArray := prog_12_method_65_code
def yX10_trim : MethodName := ⟨RX10, "trim", "(I)I"⟩
abbrev cX10_isLetter : ByteArray := prog_12_method_66_code
def yX10_isLetter : MethodName := ⟨RX10, "isLetter", "(I)Z"⟩
abbrev cX10_isFigure : ByteArray := prog_12_method_67_code
def yX10_isFigure : MethodName := ⟨RX10, "isFigure", "(I)Z"⟩
abbrev cX10_go : ByteArray := prog_12_method_68_code
def yX10_go : MethodName := ⟨RX10, "go", "()V"⟩
abbrev cX10_takesKey : ByteArray := prog_12_method_69_code
def yX10_takesKey : MethodName := ⟨RX10, "takesKey", "()Z"⟩
abbrev cX10_nameOf : ByteArray := prog_12_method_70_code
def yX10_nameOf : MethodName := ⟨RX10, "nameOf", "(I)I"⟩
abbrev cX10_rank : ByteArray := prog_12_method_71_code
def yX10_rank : MethodName := ⟨RX10, "rank", "(I)I"⟩
abbrev cX10_settle : ByteArray := prog_12_method_72_code
def yX10_settle : MethodName := ⟨RX10, "settle", "(I)V"⟩
abbrev cX10_signHere : ByteArray := prog_12_method_73_code
def yX10_signHere : MethodName := ⟨RX10, "signHere", "()I"⟩
abbrev cX10_takesPart : ByteArray := prog_12_method_74_code
def yX10_takesPart : MethodName := ⟨RX10, "takesPart", "()Z"⟩
abbrev cX10_takesE : ByteArray := prog_12_method_75_code
def yX10_takesE : MethodName := ⟨RX10, "takesE", "()Z"⟩
abbrev cX10_notsOpen : ByteArray := prog_12_method_76_code
def yX10_notsOpen : MethodName := ⟨RX10, "notsOpen", "()I"⟩
abbrev cX10_text : ByteArray := prog_12_method_77_code
def yX10_text : MethodName := ⟨RX10, "text", "()I"⟩
abbrev cX10_textTold : ByteArray := prog_12_method_78_code
def yX10_textTold : MethodName := ⟨RX10, "textTold", "(II)I"⟩
abbrev cX10_counts : ByteArray := prog_12_method_79_code
def yX10_counts : MethodName := ⟨RX10, "counts", "(I)I"⟩
abbrev cX10_why : ByteArray := prog_12_method_80_code
def yX10_why : MethodName := ⟨RX10, "why", "(I)I"⟩
abbrev cX10_two : ByteArray := prog_12_method_81_code
def yX10_two : MethodName := ⟨RX10, "two", "(III)I"⟩
abbrev cX10_worksOut : ByteArray := prog_12_method_82_code
def yX10_worksOut : MethodName := ⟨RX10, "worksOut", "(I)I"⟩
abbrev cX10_isSheet : ByteArray := prog_12_method_83_code
def yX10_isSheet : MethodName := ⟨RX10, "isSheet", "(I)Z"⟩
abbrev cX10_isSlot : ByteArray := prog_12_method_84_code
def yX10_isSlot : MethodName := ⟨RX10, "isSlot", "(I)Z"⟩
abbrev cX10_sheet : ByteArray := prog_12_method_85_code
def yX10_sheet : MethodName := ⟨RX10, "sheet", "(III)I"⟩
abbrev cX10_mark : ByteArray := prog_12_method_86_code
def yX10_mark : MethodName := ⟨RX10, "mark", "(III)I"⟩
abbrev cX10_pour : ByteArray := prog_12_method_87_code
def yX10_pour : MethodName := ⟨RX10, "pour", "(I)I"⟩
abbrev cX10_reads : ByteArray := prog_12_method_88_code
def yX10_reads : MethodName := ⟨RX10, "reads", "(I)I"⟩
abbrev cX10_copy : ByteArray := prog_12_method_89_code
def yX10_copy : MethodName := ⟨RX10, "copy", "(IIIII)I"⟩
abbrev cX10_lay : ByteArray := prog_12_method_90_code
def yX10_lay : MethodName := ⟨RX10, "lay", "(III)I"⟩
abbrev cX10_ask : ByteArray := prog_12_method_91_code
def yX10_ask : MethodName := ⟨RX10, "ask", "(II)I"⟩
abbrev cX10_item : ByteArray := prog_12_method_92_code
def yX10_item : MethodName := ⟨RX10, "item", "(II)I"⟩
abbrev cX10_rest : ByteArray := prog_12_method_93_code
def yX10_rest : MethodName := ⟨RX10, "rest", "(II)I"⟩
abbrev cX10_tell : ByteArray := prog_12_method_94_code
def yX10_tell : MethodName := ⟨RX10, "tell", "(I)I"⟩
abbrev cX10_check : ByteArray := prog_12_method_95_code
def yX10_check : MethodName := ⟨RX10, "check", "(I)I"⟩
abbrev cX10_keep : ByteArray := prog_12_method_96_code
def yX10_keep : MethodName := ⟨RX10, "keep", "()I"⟩
abbrev cX10_back : ByteArray := prog_12_method_97_code
def yX10_back : MethodName := ⟨RX10, "back", "()I"⟩
abbrev cX10_count : ByteArray := prog_12_method_98_code
def yX10_count : MethodName := ⟨RX10, "count", "(I)I"⟩
def RJ11 : String := "java/lang/Character"
def TJ11 : u_T := fun k => match k with
  | _ => ("", "", "", false)
def tyJ11 : Nat → FieldType := fun k => match k with
  | _ => .int
abbrev wsJ110 : List Cond := u_ws RJ11 TJ11 0
theorem nmJ11 : ∀ a, a < 0 → ∀ b, b < 0 → a ≠ b → (TJ11 a).2.1 ≠ (TJ11 b).2.1 := by decide +kernel
theorem tyJ11_ok : ∀ k, k < 0 → parseFieldDescriptor (TJ11 k).2.2.1 = some (tyJ11 k) := by decide +kernel
abbrev cJ11_isValidCodePoint_9a6ad : ByteArray := prog_13_method_11_code
def yJ11_isValidCodePoint_9a6ad : MethodName := ⟨RJ11, "isValidCodePoint", "(I)Z"⟩
abbrev cJ11_highSurrogate_5068e : ByteArray := prog_13_method_28_code
def yJ11_highSurrogate_5068e : MethodName := ⟨RJ11, "highSurrogate", "(I)C"⟩
abbrev cJ11_lowSurrogate_5068e : ByteArray := prog_13_method_29_code
def yJ11_lowSurrogate_5068e : MethodName := ⟨RJ11, "lowSurrogate", "(I)C"⟩
def RJ6 : String := "java/lang/Integer"
def TJ6 : u_T := fun k => match k with
  | _ => ("", "", "", false)
def tyJ6 : Nat → FieldType := fun k => match k with
  | _ => .int
abbrev wsJ60 : List Cond := u_ws RJ6 TJ6 0
theorem nmJ6 : ∀ a, a < 0 → ∀ b, b < 0 → a ≠ b → (TJ6 a).2.1 ≠ (TJ6 b).2.1 := by decide +kernel
theorem tyJ6_ok : ∀ k, k < 0 → parseFieldDescriptor (TJ6 k).2.2.1 = some (tyJ6 k) := by decide +kernel
abbrev cJ6_bitCount_0f7a4 : ByteArray := prog_14_method_49_code
def yJ6_bitCount_0f7a4 : MethodName := ⟨RJ6, "bitCount", "(I)I"⟩
def RJ9 : String := "java/lang/Math"
def TJ9 : u_T := fun k => match k with
  | _ => ("", "", "", false)
def tyJ9 : Nat → FieldType := fun k => match k with
  | _ => .int
abbrev wsJ90 : List Cond := u_ws RJ9 TJ9 0
theorem nmJ9 : ∀ a, a < 0 → ∀ b, b < 0 → a ≠ b → (TJ9 a).2.1 ≠ (TJ9 b).2.1 := by decide +kernel
theorem tyJ9_ok : ∀ k, k < 0 → parseFieldDescriptor (TJ9 k).2.2.1 = some (tyJ9 k) := by decide +kernel
abbrev cJ9_abs_0f7a4 : ByteArray := prog_15_method_59_code
def yJ9_abs_0f7a4 : MethodName := ⟨RJ9, "abs", "(I)I"⟩
abbrev cJ9_max_7cf53 : ByteArray := prog_15_method_65_code
def yJ9_max_7cf53 : MethodName := ⟨RJ9, "max", "(II)I"⟩
abbrev cJ9_min_7cf53 : ByteArray := prog_15_method_69_code
def yJ9_min_7cf53 : MethodName := ⟨RJ9, "min", "(II)I"⟩
def RJ0 : String := "java/lang/String"
def TJ0 : u_T := fun k => match k with
  | _ => ("", "", "", false)
def tyJ0 : Nat → FieldType := fun k => match k with
  | _ => .int
abbrev wsJ00 : List Cond := u_ws RJ0 TJ0 0
theorem nmJ0 : ∀ a, a < 0 → ∀ b, b < 0 → a ≠ b → (TJ0 a).2.1 ≠ (TJ0 b).2.1 := by decide +kernel
theorem tyJ0_ok : ∀ k, k < 0 → parseFieldDescriptor (TJ0 k).2.2.1 = some (tyJ0 k) := by decide +kernel
abbrev cJ0_length_8abf5 : ByteArray := prog_16_method_54_code
def yJ0_length_8abf5 : MethodName := ⟨RJ0, "length", "()I"⟩
abbrev cJ0_charAt_5068e : ByteArray := prog_16_method_56_code
def yJ0_charAt_5068e : MethodName := ⟨RJ0, "charAt", "(I)C"⟩
abbrev cJ0_indexOf_0f7a4 : ByteArray := prog_16_method_79_code
def yJ0_indexOf_0f7a4 : MethodName := ⟨RJ0, "indexOf", "(I)I"⟩
abbrev cJ0_indexOf_7cf53 : ByteArray := prog_16_method_80_code
def yJ0_indexOf_7cf53 : MethodName := ⟨RJ0, "indexOf", "(II)I"⟩
abbrev cJ0_coder_7d493 : ByteArray := prog_16_method_152_code
def yJ0_coder_7d493 : MethodName := ⟨RJ0, "coder", "()B"⟩
abbrev cJ0_isLatin1_aae02 : ByteArray := prog_16_method_154_code
def yJ0_isLatin1_aae02 : MethodName := ⟨RJ0, "isLatin1", "()Z"⟩
abbrev cJ0_checkIndex_df160 : ByteArray := prog_16_method_155_code
def yJ0_checkIndex_df160 : MethodName := ⟨RJ0, "checkIndex", "(II)V"⟩
abbrev cJ0_checkBoundsBeginEnd_23922 : ByteArray := prog_16_method_158_code
def yJ0_checkBoundsBeginEnd_23922 : MethodName := ⟨RJ0, "checkBoundsBeginEnd", "(III)V"⟩
def RJ1 : String := "java/lang/StringLatin1"
def TJ1 : u_T := fun k => match k with
  | _ => ("", "", "", false)
def tyJ1 : Nat → FieldType := fun k => match k with
  | _ => .int
abbrev wsJ10 : List Cond := u_ws RJ1 TJ1 0
theorem nmJ1 : ∀ a, a < 0 → ∀ b, b < 0 → a ≠ b → (TJ1 a).2.1 ≠ (TJ1 b).2.1 := by decide +kernel
theorem tyJ1_ok : ∀ k, k < 0 → parseFieldDescriptor (TJ1 k).2.2.1 = some (tyJ1 k) := by decide +kernel
abbrev cJ1_charAt_3b067 : ByteArray := prog_17_method_2_code
def yJ1_charAt_3b067 : MethodName := ⟨RJ1, "charAt", "([BI)C"⟩
abbrev cJ1_canEncode_9a6ad : ByteArray := prog_17_method_4_code
def yJ1_canEncode_9a6ad : MethodName := ⟨RJ1, "canEncode", "(I)Z"⟩
abbrev cJ1_indexOf_4cfef : ByteArray := prog_17_method_22_code
def yJ1_indexOf_4cfef : MethodName := ⟨RJ1, "indexOf", "([BIII)I"⟩
abbrev cJ1_indexOfChar_4cfef : ByteArray := prog_17_method_23_code
def yJ1_indexOfChar_4cfef : MethodName := ⟨RJ1, "indexOfChar", "([BIII)I"⟩
def RJ2 : String := "java/lang/StringUTF16"
def TJ2 : u_T := fun k => match k with
  | _ => ("", "", "", false)
def tyJ2 : Nat → FieldType := fun k => match k with
  | _ => .int
abbrev wsJ20 : List Cond := u_ws RJ2 TJ2 0
theorem nmJ2 : ∀ a, a < 0 → ∀ b, b < 0 → a ≠ b → (TJ2 a).2.1 ≠ (TJ2 b).2.1 := by decide +kernel
theorem tyJ2_ok : ∀ k, k < 0 → parseFieldDescriptor (TJ2 k).2.2.1 = some (tyJ2 k) := by decide +kernel
abbrev cJ2_getChar_3b067 : ByteArray := prog_18_method_5_code
def yJ2_getChar_3b067 : MethodName := ⟨RJ2, "getChar", "([BI)C"⟩
abbrev cJ2_length_9d52b : ByteArray := prog_18_method_6_code
def yJ2_length_9d52b : MethodName := ⟨RJ2, "length", "([B)I"⟩
abbrev cJ2_indexOf_4cfef : ByteArray := prog_18_method_40_code
def yJ2_indexOf_4cfef : MethodName := ⟨RJ2, "indexOf", "([BIII)I"⟩
abbrev cJ2_indexOfChar_4cfef : ByteArray := prog_18_method_47_code
def yJ2_indexOfChar_4cfef : MethodName := ⟨RJ2, "indexOfChar", "([BIII)I"⟩
abbrev cJ2_indexOfCharUnsafe_4cfef : ByteArray := prog_18_method_48_code
def yJ2_indexOfCharUnsafe_4cfef : MethodName := ⟨RJ2, "indexOfCharUnsafe", "([BIII)I"⟩
abbrev cJ2_indexOfSupplementary_4cfef : ByteArray := prog_18_method_49_code
def yJ2_indexOfSupplementary_4cfef : MethodName := ⟨RJ2, "indexOfSupplementary", "([BIII)I"⟩
abbrev cJ2_charAt_3b067 : ByteArray := prog_18_method_83_code
def yJ2_charAt_3b067 : MethodName := ⟨RJ2, "charAt", "([BI)C"⟩
abbrev cJ2_checkIndex_2214a : ByteArray := prog_18_method_91_code
def yJ2_checkIndex_2214a : MethodName := ⟨RJ2, "checkIndex", "(I[B)V"⟩
abbrev cJ2_checkBoundsBeginEnd_d044e : ByteArray := prog_18_method_93_code
def yJ2_checkBoundsBeginEnd_d044e : MethodName := ⟨RJ2, "checkBoundsBeginEnd", "(II[B)V"⟩
def RJ10 : String := "java/lang/System"
def TJ10 : u_T := fun k => match k with
  | _ => ("", "", "", false)
def tyJ10 : Nat → FieldType := fun k => match k with
  | _ => .int
abbrev wsJ100 : List Cond := u_ws RJ10 TJ10 0
theorem nmJ10 : ∀ a, a < 0 → ∀ b, b < 0 → a ≠ b → (TJ10 a).2.1 ≠ (TJ10 b).2.1 := by decide +kernel
theorem tyJ10_ok : ∀ k, k < 0 → parseFieldDescriptor (TJ10 k).2.2.1 = some (tyJ10 k) := by decide +kernel
def RJ3 : String := "jdk/internal/util/Preconditions"
def TJ3 : u_T := fun k => match k with
  | _ => ("", "", "", false)
def tyJ3 : Nat → FieldType := fun k => match k with
  | _ => .int
abbrev wsJ30 : List Cond := u_ws RJ3 TJ3 0
theorem nmJ3 : ∀ a, a < 0 → ∀ b, b < 0 → a ≠ b → (TJ3 a).2.1 ≠ (TJ3 b).2.1 := by decide +kernel
theorem tyJ3_ok : ∀ k, k < 0 → parseFieldDescriptor (TJ3 k).2.2.1 = some (tyJ3 k) := by decide +kernel
abbrev cJ3_checkIndex_8e157 : ByteArray := prog_20_method_11_code
def yJ3_checkIndex_8e157 : MethodName := ⟨RJ3, "checkIndex", "(IILjava/util/function/BiFunction;)I"⟩
abbrev cJ3_checkFromToIndex_8c36e : ByteArray := prog_20_method_12_code
def yJ3_checkFromToIndex_8c36e : MethodName := ⟨RJ3, "checkFromToIndex", "(IIILjava/util/function/BiFunction;)I"⟩
def RL : String := "BedsArePlacesLaw"
abbrev cL_law : ByteArray := code
def yL_law : MethodName := ⟨RL, "law", "([I)Z"⟩
end
section
-- 02.mini: a small machine over fixed cells: values, memory, one step, total correctness (layout rows by program gen02.py)
abbrev Id3 : Type := Nat × Nat × Nat
abbrev AV : Type := Int32 ⊕ Id3
abbrev Mem : Type := Nat → Nat → Nat → Nat → Int32
abbrev LV : Type := List (Option AV)
abbrev Ent : Type := (Instr × Nat) × Nat × Nat × Int32 × List (Int32 × Nat)
abbrev CF : Type := Nat → LV → List AV → Mem → Prop
abbrev PQ : Type := Option AV → Mem → Prop
abbrev GA : Type := Nat → List AV → Mem → PQ → Prop
abbrev Tab : Type := List (List (Option Ent))
/-- own class, kind (0 instance, 1 static), name, bytes, locals, return type, table -/
abbrev MRec : Type := Nat × Nat × MethodName × ByteArray × Nat × Option FieldType × Tab
def mr (M : Mem) (k i j : Nat) (f : Nat → Int32) : Mem := fun k' i' j' => if k' = k ∧ i' = i ∧ j' = j then f else M k' i' j'
def mu (M : Mem) (k i j s : Nat) (v : Int32) : Mem := mr M k i j (upd (M k i j) s v)
def irem (x y : Int32) : Int32 := x - x / y * y
def kcls (k : Nat) : Nat := match k with
  | 0 => 9
  | 1 => 1
  | 3 => 0
  | 5 => 3
  | 6 => 2
  | 9 => 7
  | 11 => 4
  | 13 => 8
  | 16 => 5
  | 19 => 6
  | 30 => 10
  | _ => 99
def aty (k : Nat) : Nat := match k with
  | 2 => 3
  | 4 => 4
  | 7 => 5
  | 8 => 0
  | 10 => 0
  | 12 => 0
  | 14 => 0
  | 15 => 6
  | 17 => 0
  | 18 => 7
  | 20 => 0
  | 31 => 0
  | 32 => 0
  | 33 => 0
  | 35 => 0
  | 36 => 0
  | 37 => 0
  | 38 => 0
  | 39 => 0
  | 40 => 0
  | 48 => 2
  | 49 => 0
  | 50 => 0
  | 53 => 0
  | 55 => 1
  | 56 => 0
  | 57 => 0
  | 58 => 0
  | 59 => 0
  | 60 => 0
  | 61 => 0
  | 62 => 0
  | 63 => 0
  | 64 => 0
  | 65 => 0
  | 66 => 0
  | _ => 99
def alen (k : Nat) : Nat := match k with
  | 2 => 10
  | 4 => 9
  | 7 => 15
  | 8 => 96
  | 10 => 96
  | 12 => 96
  | 14 => 8
  | 15 => 4
  | 17 => 24
  | 18 => 5
  | 20 => 60
  | 31 => 1458
  | 32 => 1458
  | 33 => 1458
  | 35 => 10
  | 36 => 8
  | 37 => 8
  | 38 => 86
  | 39 => 9
  | 40 => 96
  | 48 => 12
  | 49 => 4
  | 50 => 96
  | 53 => 96
  | 55 => 10
  | 56 => 96
  | 57 => 4
  | 58 => 4
  | 59 => 4
  | 60 => 96
  | 61 => 5
  | 62 => 5
  | 63 => 5
  | 64 => 120
  | 65 => 24
  | 66 => 60
  | _ => 0
def aref (k i n : Nat) : Id3 := match k with
  | 2 => (3, i, n)
  | 4 => (5, i, n)
  | 7 => (9, n, 0)
  | 15 => (16, n, 0)
  | 18 => (19, n, 0)
  | _ => (0, 0, 0)
def gfv (M : Mem) (k i j s : Nat) : AV := match k with
  | 0 => (match s with
    | 0 => .inr (6, 0, 0)
    | 1 => .inr (11, 0, 0)
    | 2 => .inr (1, 0, 0)
    | 3 => .inr (1, 1, 0)
    | 4 => .inr (1, 2, 0)
    | 6 => .inr (13, 0, 0)
    | 7 => .inr (15, 0, 0)
    | 8 => .inr (18, 0, 0)
    | 9 => .inr (20, 0, 0)
    | s => .inl (M 0 i j s))
  | 1 => (match s with
    | 0 => .inr (6, 0, 0)
    | 1 => .inr (2, i, 0)
    | 3 => .inr (4, i, 0)
    | s => .inl (M 1 i j s))
  | 6 => (match s with
    | 0 => .inr (7, 0, 0)
    | 1 => .inr (8, 0, 0)
    | s => .inl (M 6 i j s))
  | 9 => (match s with
    | 1 => .inr (10, i, 0)
    | s => .inl (M 9 i j s))
  | 11 => (match s with
    | 0 => .inr (12, 0, 0)
    | 6 => .inr (9, (M 11 0 0 6).toNatClampNeg, 0)
    | s => .inl (M 11 i j s))
  | 13 => (match s with
    | 0 => .inr (1, 0, 0)
    | 1 => .inr (14, 0, 0)
    | s => .inl (M 13 i j s))
  | 16 => (match s with
    | 2 => .inr (17, i, 0)
    | s => .inl (M 16 i j s))
  | 19 => (match s with
    | 1 => .inr (3, 3, i)
    | 2 => .inr (16, i + 4, 0)
    | s => .inl (M 19 i j s))
  | 30 => (match s with
    | 0 => .inr (31, 0, 0)
    | 1 => .inr (32, 0, 0)
    | 2 => .inr (33, 0, 0)
    | 4 => .inr (35, 0, 0)
    | 5 => .inr (36, 0, 0)
    | 6 => .inr (37, 0, 0)
    | 7 => .inr (38, 0, 0)
    | 8 => .inr (39, 0, 0)
    | 9 => .inr (40, 0, 0)
    | 17 => .inr (48, 0, 0)
    | 18 => .inr (49, 0, 0)
    | 19 => .inr (50, 0, 0)
    | 22 => .inr (53, 0, 0)
    | 24 => .inr (55, 0, 0)
    | 25 => .inr (56, 0, 0)
    | 26 => .inr (57, 0, 0)
    | 27 => .inr (58, 0, 0)
    | 28 => .inr (59, 0, 0)
    | 29 => .inr (60, 0, 0)
    | 30 => .inr (61, 0, 0)
    | 31 => .inr (62, 0, 0)
    | 32 => .inr (63, 0, 0)
    | 33 => .inr (64, 0, 0)
    | 34 => .inr (65, 0, 0)
    | 35 => .inr (66, 0, 0)
    | s => .inl (M 30 i j s))
  | k => .inl (M k i j s)
/-- a class, a slot: 0 int, 1 boolean, 2 reference for good, 3 the draft -/
def fty (k s : Nat) : Nat := match k with
  | 1 => (match s with
    | 0 => 2
    | 1 => 2
    | 3 => 2
    | _ => 0)
  | 2 => (match s with
    | 0 => 2
    | 1 => 2
    | _ => 0)
  | 4 => (match s with
    | 0 => 2
    | 6 => 3
    | _ => 0)
  | 5 => (match s with
    | 2 => 2
    | _ => 0)
  | 6 => (match s with
    | 1 => 2
    | 2 => 2
    | _ => 0)
  | 7 => (match s with
    | 1 => 2
    | _ => 0)
  | 8 => (match s with
    | 0 => 2
    | 1 => 2
    | _ => 0)
  | 9 => (match s with
    | 0 => 2
    | 1 => 2
    | 2 => 2
    | 3 => 2
    | 4 => 2
    | 5 => 1
    | 6 => 2
    | 7 => 2
    | 8 => 2
    | 9 => 2
    | _ => 0)
  | 10 => (match s with
    | 0 => 2
    | 1 => 2
    | 2 => 2
    | 3 => 1
    | 4 => 2
    | 5 => 2
    | 6 => 2
    | 7 => 2
    | 8 => 2
    | 9 => 2
    | 17 => 2
    | 18 => 2
    | 19 => 2
    | 22 => 2
    | 24 => 2
    | 25 => 2
    | 26 => 2
    | 27 => 2
    | 28 => 2
    | 29 => 2
    | 30 => 2
    | 31 => 2
    | 32 => 2
    | 33 => 2
    | 34 => 2
    | 35 => 2
    | _ => 0)
  | _ => 0
/-- how many slots an object of a class has -/
def NF (k : Nat) : Nat := match k with
  | 0 => 5
  | 1 => 13
  | 2 => 2
  | 3 => 5
  | 4 => 7
  | 5 => 3
  | 6 => 4
  | 7 => 4
  | 8 => 2
  | 9 => 11
  | 10 => 37
  | _ => 0
def cids : List Id3 := [(0, 0, 0), (1, 0, 0), (2, 0, 0), (3, 0, 0), (3, 0, 1), (3, 0, 2), (3, 0, 3), (3, 0, 4), (3, 0, 5), (3, 0, 6), (3, 0, 7), (3, 0, 8), (3, 0, 9), (4, 0, 0), (5, 0, 0), (5, 0, 1), (5, 0, 2), (5, 0, 3), (5, 0, 4), (5, 0, 5), (5, 0, 6), (5, 0, 7), (5, 0, 8), (1, 1, 0), (2, 1, 0), (3, 1, 0), (3, 1, 1), (3, 1, 2), (3, 1, 3), (3, 1, 4), (3, 1, 5), (3, 1, 6), (3, 1, 7), (3, 1, 8), (3, 1, 9), (4, 1, 0), (5, 1, 0), (5, 1, 1), (5, 1, 2), (5, 1, 3), (5, 1, 4), (5, 1, 5), (5, 1, 6), (5, 1, 7), (5, 1, 8), (1, 2, 0), (2, 2, 0), (3, 2, 0), (3, 2, 1), (3, 2, 2), (3, 2, 3), (3, 2, 4), (3, 2, 5), (3, 2, 6), (3, 2, 7), (3, 2, 8), (3, 2, 9), (4, 2, 0), (5, 2, 0), (5, 2, 1), (5, 2, 2), (5, 2, 3), (5, 2, 4), (5, 2, 5), (5, 2, 6), (5, 2, 7), (5, 2, 8), (3, 3, 0), (3, 3, 1), (3, 3, 2), (3, 3, 3), (3, 3, 4), (6, 0, 0), (7, 0, 0), (8, 0, 0), (9, 0, 0), (10, 0, 0), (9, 1, 0), (10, 1, 0), (9, 2, 0), (10, 2, 0), (9, 3, 0), (10, 3, 0), (9, 4, 0), (10, 4, 0), (9, 5, 0), (10, 5, 0), (9, 6, 0), (10, 6, 0), (9, 7, 0), (10, 7, 0), (9, 8, 0), (10, 8, 0), (9, 9, 0), (10, 9, 0), (9, 10, 0), (10, 10, 0), (9, 11, 0), (10, 11, 0), (9, 12, 0), (10, 12, 0), (9, 13, 0), (10, 13, 0), (9, 14, 0), (10, 14, 0), (9, 15, 0), (10, 15, 0), (11, 0, 0), (12, 0, 0), (13, 0, 0), (14, 0, 0), (15, 0, 0), (16, 0, 0), (17, 0, 0), (16, 1, 0), (17, 1, 0), (16, 2, 0), (17, 2, 0), (16, 3, 0), (17, 3, 0), (16, 4, 0), (17, 4, 0), (16, 5, 0), (17, 5, 0), (16, 6, 0), (17, 6, 0), (16, 7, 0), (17, 7, 0), (16, 8, 0), (17, 8, 0), (18, 0, 0), (19, 0, 0), (19, 1, 0), (19, 2, 0), (19, 3, 0), (19, 4, 0), (20, 0, 0), (30, 0, 0), (31, 0, 0), (32, 0, 0), (33, 0, 0), (35, 0, 0), (36, 0, 0), (37, 0, 0), (38, 0, 0), (39, 0, 0), (40, 0, 0), (48, 0, 0), (49, 0, 0), (50, 0, 0), (53, 0, 0), (55, 0, 0), (56, 0, 0), (57, 0, 0), (58, 0, 0), (59, 0, 0), (60, 0, 0), (61, 0, 0), (62, 0, 0), (63, 0, 0), (64, 0, 0), (65, 0, 0), (66, 0, 0)]
def sIdx : List Nat := [74, 80, 82, 84, 86, 88, 101, 103, 105, 107, 109]
def sTxt : List String := ["hours", "fee", "fine", "tnw", "sa", "fo", "|", "&", "<=>", "+-", "*/"]
def sByt : List (List Int32) := [[104, 111, 117, 114, 115], [102, 101, 101], [102, 105, 110, 101], [116, 110, 119], [115, 97], [102, 111], [124], [38], [60, 61, 62], [43, 45], [42, 47]]
def sLen (i : Nat) : Nat := (sByt.getD i []).length
def topI (st : List AV) (K : Int32 → List AV → Prop) : Prop := match st with
  | .inl x :: r => K x r
  | _ => False
def topII (st : List AV) (K : Int32 → Int32 → List AV → Prop) : Prop := match st with
  | .inl y :: .inl x :: r => K x y r
  | _ => False
def topR (st : List AV) (K : Nat → Nat → Nat → List AV → Prop) : Prop := match st with
  | .inr (k, i, j) :: r => K k i j r
  | _ => False
def topIR (st : List AV) (K : Int32 → Nat → Nat → Nat → List AV → Prop) : Prop := match st with
  | .inl x :: .inr (k, i, j) :: r => K x k i j r
  | _ => False
def topIIR (st : List AV) (K : Int32 → Int32 → Nat → Nat → Nat → List AV → Prop) : Prop := match st with
  | .inl z :: .inl x :: .inr (k, i, j) :: r => K z x k i j r
  | _ => False
def topV (st : List AV) (K : AV → List AV → Prop) : Prop := match st with
  | v :: r => K v r
  | _ => False
def topVV (st : List AV) (K : AV → AV → List AV → Prop) : Prop := match st with
  | v :: u :: r => K v u r
  | _ => False
def topVR (st : List AV) (K : AV → Nat → Nat → Nat → List AV → Prop) : Prop := match st with
  | v :: .inr (k, i, j) :: r => K v k i j r
  | _ => False
def topCp (st : List AV) (K : Int32 → Int32 → Id3 → Int32 → Id3 → List AV → Prop) : Prop := match st with
  | .inl n :: .inl dp :: .inr c1 :: .inl sp :: .inr c0 :: r => K n dp c1 sp c0 r
  | _ => False
def locI (lv : LV) (a : Nat) (K : Int32 → Prop) : Prop := match lv.getD a none with
  | some (.inl x) => K x
  | _ => False
def locR (lv : LV) (a : Nat) (K : Id3 → Prop) : Prop := match lv.getD a none with
  | some (.inr c) => K c
  | _ => False
def cmpP (c : Jvm.ClassFile.Cond) (x y : Int32) (t f : Prop) : Prop := match c with
  | .eq => (x = y → t) ∧ (¬ x = y → f)
  | .ne => (¬ x = y → t) ∧ (x = y → f)
  | .lt => (x < y → t) ∧ (¬ x < y → f)
  | .ge => (y ≤ x → t) ∧ (¬ y ≤ x → f)
  | .gt => (y < x → t) ∧ (¬ y < x → f)
  | .le => (x ≤ y → t) ∧ (¬ x ≤ y → f)
def swP (tb : List (Int32 × Nat)) (x : Int32) (d : Nat) (K : Nat → Prop) : Prop := match tb with
  | [] => K d
  | (v, t) :: r => (x = v → K t) ∧ (¬ x = v → swP r x d K)
def getP (M : Mem) (k i j a b : Nat) (K : AV → Prop) : Prop :=
  match a with
  | 100 => (match b with
    | 0 => k = 80 ∧ K (.inr (81, i, 0))
    | _ => k = 80 ∧ K (.inl 0))
  | 4 => (match b with
    | 6 => kcls k = 4 ∧ (M k i j 6).toNatClampNeg < 16 ∧ K (gfv M k i j 6)
    | b => kcls k = 4 ∧ K (gfv M k i j b))
  | a => kcls k = a ∧ K (gfv M k i j b)
def putP (M : Mem) (v : AV) (k i j a b : Nat) (K : Mem → Prop) : Prop :=
  match fty a b, v with
  | 0, .inl z => kcls k = a ∧ K (mu M k i j b z)
  | 1, .inl z => kcls k = a ∧ (z = 0 ∨ z = 1) ∧ K (mu M k i j b z)
  | 3, .inr c => kcls k = a ∧ c.1 = 9 ∧ c.2.2 = 0 ∧ K (mu M k i j b (nI c.2.1))
  | _, _ => False
def retP (ret : Option FieldType) (v : Int32) (K : Prop) : Prop := match ret with
  | some .int => K
  | some ty => narrow ty (.int v) = .int v ∧ K
  | none => False
def retI (st : List AV) (K : Int32 → Prop) : Prop := match st with
  | [.inl v] => K v
  | _ => False
def retA (st : List AV) (K : Nat → Nat → Nat → Prop) : Prop := match st with
  | [.inr (k, i, j)] => K k i j
  | _ => False
def retV (st : List AV) (K : Prop) : Prop := match st with
  | [] => K
  | _ => False
def callP (Γ : GA) (mid n : Nat) (st : List AV) (M : Mem) (K : List AV → Mem → Prop) : Prop :=
  if n ≤ st.length ∧ st.length ≤ 8 then Γ mid ((st.take n).reverse) M (fun r M' => K (r.toList ++ st.drop n) M') else False
def copyP (st : List AV) (M : Mem) (K : List AV → Mem → Prop) : Prop :=
  topCp st fun n dp c1 sp c0 r => (aty c0.1 = 0 ∧ aty c1.1 = 0) ∧ (¬ sp < 0 ∧ ¬ dp < 0 ∧ ¬ n < 0 ∧ sp.toNatClampNeg + n.toNatClampNeg ≤ alen c0.1 ∧ dp.toNatClampNeg + n.toNatClampNeg ≤ alen c1.1) ∧ r.length ≤ 8 ∧
    K r (mr M c1.1 c1.2.1 c1.2.2 (va_cpy (M c0.1 c0.2.1 c0.2.2) (M c1.1 c1.2.1 c1.2.2) sp.toNatClampNeg dp.toNatClampNeg n.toNatClampNeg))
def ialdP (M : Mem) (x : Int32) (k i j : Nat) (K : Int32 → Prop) : Prop :=
  match k with
  | 90 => vp_in x (M 91 0 0 0).toNatClampNeg ∧ K (M 90 0 0 x.toNatClampNeg)
  | k => aty k = 0 ∧ vp_in x (alen k) ∧ K (M k i j x.toNatClampNeg)
def baldP (M : Mem) (x : Int32) (k i j : Nat) (K : Int32 → Prop) : Prop :=
  match k with
  | 81 => vp_in x (sLen i) ∧ K ((sByt.getD i []).getD x.toNatClampNeg 0)
  | k => aty k = 1 ∧ vp_in x (alen k) ∧ K (M k i j x.toNatClampNeg)
def alenP (M : Mem) (k i : Nat) (K : Int32 → Prop) : Prop :=
  match k with
  | 81 => K (nI (sLen i))
  | 90 => K (M 91 0 0 0)
  | k => aty k = 0 ∧ K (nI (alen k))
def statP (Γ : GA) (mid n : Nat) (st : List AV) (M : Mem) (K : List AV → Mem → Prop) : Prop := match n with
  | 105 => copyP st M K
  | n => callP Γ mid n st M K
def step (Γ : GA) (ret : Option FieldType) (e : Ent) (pc : Nat) (lv : LV) (st : List AV) (M : Mem) (S : CF) (Q : PQ) : Prop :=
  match e.1.1 with
  | .iconst _ => S (pc + 1) lv (.inl e.2.2.2.1 :: st) M
  | .bipush _ => S (pc + 2) lv (.inl e.2.2.2.1 :: st) M
  | .sipush _ => S (pc + 3) lv (.inl e.2.2.2.1 :: st) M
  | .ldc _ => (match e.2.1 with
    | 0 => S (pc + 2) lv (.inl e.2.2.2.1 :: st) M
    | _ => S (pc + 2) lv (.inr (80, e.2.2.1, 0) :: st) M)
  | .ldc_w _ => S (pc + 3) lv (.inl e.2.2.2.1 :: st) M
  | .iload_n _ => locI lv e.2.1 fun x => S (pc + 1) lv (.inl x :: st) M
  | .iload _ => locI lv e.2.1 fun x => S (pc + 2) lv (.inl x :: st) M
  | .aload_n _ => locR lv e.2.1 fun c => S (pc + 1) lv (.inr c :: st) M
  | .aload _ => locR lv e.2.1 fun c => S (pc + 2) lv (.inr c :: st) M
  | .istore_n _ => topI st fun x r => S (pc + 1) (lv.set e.2.1 (some (.inl x))) r M
  | .istore _ => topI st fun x r => S (pc + 2) (lv.set e.2.1 (some (.inl x))) r M
  | .astore_n _ => topR st fun k i j r => S (pc + 1) (lv.set e.2.1 (some (.inr (k, i, j)))) r M
  | .astore _ => topR st fun k i j r => S (pc + 2) (lv.set e.2.1 (some (.inr (k, i, j)))) r M
  | .iinc _ _ => locI lv e.2.1 fun x => S (pc + 3) (lv.set e.2.1 (some (.inl (x + e.2.2.2.1)))) st M
  | .iadd => topII st fun x y r => S (pc + 1) lv (.inl (x + y) :: r) M
  | .isub => topII st fun x y r => S (pc + 1) lv (.inl (x - y) :: r) M
  | .imul => topII st fun x y r => S (pc + 1) lv (.inl (x * y) :: r) M
  | .idiv => topII st fun x y r => ¬ y = 0 ∧ S (pc + 1) lv (.inl (x / y) :: r) M
  | .irem => topII st fun x y r => ¬ y = 0 ∧ S (pc + 1) lv (.inl (irem x y) :: r) M
  | .ineg => topI st fun x r => S (pc + 1) lv (.inl (-x) :: r) M
  | .iand => topII st fun x y r => S (pc + 1) lv (.inl (x &&& y) :: r) M
  | .ior => topII st fun x y r => S (pc + 1) lv (.inl (x ||| y) :: r) M
  | .ishl => topII st fun x y r => S (pc + 1) lv (.inl (x <<< (y &&& 31)) :: r) M
  | .ishr => topII st fun x y r => S (pc + 1) lv (.inl (x >>> (y &&& 31)) :: r) M
  | .iushr => topII st fun x y r => S (pc + 1) lv (.inl (x.toUInt32 >>> (y.toUInt32 &&& Int32.toUInt32 31)).toInt32 :: r) M
  | .i2b => topI st fun x r => S (pc + 1) lv (.inl x.toInt8.toInt32 :: r) M
  | .i2s => topI st fun x r => S (pc + 1) lv (.inl x.toInt16.toInt32 :: r) M
  | .i2c => topI st fun x r => S (pc + 1) lv (.inl (x.toUInt32 % 65536).toInt32 :: r) M
  | .dup => topV st fun v r => S (pc + 1) lv (v :: v :: r) M
  | .dup2 => topVV st fun v u r => S (pc + 1) lv (v :: u :: v :: u :: r) M
  | .pop => topV st fun _ r => S (pc + 1) lv r M
  | .goto _ => S e.2.1 lv st M
  | .ifCond c _ => topI st fun x r => cmpP c x 0 (S e.2.1 lv r M) (S (pc + 3) lv r M)
  | .if_icmp c _ => topII st fun x y r => cmpP c x y (S e.2.1 lv r M) (S (pc + 3) lv r M)
  | .tableswitch _ _ _ _ => topI st fun x r => swP e.2.2.2.2 x e.2.1 fun t => S t lv r M
  | .lookupswitch _ _ => topI st fun x r => swP e.2.2.2.2 x e.2.1 fun t => S t lv r M
  | .getfield _ => topR st fun k i j r => getP M k i j e.2.1 e.2.2.1 fun v => S (pc + 3) lv (v :: r) M
  | .getstatic _ => (match e.2.1 with
    | 0 => S (pc + 3) lv (.inl 1 :: st) M
    | _ => S (pc + 3) lv (.inr (82, 0, 0) :: st) M)
  | .putfield _ => topVR st fun v k i j r => putP M v k i j e.2.1 e.2.2.1 fun M' => S (pc + 3) lv r M'
  | .iaload => topIR st fun x k i j r => ialdP M x k i j fun v => S (pc + 1) lv (.inl v :: r) M
  | .iastore => topIIR st fun z x k i j r => aty k = 0 ∧ vp_in x (alen k) ∧ S (pc + 1) lv r (mu M k i j x.toNatClampNeg z)
  | .baload => topIR st fun x k i j r => baldP M x k i j fun v => S (pc + 1) lv (.inl v :: r) M
  | .bastore => topIIR st fun z x k i j r => aty k = 1 ∧ vp_in x (alen k) ∧ (z = 0 ∨ z = 1) ∧ S (pc + 1) lv r (mu M k i j x.toNatClampNeg z)
  | .caload => topIR st fun x k i j r => aty k = 2 ∧ vp_in x (alen k) ∧ S (pc + 1) lv (.inl (M k i j x.toNatClampNeg) :: r) M
  | .aaload => topIR st fun x k i _ r => (3 ≤ aty k ∧ aty k ≤ 7) ∧ vp_in x (alen k) ∧ S (pc + 1) lv (.inr (aref k i x.toNatClampNeg) :: r) M
  | .arraylength => topR st fun k i _ r => alenP M k i fun v => S (pc + 1) lv (.inl v :: r) M
  | .invokevirtual _ => callP Γ e.2.1 e.2.2.1 st M fun st' M' => S (pc + 3) lv st' M'
  | .invokestatic _ => statP Γ e.2.1 e.2.2.1 st M fun st' M' => S (pc + 3) lv st' M'
  | .ireturn => retI st fun v => retP ret v (Q (some (.inl v)) M)
  | .areturn => retA st fun k i j => k = 80 ∧ Q (some (.inr (k, i, j))) M
  | .return_ => retV st (ret = none ∧ Q none M)
  | _ => False
def cof (T : Tab) (pc : Nat) : Option Ent := (T.getD (pc / 16) []).getD (pc % 16) none
def stp (Γ : GA) (ret : Option FieldType) (C : Tab) (pc : Nat) (lv : LV) (st : List AV) (M : Mem) (S : CF) (Q : PQ) : Prop := match cof C pc with
  | some e => step Γ ret e pc lv st M S Q
  | none => False
def Clo (Γ : GA) (ret : Option FieldType) (C : Tab) (Q : PQ) (S : CF) : Prop := ∀ pc lv st M, stp Γ ret C pc lv st M S Q → S pc lv st M
def Tot (Γ : GA) (ret : Option FieldType) (C : Tab) (pc : Nat) (lv : LV) (st : List AV) (M : Mem) (Q : PQ) : Prop := ∀ S : CF, Clo Γ ret C Q S → S pc lv st M
def lv0 (n : Nat) (av : List AV) : LV := av.map some ++ List.replicate (n - av.length) none
def Td (P : Nat → MRec) : Nat → GA
  | 0 => fun _ _ _ _ => False
  | d + 1 => fun mid av M Q => Tot (Td P d) (P mid).2.2.2.2.2.1 (P mid).2.2.2.2.2.2 0 (lv0 (P mid).2.2.2.2.1 av) [] M Q
theorem swP_mono {tb : List (Int32 × Nat)} {x : Int32} {d : Nat} {K K' : Nat → Prop} (h : ∀ t, K t → K' t) (q : swP tb x d K) : swP tb x d K' := by
  induction tb with
  | nil => exact h _ q
  | cons a r ih => exact ⟨fun e => h _ (q.1 e), fun e => ih (q.2 e)⟩
theorem step_mono {Γ Γ' : GA} {ret : Option FieldType} {e : Ent} {pc : Nat} {lv : LV} {st : List AV} {M : Mem} {S S' : CF} {Q Q' : PQ}
    (hG : ∀ (mid : Nat) (av : List AV) (M : Mem) (Z Z' : PQ), (∀ r M, Z r M → Z' r M) → Γ mid av M Z → Γ' mid av M Z')
    (hS : ∀ pc lv st M, S pc lv st M → S' pc lv st M) (hQ : ∀ r M, Q r M → Q' r M) (h : step Γ ret e pc lv st M S Q) : step Γ' ret e pc lv st M S' Q' := by
  have hI : ∀ {st : List AV} {K K' : Int32 → List AV → Prop}, (∀ x r, K x r → K' x r) → topI st K → topI st K' := by
    intro st K K' hk q; unfold topI at *; split at q; exact hk _ _ q; exact q
  have hII : ∀ {st : List AV} {K K' : Int32 → Int32 → List AV → Prop}, (∀ x y r, K x y r → K' x y r) → topII st K → topII st K' := by
    intro st K K' hk q; unfold topII at *; split at q; exact hk _ _ _ q; exact q
  have hR : ∀ {st : List AV} {K K' : Nat → Nat → Nat → List AV → Prop}, (∀ k i j r, K k i j r → K' k i j r) → topR st K → topR st K' := by
    intro st K K' hk q; unfold topR at *; split at q; exact hk _ _ _ _ q; exact q
  have hIR : ∀ {st : List AV} {K K' : Int32 → Nat → Nat → Nat → List AV → Prop}, (∀ x k i j r, K x k i j r → K' x k i j r) → topIR st K → topIR st K' := by
    intro st K K' hk q; unfold topIR at *; split at q; exact hk _ _ _ _ _ q; exact q
  have hIIR : ∀ {st : List AV} {K K' : Int32 → Int32 → Nat → Nat → Nat → List AV → Prop}, (∀ z x k i j r, K z x k i j r → K' z x k i j r) → topIIR st K → topIIR st K' := by
    intro st K K' hk q; unfold topIIR at *; split at q; exact hk _ _ _ _ _ _ q; exact q
  have hV : ∀ {st : List AV} {K K' : AV → List AV → Prop}, (∀ x r, K x r → K' x r) → topV st K → topV st K' := by
    intro st K K' hk q; unfold topV at *; split at q; exact hk _ _ q; exact q
  have hVV : ∀ {st : List AV} {K K' : AV → AV → List AV → Prop}, (∀ x y r, K x y r → K' x y r) → topVV st K → topVV st K' := by
    intro st K K' hk q; unfold topVV at *; split at q; exact hk _ _ _ q; exact q
  have hVR : ∀ {st : List AV} {K K' : AV → Nat → Nat → Nat → List AV → Prop}, (∀ v k i j r, K v k i j r → K' v k i j r) → topVR st K → topVR st K' := by
    intro st K K' hk q; unfold topVR at *; split at q; exact hk _ _ _ _ _ q; exact q
  have hLI : ∀ {a : Nat} {K K' : Int32 → Prop}, (∀ x, K x → K' x) → locI lv a K → locI lv a K' := by
    intro a K K' hk q; unfold locI at *; split at q; exact hk _ q; exact q
  have hLR : ∀ {a : Nat} {K K' : Id3 → Prop}, (∀ x, K x → K' x) → locR lv a K → locR lv a K' := by
    intro a K K' hk q; unfold locR at *; split at q; exact hk _ q; exact q
  have hC : ∀ {c : Jvm.ClassFile.Cond} {x y : Int32} {a b a' b' : Prop}, (a → a') → (b → b') → cmpP c x y a b → cmpP c x y a' b' := by
    intro c x y a b a' b' h1 h2 q; cases c <;> exact ⟨fun z => h1 (q.1 z), fun z => h2 (q.2 z)⟩
  have hget : ∀ {k i j a b : Nat} {K K' : AV → Prop}, (∀ x, K x → K' x) → getP M k i j a b K → getP M k i j a b K' := by
    intro k i j a b K K' hk q; unfold getP at *; split at q
    · split at q
      · exact ⟨q.1, hk _ q.2⟩
      · exact ⟨q.1, hk _ q.2⟩
    · split at q
      · exact ⟨q.1, q.2.1, hk _ q.2.2⟩
      · exact ⟨q.1, hk _ q.2⟩
    · exact ⟨q.1, hk _ q.2⟩
  have hput : ∀ {v : AV} {k i j a b : Nat} {K K' : Mem → Prop}, (∀ x, K x → K' x) → putP M v k i j a b K → putP M v k i j a b K' := by
    intro v k i j a b K K' hk q; unfold putP at *; split at q
    · exact ⟨q.1, hk _ q.2⟩
    · exact ⟨q.1, q.2.1, hk _ q.2.2⟩
    · exact ⟨q.1, q.2.1, q.2.2.1, hk _ q.2.2.2⟩
    · exact q
  have hcall : ∀ {mid n : Nat} {K K' : List AV → Mem → Prop}, (∀ x M, K x M → K' x M) → callP Γ mid n st M K → callP Γ' mid n st M K' := by
    intro mid n K K' hk q; unfold callP at *; split at q
    · rename_i hc; rw [if_pos hc]; exact hG _ _ _ _ _ (fun r M' z => hk _ _ z) q
    · exact q.elim
  have hcopy : ∀ {K K' : List AV → Mem → Prop}, (∀ x M, K x M → K' x M) → copyP st M K → copyP st M K' := by
    intro K K' hk q; unfold copyP topCp at *; split at q
    · exact ⟨q.1, q.2.1, q.2.2.1, hk _ _ q.2.2.2⟩
    · exact q
  have hstat : ∀ {mid n : Nat} {K K' : List AV → Mem → Prop}, (∀ x M, K x M → K' x M) → statP Γ mid n st M K → statP Γ' mid n st M K' := by
    intro mid n K K' hk q; unfold statP at *; split at q
    · exact hcopy hk q
    · exact hcall hk q
  have hial : ∀ {x : Int32} {k i j : Nat} {K K' : Int32 → Prop}, (∀ x, K x → K' x) → ialdP M x k i j K → ialdP M x k i j K' := by
    intro x k i j K K' hk q; unfold ialdP at *; split at q
    · exact ⟨q.1, hk _ q.2⟩
    · exact ⟨q.1, q.2.1, hk _ q.2.2⟩
  have hbal : ∀ {x : Int32} {k i j : Nat} {K K' : Int32 → Prop}, (∀ x, K x → K' x) → baldP M x k i j K → baldP M x k i j K' := by
    intro x k i j K K' hk q; unfold baldP at *; split at q
    · exact ⟨q.1, hk _ q.2⟩
    · exact ⟨q.1, q.2.1, hk _ q.2.2⟩
  have hale : ∀ {k i : Nat} {K K' : Int32 → Prop}, (∀ x, K x → K' x) → alenP M k i K → alenP M k i K' := by
    intro k i K K' hk q; unfold alenP at *; split at q
    · exact hk _ q
    · exact hk _ q
    · exact ⟨q.1, hk _ q.2⟩
  have hret : ∀ {v : Int32} {K K' : Prop}, (K → K') → retP ret v K → retP ret v K' := by
    intro v K K' hk q; unfold retP at *; split at q
    · exact hk q
    · exact ⟨q.1, hk q.2⟩
    · exact q
  have hrI : ∀ {K K' : Int32 → Prop}, (∀ x, K x → K' x) → retI st K → retI st K' := by
    intro K K' hk q; unfold retI at *; split at q; exact hk _ q; exact q
  have hrA : ∀ {K K' : Nat → Nat → Nat → Prop}, (∀ x y z, K x y z → K' x y z) → retA st K → retA st K' := by
    intro K K' hk q; unfold retA at *; split at q; exact hk _ _ _ q; exact q
  have hrV : ∀ {K K' : Prop}, (K → K') → retV st K → retV st K' := by
    intro K K' hk q; unfold retV at *; split at q; exact hk q; exact q
  obtain ⟨⟨ins, n⟩, a, b, x, tb⟩ := e
  cases ins
  all_goals first
    | exact h.elim
    | exact hS _ _ _ _ h
    | exact hLI (fun _ => hS _ _ _ _) h
    | exact hLR (fun _ => hS _ _ _ _) h
    | exact hI (fun _ _ => hS _ _ _ _) h
    | exact hII (fun _ _ _ => hS _ _ _ _) h
    | exact hII (fun _ _ _ q => ⟨q.1, hS _ _ _ _ q.2⟩) h
    | exact hR (fun _ _ _ _ => hS _ _ _ _) h
    | exact hV (fun _ _ => hS _ _ _ _) h
    | exact hVV (fun _ _ _ => hS _ _ _ _) h
    | exact hI (fun _ _ q => hC (hS _ _ _ _) (hS _ _ _ _) q) h
    | exact hII (fun _ _ _ q => hC (hS _ _ _ _) (hS _ _ _ _) q) h
    | exact hI (fun _ _ q => swP_mono (fun _ => hS _ _ _ _) q) h
    | exact hR (fun _ _ _ _ q => hget (fun _ => hS _ _ _ _) q) h
    | exact hVR (fun _ _ _ _ _ q => hput (fun _ => hS _ _ _ _) q) h
    | exact hIR (fun _ _ _ _ _ q => hial (fun _ => hS _ _ _ _) q) h
    | exact hIR (fun _ _ _ _ _ q => hbal (fun _ => hS _ _ _ _) q) h
    | exact hIR (fun _ _ _ _ _ q => ⟨q.1, q.2.1, hS _ _ _ _ q.2.2⟩) h
    | exact hIIR (fun _ _ _ _ _ _ q => ⟨q.1, q.2.1, hS _ _ _ _ q.2.2⟩) h
    | exact hIIR (fun _ _ _ _ _ _ q => ⟨q.1, q.2.1, q.2.2.1, hS _ _ _ _ q.2.2.2⟩) h
    | exact hR (fun _ _ _ _ q => hale (fun _ => hS _ _ _ _) q) h
    | exact hcall (fun _ _ => hS _ _ _ _) h
    | exact hrI (fun _ q => hret (hQ _ _) q) h
    | exact hrA (fun _ _ _ q => ⟨q.1, hQ _ _ q.2⟩) h
    | exact hrV (fun q => ⟨q.1, hQ _ _ q.2⟩) h
    | (rcases a with _ | a <;> exact hS _ _ _ _ h)
    | exact hstat (fun _ _ => hS _ _ _ _) h
theorem stp_mono {Γ Γ' : GA} {ret : Option FieldType} {C : Tab} {pc : Nat} {lv : LV} {st : List AV} {M : Mem} {S S' : CF} {Q Q' : PQ}
    (hG : ∀ (mid : Nat) (av : List AV) (M : Mem) (Z Z' : PQ), (∀ r M, Z r M → Z' r M) → Γ mid av M Z → Γ' mid av M Z')
    (hS : ∀ pc lv st M, S pc lv st M → S' pc lv st M) (hQ : ∀ r M, Q r M → Q' r M) (h : stp Γ ret C pc lv st M S Q) : stp Γ' ret C pc lv st M S' Q' := by
  unfold stp at *
  split at h
  · exact step_mono hG hS hQ h
  · exact h
theorem Tot_mono {Γ Γ' : GA} {ret : Option FieldType} {C : Tab} {pc : Nat} {lv : LV} {st : List AV} {M : Mem} {Q Q' : PQ}
    (hG : ∀ (mid : Nat) (av : List AV) (M : Mem) (Z Z' : PQ), (∀ r M, Z r M → Z' r M) → Γ mid av M Z → Γ' mid av M Z')
    (hQ : ∀ r M, Q r M → Q' r M) (h : Tot Γ ret C pc lv st M Q) : Tot Γ' ret C pc lv st M Q' :=
  fun S hS => h S fun pc lv st M q => hS pc lv st M (stp_mono hG (fun _ _ _ _ z => z) hQ q)
theorem Td_mono (P : Nat → MRec) : ∀ (d d' : Nat), d ≤ d' → ∀ (mid : Nat) (av : List AV) (M : Mem) (Q Q' : PQ), (∀ r M, Q r M → Q' r M) → Td P d mid av M Q → Td P d' mid av M Q' := by
  intro d
  induction d with
  | zero => intro d' _ mid av M Q Q' _ h; exact h.elim
  | succ d ih =>
    intro d' hd mid av M Q Q' hQ h
    obtain ⟨e, rfl⟩ : ∃ e, d' = e + 1 := ⟨d' - 1, by omega⟩
    exact Tot_mono (ih e (by omega)) hQ h
end
