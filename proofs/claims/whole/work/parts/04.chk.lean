-- 04.chk: what the tables say of links, names and decode rows (lists by program gen04.py)
def ALLW : List Cond := lw_tbl.filter goodWord
theorem aw {w : Cond} (i : Nat) (h : lw_tbl[i]? = some w) (g : goodWord w = true) : w ∈ ALLW := List.mem_filter.mpr ⟨List.mem_of_getElem? h, g⟩
def TF (k : Nat) : u_T := match k with
  | 0 => TX0
  | 1 => TX1
  | 2 => TX2
  | 3 => TX3
  | 4 => TX4
  | 5 => TX5
  | 6 => TX6
  | 7 => TX7
  | 8 => TX8
  | 9 => TX9
  | 10 => TX10
  | _ => TX0
def tyF (k : Nat) : Nat → FieldType := match k with
  | 0 => tyX0
  | 1 => tyX1
  | 2 => tyX2
  | 3 => tyX3
  | 4 => tyX4
  | 5 => tyX5
  | 6 => tyX6
  | 7 => tyX7
  | 8 => tyX8
  | 9 => tyX9
  | 10 => tyX10
  | _ => tyX0
def clAll : List vw_C := [(RX0, TX0, 5), (RX1, TX1, 13), (RX2, TX2, 2), (RX3, TX3, 5), (RX4, TX4, 7), (RX5, TX5, 3), (RX6, TX6, 4), (RX7, TX7, 4), (RX8, TX8, 2), (RX9, TX9, 11), (RX10, TX10, 37)]
def mkF (q : Nat × Nat × Nat × Nat × Nat) : Cond := .fieldLink (RO q.1) q.2.1 (TF q.2.2.1 q.2.2.2.1).1 (TF q.2.2.1 q.2.2.2.1).2.1 (TF q.2.2.1 q.2.2.2.1).2.2.1
def FLDS : List (Nat × Nat × Nat × Nat × Nat) := [(0, 9, 0, 0, 175), (0, 15, 0, 1, 178), (0, 18, 0, 2, 182), (0, 21, 0, 3, 185), (1, 36, 1, 2, 235), (1, 17, 1, 1, 232), (1, 43, 1, 4, 240), (1, 24, 1, 3, 238), (1, 29, 1, 5, 242), (1, 49, 1, 6, 244), (1, 52, 1, 7, 246), (1, 55, 1, 8, 248), (1, 58, 1, 9, 250), (1, 61, 1, 10, 252), (1, 33, 1, 11, 254), (1, 64, 1, 12, 256), (1, 67, 0, 0, 176), (1, 70, 0, 1, 180), (1, 73, 0, 2, 183), (1, 76, 0, 3, 186), (1, 79, 3, 0, 208), (1, 82, 3, 1, 211), (1, 85, 3, 2, 214), (1, 88, 3, 3, 217), (1, 9, 1, 0, 231), (1, 125, 0, 4, 188), (1, 131, 3, 4, 219), (1, 163, 5, 1, 308), (1, 171, 5, 2, 311), (2, 11, 2, 0, 122), (2, 22, 7, 0, 103), (2, 26, 7, 2, 109), (2, 18, 2, 1, 124), (2, 29, 7, 1, 107), (3, 7, 3, 0, 207), (3, 13, 3, 1, 210), (3, 16, 3, 2, 213), (3, 19, 3, 3, 216), (4, 22, 4, 1, 139), (4, 9, 4, 0, 138), (4, 18, 4, 6, 146), (4, 26, 4, 3, 143), (4, 29, 4, 4, 144), (4, 47, 4, 2, 141), (4, 63, 4, 5, 145), (4, 90, 7, 0, 104), (5, 11, 5, 0, 305), (5, 19, 5, 1, 307), (5, 15, 5, 2, 310), (7, 15, 7, 0, 102), (7, 19, 7, 2, 108), (7, 22, 7, 3, 110), (7, 9, 7, 1, 106), (8, 9, 8, 0, 291), (8, 19, 1, 2, 236), (8, 25, 1, 1, 233), (8, 29, 0, 1, 179), (8, 15, 8, 1, 292), (9, 28, 9, 2, 349), (9, 81, 1, 2, 237), (9, 92, 1, 1, 234), (9, 96, 0, 0, 177), (9, 101, 0, 1, 181), (9, 104, 0, 2, 184), (9, 107, 0, 3, 187), (9, 114, 1, 10, 253), (9, 131, 1, 5, 243), (9, 137, 1, 11, 255), (9, 140, 1, 4, 241), (9, 149, 1, 3, 239), (9, 153, 3, 0, 209), (9, 158, 3, 1, 212), (9, 161, 3, 2, 215), (9, 164, 3, 3, 218), (9, 181, 1, 6, 245), (9, 192, 1, 7, 247), (9, 195, 1, 8, 249), (9, 198, 1, 9, 251), (9, 47, 9, 6, 353), (9, 32, 9, 3, 350), (9, 53, 9, 7, 354), (9, 10, 9, 0, 347), (9, 19, 9, 1, 348), (9, 250, 4, 1, 140), (9, 256, 2, 0, 123), (9, 260, 1, 12, 257), (9, 267, 4, 2, 142), (9, 270, 7, 0, 105), (9, 275, 7, 3, 111), (9, 287, 5, 0, 306), (9, 290, 5, 2, 312), (9, 295, 5, 1, 309), (9, 60, 9, 8, 355), (9, 315, 6, 0, 332), (9, 318, 6, 1, 334), (9, 325, 6, 2, 336), (9, 332, 6, 3, 337), (9, 69, 9, 10, 357), (9, 65, 9, 9, 356), (9, 38, 9, 5, 352), (9, 35, 9, 4, 351), (10, 9, 10, 0, 1020), (10, 57, 10, 26, 1046), (10, 19, 10, 4, 1024), (10, 22, 10, 5, 1025), (10, 25, 10, 6, 1026), (10, 28, 10, 7, 1027), (10, 60, 10, 27, 1047), (10, 31, 10, 8, 1028), (10, 63, 10, 28, 1048), (10, 66, 10, 29, 1049), (10, 217, 10, 10, 1030), (10, 34, 10, 9, 1029), (10, 221, 10, 11, 1031), (10, 224, 10, 12, 1032), (10, 227, 10, 15, 1035), (10, 230, 10, 13, 1033), (10, 236, 10, 14, 1034), (10, 41, 10, 18, 1038), (10, 37, 10, 17, 1037), (10, 242, 10, 16, 1036), (10, 248, 10, 23, 1043), (10, 47, 10, 22, 1042), (10, 44, 10, 19, 1039), (10, 254, 10, 20, 1040), (10, 260, 10, 21, 1041), (10, 50, 10, 24, 1044), (10, 54, 10, 25, 1045), (10, 81, 10, 34, 1054), (10, 69, 10, 30, 1050), (10, 72, 10, 31, 1051), (10, 75, 10, 32, 1052), (10, 78, 10, 33, 1053), (10, 293, 10, 36, 1056), (10, 84, 10, 35, 1055), (10, 296, 10, 3, 1023), (10, 16, 10, 2, 1022), (10, 13, 10, 1, 1021)]
theorem fld_ok : ∀ q ∈ FLDS, lw_tbl[q.2.2.2.2]? = some (mkF q) ∧ goodWord (mkF q) = true := by decide +kernel
/-- fields of the JDK's -/
def mkS (q : Nat × Nat × Nat × Nat × Nat) : Cond := match q.2.2.1, q.2.2.2.1 with
  | 100, 0 => .fieldLink (RO q.1) q.2.1 "java/lang/String" "value" "[B"
  | 100, _ => .fieldLink (RO q.1) q.2.1 "java/lang/String" "coder" "B"
  | _, 0 => .fieldLink (RO q.1) q.2.1 "java/lang/String" "COMPACT_STRINGS" "Z"
  | _, _ => .fieldLink (RO q.1) q.2.1 "jdk/internal/util/Preconditions" "SIOOBE_FORMATTER" "Ljava/util/function/BiFunction;"
def FLDJ : List (Nat × Nat × Nat × Nat × Nat) := [(12, 9, 100, 0, 1523), (12, 38, 200, 0, 758), (12, 15, 100, 1, 1524), (12, 1053, 200, 1, 774)]
theorem flj_ok : ∀ q ∈ FLDJ, lw_tbl[q.2.2.2.2]? = some (mkS q) ∧ goodWord (mkS q) = true := by decide +kernel
def mkM (q : Nat × Nat × Nat × Nat × Nat) : Cond := match q.2.2.2.1 with
  | 2 => .methodLinkNest (RO q.1) q.2.1 (PR q.2.2.1).2.2.1 "BedsArePlaces"
  | 3 => .methodLink (RO q.1) q.2.1 arraycopyName
  | 4 => .methodLink (RO q.1) q.2.1 Lib.Math.abs.name
  | 5 => .methodLink (RO q.1) q.2.1 Lib.Math.max.name
  | 6 => .methodLink (RO q.1) q.2.1 Lib.Math.min.name
  | _ => .methodLink (RO q.1) q.2.1 (PR q.2.2.1).2.2.1
def MTHS : List (Nat × Nat × Nat × Nat × Nat) := [(0, 24, 900, 4, 421), (1, 39, 0, 0, 633), (1, 46, 30, 0, 637), (1, 92, 27, 0, 478), (1, 98, 13, 0, 486), (1, 102, 28, 0, 490), (1, 109, 15, 0, 567), (1, 113, 19, 0, 645), (1, 116, 20, 0, 529), (1, 119, 22, 0, 541), (1, 122, 24, 0, 554), (1, 128, 11, 0, 533), (1, 134, 12, 0, 534), (1, 138, 21, 0, 535), (1, 141, 900, 6, 540), (1, 146, 2, 0, 539), (1, 150, 3, 0, 545), (1, 153, 23, 0, 546), (1, 157, 6, 0, 550), (1, 160, 10, 0, 558), (1, 168, 53, 0, 683), (2, 32, 29, 1, 494), (4, 32, 33, 0, 721), (4, 35, 40, 0, 741), (4, 39, 56, 0, 800), (4, 43, 45, 0, 804), (4, 50, 36, 0, 725), (4, 54, 34, 0, 729), (4, 57, 37, 0, 733), (4, 60, 35, 0, 737), (4, 66, 218, 0, 750), (4, 70, 219, 0, 760), (4, 76, 39, 0, 746), (4, 93, 41, 1, 828), (4, 97, 220, 0, 834), (4, 111, 43, 1, 909), (4, 114, 46, 0, 808), (4, 118, 44, 0, 905), (4, 121, 58, 0, 897), (4, 125, 57, 0, 812), (4, 128, 47, 0, 820), (4, 132, 38, 0, 889), (4, 136, 48, 0, 893), (4, 139, 49, 0, 901), (4, 142, 42, 0, 824), (5, 22, 51, 0, 687), (5, 27, 900, 3, 976), (7, 25, 59, 0, 816), (8, 34, 4, 0, 587), (8, 38, 60, 0, 583), (8, 42, 61, 0, 605), (8, 45, 217, 1, 619), (8, 51, 64, 0, 606), (8, 54, 900, 5, 610), (9, 73, 114, 1, 385), (9, 77, 113, 1, 388), (9, 85, 8, 0, 393), (9, 89, 111, 0, 401), (9, 110, 2, 0, 405), (9, 117, 3, 0, 409), (9, 121, 4, 0, 413), (9, 124, 5, 0, 417), (9, 127, 1, 0, 428), (9, 134, 10, 0, 449), (9, 143, 9, 0, 462), (9, 146, 112, 0, 470), (9, 167, 11, 0, 474), (9, 171, 12, 0, 482), (9, 175, 117, 1, 510), (9, 178, 14, 0, 517), (9, 184, 900, 6, 500), (9, 189, 19, 0, 525), (9, 201, 16, 0, 563), (9, 204, 17, 0, 571), (9, 207, 61, 0, 579), (9, 210, 62, 0, 592), (9, 214, 65, 0, 601), (9, 217, 63, 0, 615), (9, 220, 7, 0, 629), (9, 223, 18, 0, 641), (9, 227, 25, 0, 650), (9, 230, 217, 1, 662), (9, 235, 115, 1, 671), (9, 238, 50, 0, 674), (9, 243, 26, 0, 679), (9, 247, 28, 0, 696), (9, 253, 31, 0, 705), (9, 263, 32, 0, 717), (9, 278, 54, 0, 930), (9, 283, 51, 0, 939), (9, 296, 53, 0, 947), (9, 299, 118, 1, 948), (9, 302, 52, 0, 957), (9, 306, 900, 3, 961), (9, 312, 116, 1, 968), (9, 322, 0, 0, 971), (9, 329, 55, 0, 972), (9, 336, 119, 0, 998), (9, 339, 900, 5, 503), (10, 87, 120, 1, 1138), (10, 91, 127, 0, 1150), (10, 95, 125, 1, 1141), (10, 101, 131, 0, 1146), (10, 105, 126, 0, 1162), (10, 109, 123, 0, 1158), (10, 112, 133, 0, 1166), (10, 116, 134, 0, 1170), (10, 119, 135, 0, 1174), (10, 122, 136, 0, 1178), (10, 125, 138, 1, 1186), (10, 130, 130, 0, 1194), (10, 134, 143, 0, 1210), (10, 138, 129, 0, 1223), (10, 141, 128, 0, 1243), (10, 144, 197, 0, 1239), (10, 147, 147, 0, 1247), (10, 150, 200, 0, 1251), (10, 153, 121, 1, 1258), (10, 157, 124, 0, 1231), (10, 160, 148, 0, 1235), (10, 163, 152, 1, 1289), (10, 166, 153, 0, 1285), (10, 169, 154, 0, 1281), (10, 173, 155, 0, 1292), (10, 176, 156, 0, 1277), (10, 179, 157, 0, 1273), (10, 182, 159, 0, 1304), (10, 185, 160, 0, 1300), (10, 188, 161, 0, 1308), (10, 191, 164, 0, 1320), (10, 194, 163, 0, 1316), (10, 198, 168, 0, 1337), (10, 201, 170, 0, 1345), (10, 204, 171, 0, 1349), (10, 207, 173, 0, 1357), (10, 210, 176, 0, 1369), (10, 213, 201, 1, 1381), (10, 233, 184, 0, 1409), (10, 239, 185, 0, 1413), (10, 245, 186, 0, 1405), (10, 251, 189, 1, 1437), (10, 257, 188, 0, 1429), (10, 263, 190, 0, 1433), (10, 266, 192, 0, 1425), (10, 270, 194, 0, 1440), (10, 273, 191, 0, 1444), (10, 276, 187, 0, 1417), (10, 279, 193, 0, 1421), (10, 282, 199, 1, 1255), (10, 289, 202, 1, 1484), (10, 300, 122, 1, 1508), (12, 335, 222, 0, 754), (12, 492, 223, 0, 764), (12, 495, 225, 1, 768), (12, 633, 221, 0, 838), (12, 505, 218, 0, 842), (12, 637, 227, 1, 843), (12, 1059, 229, 1, 776), (13, 9, 224, 1, 771), (13, 88, 226, 1, 846), (13, 92, 900, 5, 849), (13, 38, 900, 6, 850), (13, 95, 228, 1, 851), (11, 13, 66, 0, 381), (11, 17, 132, 0, 1134), (11, 18, 67, 0, 397), (11, 22, 137, 0, 1154), (11, 23, 68, 0, 424), (11, 26, 139, 0, 1182), (11, 27, 69, 0, 433), (11, 30, 140, 0, 1190), (11, 31, 70, 0, 437), (11, 35, 141, 0, 1198), (11, 36, 71, 0, 441), (11, 40, 142, 0, 1202), (11, 41, 72, 0, 445), (11, 44, 144, 0, 1206), (11, 45, 73, 0, 454), (11, 48, 145, 0, 1215), (11, 49, 74, 0, 458), (11, 52, 146, 0, 1219), (11, 53, 75, 0, 466), (11, 56, 149, 0, 1227), (11, 57, 76, 0, 506), (11, 60, 150, 0, 1261), (11, 61, 77, 0, 513), (11, 64, 151, 0, 1265), (11, 65, 78, 0, 521), (11, 68, 158, 0, 1269), (11, 69, 79, 0, 559), (11, 72, 162, 0, 1296), (11, 73, 80, 0, 575), (11, 76, 165, 0, 1312), (11, 77, 81, 0, 588), (11, 80, 166, 0, 1324), (11, 81, 82, 0, 597), (11, 85, 167, 0, 1329), (11, 86, 83, 0, 611), (11, 89, 169, 0, 1333), (11, 90, 84, 0, 625), (11, 93, 172, 0, 1341), (11, 94, 85, 0, 646), (11, 97, 174, 0, 1353), (11, 98, 86, 0, 654), (11, 101, 175, 0, 1361), (11, 102, 87, 0, 658), (11, 105, 177, 0, 1365), (11, 106, 88, 0, 663), (11, 109, 178, 0, 1373), (11, 110, 89, 0, 667), (11, 113, 179, 0, 1377), (11, 114, 90, 0, 692), (11, 117, 180, 0, 1385), (11, 118, 91, 0, 697), (11, 121, 181, 0, 1389), (11, 122, 92, 0, 701), (11, 125, 182, 0, 1393), (11, 126, 93, 0, 709), (11, 129, 183, 0, 1397), (11, 130, 94, 0, 713), (11, 133, 195, 0, 1401), (11, 134, 95, 0, 918), (11, 137, 196, 0, 1448), (11, 138, 96, 0, 922), (11, 141, 198, 0, 1452), (11, 142, 97, 0, 926), (11, 145, 203, 0, 1456), (11, 146, 98, 0, 935), (11, 149, 204, 0, 1461), (11, 150, 99, 0, 943), (11, 153, 205, 0, 1468), (11, 154, 100, 0, 949), (11, 157, 206, 0, 1472), (11, 158, 101, 0, 953), (11, 162, 207, 0, 1476), (11, 163, 102, 0, 964), (11, 166, 208, 0, 1480), (11, 167, 103, 0, 977), (11, 170, 209, 0, 1487), (11, 171, 104, 0, 981), (11, 174, 210, 0, 1491), (11, 175, 105, 0, 985), (11, 178, 211, 0, 1495), (11, 179, 106, 0, 990), (11, 182, 212, 0, 1500), (11, 183, 107, 0, 994), (11, 186, 213, 0, 1504), (11, 187, 108, 0, 1002), (11, 190, 214, 0, 1511), (11, 191, 109, 0, 1006), (11, 194, 215, 0, 1515), (11, 195, 110, 0, 1010), (11, 198, 216, 0, 1519)]
def NSTS : List (Nat × Nat × Nat × Nat × Nat) := [(1, 106, 118, 2, 497)]
theorem nst_ok : ∀ q ∈ NSTS, lw_tbl[q.2.2.2.2]? = some (mkM q) := by decide +kernel
theorem mth_ok : ∀ q ∈ MTHS, lw_tbl[q.2.2.2.2]? = some (mkM q) ∧ goodWord (mkM q) = true := by decide +kernel
def CSTS : List (Nat × Nat × Int32 × Nat) := [(1, 91, 1103515245, 453), (5, 26, (-1000000005), 691), (9, 80, (-1000000001), 391), (9, 84, (-1000000003), 392), (9, 130, (-1000000012), 432), (9, 213, (-1000000005), 596), (9, 242, (-1000000011), 678), (9, 282, (-1000000014), 934), (9, 286, (-1000000013), 940), (9, 293, (-99999), 941), (9, 294, 99999, 942), (9, 335, (-1000000002), 989), (10, 99, (-1000000001), 1144), (10, 100, (-1000000003), 1145), (10, 129, (-1000000012), 1189), (10, 133, 1103515245, 1214), (10, 197, (-1000000005), 1328), (10, 216, (-1000000011), 1384), (10, 285, (-1000000014), 1460), (10, 286, (-1000000013), 1465), (10, 287, (-99999), 1466), (10, 288, 99999, 1467), (10, 292, (-1000000002), 1499), (15, 265, 1431655765, 622), (15, 266, 858993459, 623), (15, 267, 252645135, 624)]
theorem cst_ok : ∀ q ∈ CSTS, lw_tbl[q.2.2.2]? = some (Cond.constant (RO q.1) q.2.1 q.2.2.1) ∧ goodWord (Cond.constant (RO q.1) q.2.1 q.2.2.1) = true := by decide +kernel
def MP : List (Nat × Nat × Nat × Nat × Nat) := [(636, 67, 634, 635, 1), (431, 67, 429, 430, 1), (408, 67, 406, 407, 0), (412, 67, 410, 411, 2), (416, 67, 414, 415, 0), (420, 67, 418, 419, 0), (553, 67, 551, 552, 0), (632, 66, 630, 631, 1), (396, 66, 394, 395, 4), (465, 66, 463, 464, 2), (452, 66, 450, 451, 0), (477, 66, 475, 476, 1), (485, 66, 483, 484, 2), (489, 66, 487, 488, 1), (520, 66, 518, 519, 1), (570, 66, 568, 569, 1), (566, 66, 564, 565, 0), (574, 66, 572, 573, 0), (644, 66, 642, 643, 1), (528, 66, 526, 527, 0), (532, 66, 530, 531, 0), (538, 66, 536, 537, 1), (544, 66, 542, 543, 0), (549, 66, 547, 548, 3), (557, 66, 555, 556, 0), (653, 66, 651, 652, 2), (682, 66, 680, 681, 2), (481, 63, 479, 480, 2), (493, 63, 491, 492, 4), (496, 63, 495, 0, 3), (640, 68, 638, 639, 1), (708, 65, 706, 707, 1), (720, 65, 718, 719, 1), (724, 65, 723, 2, 0), (732, 65, 731, 4, 0), (740, 65, 739, 6, 0), (728, 65, 727, 3, 1), (736, 65, 735, 5, 1), (892, 65, 891, 14, 1), (749, 65, 748, 8, 1), (744, 65, 743, 7, 0), (830, 65, 829, 0, 1), (827, 65, 826, 13, 0), (911, 65, 910, 0, 1), (908, 65, 907, 17, 1), (807, 65, 806, 9, 3), (811, 65, 810, 10, 2), (823, 65, 822, 12, 0), (896, 65, 895, 15, 2), (904, 65, 903, 16, 2), (677, 70, 675, 676, 0), (690, 70, 688, 689, 1), (960, 70, 958, 959, 2), (686, 70, 684, 685, 1), (933, 70, 931, 932, 2), (975, 70, 973, 974, 1), (803, 64, 801, 802, 1), (815, 64, 813, 814, 1), (900, 64, 898, 899, 1), (819, 64, 818, 11, 1), (586, 69, 584, 585, 2), (582, 69, 580, 581, 2), (595, 69, 593, 594, 2), (618, 69, 616, 617, 1), (609, 69, 607, 608, 1), (604, 69, 602, 603, 0), (384, 62, 382, 383, 4), (400, 62, 398, 399, 2), (427, 62, 425, 426, 2), (436, 62, 434, 435, 2), (440, 62, 438, 439, 3), (444, 62, 442, 443, 1), (448, 62, 446, 447, 1), (457, 62, 455, 456, 1), (461, 62, 459, 460, 2), (469, 62, 467, 468, 2), (509, 62, 507, 508, 3), (516, 62, 514, 515, 1), (524, 62, 522, 523, 1), (562, 62, 560, 561, 1), (578, 62, 576, 577, 1), (591, 62, 589, 590, 2), (600, 62, 598, 599, 0), (614, 62, 612, 613, 1), (628, 62, 626, 627, 2), (649, 62, 647, 648, 1), (657, 62, 655, 656, 2), (661, 62, 659, 660, 3), (666, 62, 664, 665, 3), (670, 62, 668, 669, 2), (695, 62, 693, 694, 0), (700, 62, 698, 699, 1), (704, 62, 702, 703, 3), (712, 62, 710, 711, 1), (716, 62, 714, 715, 0), (921, 62, 919, 920, 2), (925, 62, 923, 924, 1), (929, 62, 927, 928, 3), (938, 62, 936, 937, 3), (946, 62, 944, 945, 1), (952, 62, 950, 951, 1), (956, 62, 954, 955, 5), (967, 62, 965, 966, 3), (980, 62, 978, 979, 2), (984, 62, 982, 983, 2), (988, 62, 986, 987, 2), (993, 62, 991, 992, 1), (997, 62, 995, 996, 1), (1005, 62, 1003, 1004, 0), (1009, 62, 1007, 1008, 0), (1013, 62, 1011, 1012, 1), (404, 62, 403, 0, 1), (473, 62, 472, 1, 1), (390, 62, 389, 0, 1), (387, 62, 386, 0, 1), (673, 62, 672, 0, 1), (970, 62, 969, 0, 1), (512, 62, 511, 0, 1), (499, 62, 498, 0, 2), (1001, 62, 1000, 18, 2), (1140, 72, 1139, 0, 3), (1260, 72, 1259, 0, 3), (1510, 72, 1509, 0, 2), (1161, 72, 1160, 21, 1), (1234, 72, 1233, 30, 1), (1143, 72, 1142, 0, 1), (1165, 72, 1164, 22, 2), (1153, 72, 1152, 20, 3), (1246, 72, 1245, 33, 2), (1226, 72, 1225, 29, 3), (1197, 72, 1196, 27, 2), (1149, 72, 1148, 19, 4), (1137, 72, 1135, 1136, 4), (1169, 72, 1168, 23, 1), (1173, 72, 1172, 24, 2), (1177, 72, 1176, 25, 1), (1181, 72, 1180, 26, 1), (1157, 72, 1155, 1156, 2), (1188, 72, 1187, 0, 2), (1185, 72, 1183, 1184, 2), (1193, 72, 1191, 1192, 2), (1201, 72, 1199, 1200, 3), (1205, 72, 1203, 1204, 1), (1213, 72, 1212, 28, 0), (1209, 72, 1207, 1208, 1), (1218, 72, 1216, 1217, 1), (1222, 72, 1220, 1221, 2), (1250, 72, 1249, 34, 1), (1238, 72, 1237, 31, 1), (1230, 72, 1228, 1229, 2), (1264, 72, 1262, 1263, 3), (1268, 72, 1266, 1267, 1), (1291, 72, 1290, 0, 1), (1288, 72, 1287, 39, 1), (1284, 72, 1283, 38, 1), (1295, 72, 1294, 40, 1), (1280, 72, 1279, 37, 0), (1276, 72, 1275, 36, 1), (1272, 72, 1270, 1271, 1), (1307, 72, 1306, 42, 1), (1303, 72, 1302, 41, 0), (1311, 72, 1310, 43, 0), (1299, 72, 1297, 1298, 1), (1319, 72, 1318, 44, 1), (1323, 72, 1322, 45, 1), (1315, 72, 1313, 1314, 1), (1327, 72, 1325, 1326, 2), (1332, 72, 1330, 1331, 0), (1340, 72, 1339, 46, 1), (1336, 72, 1334, 1335, 1), (1348, 72, 1347, 47, 0), (1352, 72, 1351, 48, 0), (1344, 72, 1342, 1343, 2), (1360, 72, 1359, 49, 2), (1356, 72, 1354, 1355, 1), (1364, 72, 1362, 1363, 2), (1372, 72, 1371, 50, 4), (1368, 72, 1366, 1367, 3), (1376, 72, 1374, 1375, 3), (1380, 72, 1378, 1379, 2), (1388, 72, 1386, 1387, 0), (1392, 72, 1390, 1391, 1), (1396, 72, 1394, 1395, 3), (1400, 72, 1398, 1399, 1), (1412, 72, 1411, 52, 1), (1416, 72, 1415, 53, 1), (1408, 72, 1407, 51, 0), (1420, 72, 1419, 54, 0), (1432, 72, 1431, 57, 1), (1439, 72, 1438, 0, 1), (1436, 72, 1435, 58, 1), (1447, 72, 1446, 60, 0), (1428, 72, 1427, 56, 0), (1424, 72, 1423, 55, 0), (1443, 72, 1442, 59, 0), (1404, 72, 1402, 1403, 0), (1451, 72, 1449, 1450, 2), (1242, 72, 1241, 32, 1), (1455, 72, 1453, 1454, 1), (1257, 72, 1256, 0, 3), (1254, 72, 1253, 35, 1), (1383, 72, 1382, 0, 1), (1486, 72, 1485, 0, 1), (1459, 72, 1457, 1458, 3), (1464, 72, 1462, 1463, 3), (1471, 72, 1469, 1470, 1), (1475, 72, 1473, 1474, 1), (1479, 72, 1477, 1478, 5), (1483, 72, 1481, 1482, 3), (1490, 72, 1488, 1489, 2), (1494, 72, 1492, 1493, 2), (1498, 72, 1496, 1497, 2), (1503, 72, 1501, 1502, 1), (1507, 72, 1505, 1506, 1), (1514, 72, 1512, 1513, 0), (1518, 72, 1516, 1517, 0), (1522, 72, 1520, 1521, 1), (621, 74, 620, 0, 1), (753, 75, 751, 752, 0), (763, 75, 761, 762, 1), (837, 75, 835, 836, 1), (841, 75, 839, 840, 2), (757, 75, 755, 756, 0), (767, 75, 765, 766, 0), (773, 75, 772, 0, 2), (770, 76, 769, 0, 2), (848, 76, 847, 0, 1), (845, 76, 844, 0, 4), (853, 76, 852, 0, 4), (778, 77, 777, 0, 3)]
def npM (m : Nat) : Nat := (MP.getD m (0, 0, 0, 0, 0)).2.2.2.2
def cwM (m : Nat) : Cond := .code (PR m).2.2.1 (PR m).2.2.2.1 (PR m).2.2.2.2.1 (PR m).2.2.2.2.2.1
def kwM (m : Nat) : Cond := match (PR m).2.1 with
  | 0 => .instanceMethod (PR m).2.2.1
  | _ => .static (PR m).2.2.1
def swM (m : Nat) : Cond := match (PR m).2.1 with
  | 0 => .selects (RO (PR m).1) (PR m).2.2.1 (PR m).2.2.1
  | _ => .initialized (RO (PR m).1)
def MW (m : Nat) : Bool := match MP.getD m (0, 0, 0, 0, 0) with
  | (_, b, c, d, n) => decide (lw_tbl[b]? = some (.initialized (RO (PR m).1))) && goodWord (.initialized (RO (PR m).1)) && decide (lw_tbl[c]? = some (kwM m)) && goodWord (kwM m) &&
    (match (PR m).2.1 with | 0 => decide (lw_tbl[d]? = some (swM m)) && goodWord (swM m) | 1 => true | _ => false) &&
    decide ((PR m).2.2.1.cls = RO (PR m).1) && plainName (PR m).2.2.1.cls && decide ((PR m).2.2.1.cls ≠ "java/lang/invoke/MethodHandle") && decide ((PR m).2.2.1.cls ≠ "java/lang/invoke/VarHandle") && decide ((parseMethodDescriptor (PR m).2.2.1.desc).map (fun d => d.parameters.length) = some n) && decide ((PR m).2.2.2.2.2.1.isSome = true ∨ (PR m).2.2.2.2.2.1 = none)
theorem in_1 {w : Cond} (h : w ∈ tables_1_1) : w ∈ lw_tbl := List.mem_append_right _ (List.mem_append_left _ h)
theorem in_2 {w : Cond} (h : w ∈ tables_1_2) : w ∈ lw_tbl := List.mem_append_right _ (List.mem_append_right _ (List.mem_append_left _ h))
theorem in_3 {w : Cond} (h : w ∈ tables_1_3) : w ∈ lw_tbl := List.mem_append_right _ (List.mem_append_right _ (List.mem_append_right _ (List.mem_append_left _ h)))
theorem in_4 {w : Cond} (h : w ∈ tables_1_4) : w ∈ lw_tbl := List.mem_append_right _ (List.mem_append_right _ (List.mem_append_right _ (List.mem_append_right _ (List.mem_append_left _ h))))
theorem in_5 {w : Cond} (h : w ∈ tables_1_5) : w ∈ lw_tbl := List.mem_append_right _ (List.mem_append_right _ (List.mem_append_right _ (List.mem_append_right _ (List.mem_append_right _ (List.mem_append_left _ h)))))
theorem in_6 {w : Cond} (h : w ∈ tables_1_6) : w ∈ lw_tbl := List.mem_append_right _ (List.mem_append_right _ (List.mem_append_right _ (List.mem_append_right _ (List.mem_append_right _ (List.mem_append_right _ (List.mem_append_left _ h))))))
theorem in_7 {w : Cond} (h : w ∈ tables_1_7) : w ∈ lw_tbl := List.mem_append_right _ (List.mem_append_right _ (List.mem_append_right _ (List.mem_append_right _ (List.mem_append_right _ (List.mem_append_right _ (List.mem_append_right _ (h)))))))
set_option maxRecDepth 100000 in
theorem math_ini : Cond.initialized "java/lang/Math" ∈ ALLW := List.mem_filter.mpr ⟨in_1 (List.mem_of_getElem? (i := 12) rfl), rfl⟩
set_option maxRecDepth 100000 in
theorem math_sabs : Cond.static Lib.Math.abs.name ∈ ALLW := List.mem_filter.mpr ⟨in_2 (List.mem_of_getElem? (i := 121) rfl), rfl⟩
set_option maxRecDepth 100000 in
theorem math_cabs : Cond.code Lib.Math.abs.name Lib.Math.abs.code 1 (some .int) ∈ ALLW := List.mem_filter.mpr ⟨in_2 (List.mem_of_getElem? (i := 122) rfl), rfl⟩
set_option maxRecDepth 100000 in
theorem math_smax : Cond.static Lib.Math.max.name ∈ ALLW := List.mem_filter.mpr ⟨in_2 (List.mem_of_getElem? (i := 203) rfl), rfl⟩
set_option maxRecDepth 100000 in
theorem math_cmax : Cond.code Lib.Math.max.name Lib.Math.max.code 2 (some .int) ∈ ALLW := List.mem_filter.mpr ⟨in_2 (List.mem_of_getElem? (i := 204) rfl), rfl⟩
set_option maxRecDepth 100000 in
theorem math_smin : Cond.static Lib.Math.min.name ∈ ALLW := List.mem_filter.mpr ⟨in_2 (List.mem_of_getElem? (i := 200) rfl), rfl⟩
set_option maxRecDepth 100000 in
theorem math_cmin : Cond.code Lib.Math.min.name Lib.Math.min.code 2 (some .int) ∈ ALLW := List.mem_filter.mpr ⟨in_2 (List.mem_of_getElem? (i := 201) rfl), rfl⟩
set_option maxRecDepth 100000 in
theorem cw_0 : cwM 0 ∈ lw_tbl ∧ goodWord (cwM 0) = true := ⟨in_3 (List.mem_of_getElem? (i := 95) rfl), rfl⟩
set_option maxRecDepth 100000 in
theorem cw_1 : cwM 1 ∈ lw_tbl ∧ goodWord (cwM 1) = true := ⟨in_2 (List.mem_of_getElem? (i := 130) rfl), rfl⟩
set_option maxRecDepth 100000 in
theorem cw_2 : cwM 2 ∈ lw_tbl ∧ goodWord (cwM 2) = true := ⟨in_2 (List.mem_of_getElem? (i := 107) rfl), rfl⟩
set_option maxRecDepth 100000 in
theorem cw_3 : cwM 3 ∈ lw_tbl ∧ goodWord (cwM 3) = true := ⟨in_2 (List.mem_of_getElem? (i := 111) rfl), rfl⟩
set_option maxRecDepth 100000 in
theorem cw_4 : cwM 4 ∈ lw_tbl ∧ goodWord (cwM 4) = true := ⟨in_2 (List.mem_of_getElem? (i := 115) rfl), rfl⟩
set_option maxRecDepth 100000 in
theorem cw_5 : cwM 5 ∈ lw_tbl ∧ goodWord (cwM 5) = true := ⟨in_2 (List.mem_of_getElem? (i := 119) rfl), rfl⟩
set_option maxRecDepth 100000 in
theorem cw_6 : cwM 6 ∈ lw_tbl ∧ goodWord (cwM 6) = true := ⟨in_3 (List.mem_of_getElem? (i := 12) rfl), rfl⟩
set_option maxRecDepth 100000 in
theorem cw_7 : cwM 7 ∈ lw_tbl ∧ goodWord (cwM 7) = true := ⟨in_3 (List.mem_of_getElem? (i := 91) rfl), rfl⟩
set_option maxRecDepth 100000 in
theorem cw_8 : cwM 8 ∈ lw_tbl ∧ goodWord (cwM 8) = true := ⟨in_2 (List.mem_of_getElem? (i := 95) rfl), rfl⟩
set_option maxRecDepth 100000 in
theorem cw_9 : cwM 9 ∈ lw_tbl ∧ goodWord (cwM 9) = true := ⟨in_2 (List.mem_of_getElem? (i := 164) rfl), rfl⟩
set_option maxRecDepth 100000 in
theorem cw_10 : cwM 10 ∈ lw_tbl ∧ goodWord (cwM 10) = true := ⟨in_2 (List.mem_of_getElem? (i := 151) rfl), rfl⟩
set_option maxRecDepth 100000 in
theorem cw_11 : cwM 11 ∈ lw_tbl ∧ goodWord (cwM 11) = true := ⟨in_2 (List.mem_of_getElem? (i := 176) rfl), rfl⟩
set_option maxRecDepth 100000 in
theorem cw_12 : cwM 12 ∈ lw_tbl ∧ goodWord (cwM 12) = true := ⟨in_2 (List.mem_of_getElem? (i := 184) rfl), rfl⟩
set_option maxRecDepth 100000 in
theorem cw_13 : cwM 13 ∈ lw_tbl ∧ goodWord (cwM 13) = true := ⟨in_2 (List.mem_of_getElem? (i := 188) rfl), rfl⟩
set_option maxRecDepth 100000 in
theorem cw_14 : cwM 14 ∈ lw_tbl ∧ goodWord (cwM 14) = true := ⟨in_2 (List.mem_of_getElem? (i := 219) rfl), rfl⟩
set_option maxRecDepth 100000 in
theorem cw_15 : cwM 15 ∈ lw_tbl ∧ goodWord (cwM 15) = true := ⟨in_3 (List.mem_of_getElem? (i := 29) rfl), rfl⟩
set_option maxRecDepth 100000 in
theorem cw_16 : cwM 16 ∈ lw_tbl ∧ goodWord (cwM 16) = true := ⟨in_3 (List.mem_of_getElem? (i := 25) rfl), rfl⟩
set_option maxRecDepth 100000 in
theorem cw_17 : cwM 17 ∈ lw_tbl ∧ goodWord (cwM 17) = true := ⟨in_3 (List.mem_of_getElem? (i := 33) rfl), rfl⟩
set_option maxRecDepth 100000 in
theorem cw_18 : cwM 18 ∈ lw_tbl ∧ goodWord (cwM 18) = true := ⟨in_3 (List.mem_of_getElem? (i := 103) rfl), rfl⟩
set_option maxRecDepth 100000 in
theorem cw_19 : cwM 19 ∈ lw_tbl ∧ goodWord (cwM 19) = true := ⟨in_2 (List.mem_of_getElem? (i := 227) rfl), rfl⟩
set_option maxRecDepth 100000 in
theorem cw_20 : cwM 20 ∈ lw_tbl ∧ goodWord (cwM 20) = true := ⟨in_2 (List.mem_of_getElem? (i := 231) rfl), rfl⟩
set_option maxRecDepth 100000 in
theorem cw_21 : cwM 21 ∈ lw_tbl ∧ goodWord (cwM 21) = true := ⟨in_2 (List.mem_of_getElem? (i := 237) rfl), rfl⟩
set_option maxRecDepth 100000 in
theorem cw_22 : cwM 22 ∈ lw_tbl ∧ goodWord (cwM 22) = true := ⟨in_3 (List.mem_of_getElem? (i := 3) rfl), rfl⟩
set_option maxRecDepth 100000 in
theorem cw_23 : cwM 23 ∈ lw_tbl ∧ goodWord (cwM 23) = true := ⟨in_3 (List.mem_of_getElem? (i := 8) rfl), rfl⟩
set_option maxRecDepth 100000 in
theorem cw_24 : cwM 24 ∈ lw_tbl ∧ goodWord (cwM 24) = true := ⟨in_3 (List.mem_of_getElem? (i := 16) rfl), rfl⟩
set_option maxRecDepth 100000 in
theorem cw_25 : cwM 25 ∈ lw_tbl ∧ goodWord (cwM 25) = true := ⟨in_3 (List.mem_of_getElem? (i := 112) rfl), rfl⟩
set_option maxRecDepth 100000 in
theorem cw_26 : cwM 26 ∈ lw_tbl ∧ goodWord (cwM 26) = true := ⟨in_3 (List.mem_of_getElem? (i := 141) rfl), rfl⟩
set_option maxRecDepth 100000 in
theorem cw_27 : cwM 27 ∈ lw_tbl ∧ goodWord (cwM 27) = true := ⟨in_2 (List.mem_of_getElem? (i := 180) rfl), rfl⟩
set_option maxRecDepth 100000 in
theorem cw_28 : cwM 28 ∈ lw_tbl ∧ goodWord (cwM 28) = true := ⟨in_2 (List.mem_of_getElem? (i := 192) rfl), rfl⟩
set_option maxRecDepth 100000 in
theorem cw_29 : cwM 29 ∈ lw_tbl ∧ goodWord (cwM 29) = true := ⟨in_2 (List.mem_of_getElem? (i := 195) rfl), rfl⟩
set_option maxRecDepth 100000 in
theorem cw_30 : cwM 30 ∈ lw_tbl ∧ goodWord (cwM 30) = true := ⟨in_3 (List.mem_of_getElem? (i := 99) rfl), rfl⟩
set_option maxRecDepth 100000 in
theorem cw_31 : cwM 31 ∈ lw_tbl ∧ goodWord (cwM 31) = true := ⟨in_3 (List.mem_of_getElem? (i := 167) rfl), rfl⟩
set_option maxRecDepth 100000 in
theorem cw_32 : cwM 32 ∈ lw_tbl ∧ goodWord (cwM 32) = true := ⟨in_3 (List.mem_of_getElem? (i := 179) rfl), rfl⟩
set_option maxRecDepth 100000 in
theorem cw_33 : cwM 33 ∈ lw_tbl ∧ goodWord (cwM 33) = true := ⟨in_3 (List.mem_of_getElem? (i := 183) rfl), rfl⟩
set_option maxRecDepth 100000 in
theorem cw_34 : cwM 34 ∈ lw_tbl ∧ goodWord (cwM 34) = true := ⟨in_3 (List.mem_of_getElem? (i := 191) rfl), rfl⟩
set_option maxRecDepth 100000 in
theorem cw_35 : cwM 35 ∈ lw_tbl ∧ goodWord (cwM 35) = true := ⟨in_3 (List.mem_of_getElem? (i := 199) rfl), rfl⟩
set_option maxRecDepth 100000 in
theorem cw_36 : cwM 36 ∈ lw_tbl ∧ goodWord (cwM 36) = true := ⟨in_3 (List.mem_of_getElem? (i := 187) rfl), rfl⟩
set_option maxRecDepth 100000 in
theorem cw_37 : cwM 37 ∈ lw_tbl ∧ goodWord (cwM 37) = true := ⟨in_3 (List.mem_of_getElem? (i := 195) rfl), rfl⟩
set_option maxRecDepth 100000 in
theorem cw_38 : cwM 38 ∈ lw_tbl ∧ goodWord (cwM 38) = true := ⟨in_4 (List.mem_of_getElem? (i := 111) rfl), rfl⟩
set_option maxRecDepth 100000 in
theorem cw_39 : cwM 39 ∈ lw_tbl ∧ goodWord (cwM 39) = true := ⟨in_3 (List.mem_of_getElem? (i := 208) rfl), rfl⟩
set_option maxRecDepth 100000 in
theorem cw_40 : cwM 40 ∈ lw_tbl ∧ goodWord (cwM 40) = true := ⟨in_3 (List.mem_of_getElem? (i := 203) rfl), rfl⟩
set_option maxRecDepth 100000 in
theorem cw_41 : cwM 41 ∈ lw_tbl ∧ goodWord (cwM 41) = true := ⟨in_4 (List.mem_of_getElem? (i := 49) rfl), rfl⟩
set_option maxRecDepth 100000 in
theorem cw_42 : cwM 42 ∈ lw_tbl ∧ goodWord (cwM 42) = true := ⟨in_4 (List.mem_of_getElem? (i := 46) rfl), rfl⟩
set_option maxRecDepth 100000 in
theorem cw_43 : cwM 43 ∈ lw_tbl ∧ goodWord (cwM 43) = true := ⟨in_4 (List.mem_of_getElem? (i := 130) rfl), rfl⟩
set_option maxRecDepth 100000 in
theorem cw_44 : cwM 44 ∈ lw_tbl ∧ goodWord (cwM 44) = true := ⟨in_4 (List.mem_of_getElem? (i := 127) rfl), rfl⟩
set_option maxRecDepth 100000 in
theorem cw_45 : cwM 45 ∈ lw_tbl ∧ goodWord (cwM 45) = true := ⟨in_4 (List.mem_of_getElem? (i := 26) rfl), rfl⟩
set_option maxRecDepth 100000 in
theorem cw_46 : cwM 46 ∈ lw_tbl ∧ goodWord (cwM 46) = true := ⟨in_4 (List.mem_of_getElem? (i := 30) rfl), rfl⟩
set_option maxRecDepth 100000 in
theorem cw_47 : cwM 47 ∈ lw_tbl ∧ goodWord (cwM 47) = true := ⟨in_4 (List.mem_of_getElem? (i := 42) rfl), rfl⟩
set_option maxRecDepth 100000 in
theorem cw_48 : cwM 48 ∈ lw_tbl ∧ goodWord (cwM 48) = true := ⟨in_4 (List.mem_of_getElem? (i := 115) rfl), rfl⟩
set_option maxRecDepth 100000 in
theorem cw_49 : cwM 49 ∈ lw_tbl ∧ goodWord (cwM 49) = true := ⟨in_4 (List.mem_of_getElem? (i := 123) rfl), rfl⟩
set_option maxRecDepth 100000 in
theorem cw_50 : cwM 50 ∈ lw_tbl ∧ goodWord (cwM 50) = true := ⟨in_3 (List.mem_of_getElem? (i := 136) rfl), rfl⟩
set_option maxRecDepth 100000 in
theorem cw_51 : cwM 51 ∈ lw_tbl ∧ goodWord (cwM 51) = true := ⟨in_3 (List.mem_of_getElem? (i := 149) rfl), rfl⟩
set_option maxRecDepth 100000 in
theorem cw_52 : cwM 52 ∈ lw_tbl ∧ goodWord (cwM 52) = true := ⟨in_4 (List.mem_of_getElem? (i := 179) rfl), rfl⟩
set_option maxRecDepth 100000 in
theorem cw_53 : cwM 53 ∈ lw_tbl ∧ goodWord (cwM 53) = true := ⟨in_3 (List.mem_of_getElem? (i := 145) rfl), rfl⟩
set_option maxRecDepth 100000 in
theorem cw_54 : cwM 54 ∈ lw_tbl ∧ goodWord (cwM 54) = true := ⟨in_4 (List.mem_of_getElem? (i := 152) rfl), rfl⟩
set_option maxRecDepth 100000 in
theorem cw_55 : cwM 55 ∈ lw_tbl ∧ goodWord (cwM 55) = true := ⟨in_4 (List.mem_of_getElem? (i := 194) rfl), rfl⟩
set_option maxRecDepth 100000 in
theorem cw_56 : cwM 56 ∈ lw_tbl ∧ goodWord (cwM 56) = true := ⟨in_4 (List.mem_of_getElem? (i := 22) rfl), rfl⟩
set_option maxRecDepth 100000 in
theorem cw_57 : cwM 57 ∈ lw_tbl ∧ goodWord (cwM 57) = true := ⟨in_4 (List.mem_of_getElem? (i := 34) rfl), rfl⟩
set_option maxRecDepth 100000 in
theorem cw_58 : cwM 58 ∈ lw_tbl ∧ goodWord (cwM 58) = true := ⟨in_4 (List.mem_of_getElem? (i := 119) rfl), rfl⟩
set_option maxRecDepth 100000 in
theorem cw_59 : cwM 59 ∈ lw_tbl ∧ goodWord (cwM 59) = true := ⟨in_4 (List.mem_of_getElem? (i := 38) rfl), rfl⟩
set_option maxRecDepth 100000 in
theorem cw_60 : cwM 60 ∈ lw_tbl ∧ goodWord (cwM 60) = true := ⟨in_3 (List.mem_of_getElem? (i := 45) rfl), rfl⟩
set_option maxRecDepth 100000 in
theorem cw_61 : cwM 61 ∈ lw_tbl ∧ goodWord (cwM 61) = true := ⟨in_3 (List.mem_of_getElem? (i := 41) rfl), rfl⟩
set_option maxRecDepth 100000 in
theorem cw_62 : cwM 62 ∈ lw_tbl ∧ goodWord (cwM 62) = true := ⟨in_3 (List.mem_of_getElem? (i := 54) rfl), rfl⟩
set_option maxRecDepth 100000 in
theorem cw_63 : cwM 63 ∈ lw_tbl ∧ goodWord (cwM 63) = true := ⟨in_3 (List.mem_of_getElem? (i := 77) rfl), rfl⟩
set_option maxRecDepth 100000 in
theorem cw_64 : cwM 64 ∈ lw_tbl ∧ goodWord (cwM 64) = true := ⟨in_3 (List.mem_of_getElem? (i := 68) rfl), rfl⟩
set_option maxRecDepth 100000 in
theorem cw_65 : cwM 65 ∈ lw_tbl ∧ goodWord (cwM 65) = true := ⟨in_3 (List.mem_of_getElem? (i := 63) rfl), rfl⟩
set_option maxRecDepth 100000 in
theorem cw_66 : cwM 66 ∈ lw_tbl ∧ goodWord (cwM 66) = true := ⟨in_2 (List.mem_of_getElem? (i := 83) rfl), rfl⟩
set_option maxRecDepth 100000 in
theorem cw_67 : cwM 67 ∈ lw_tbl ∧ goodWord (cwM 67) = true := ⟨in_2 (List.mem_of_getElem? (i := 99) rfl), rfl⟩
set_option maxRecDepth 100000 in
theorem cw_68 : cwM 68 ∈ lw_tbl ∧ goodWord (cwM 68) = true := ⟨in_2 (List.mem_of_getElem? (i := 126) rfl), rfl⟩
set_option maxRecDepth 100000 in
theorem cw_69 : cwM 69 ∈ lw_tbl ∧ goodWord (cwM 69) = true := ⟨in_2 (List.mem_of_getElem? (i := 135) rfl), rfl⟩
set_option maxRecDepth 100000 in
theorem cw_70 : cwM 70 ∈ lw_tbl ∧ goodWord (cwM 70) = true := ⟨in_2 (List.mem_of_getElem? (i := 139) rfl), rfl⟩
set_option maxRecDepth 100000 in
theorem cw_71 : cwM 71 ∈ lw_tbl ∧ goodWord (cwM 71) = true := ⟨in_2 (List.mem_of_getElem? (i := 143) rfl), rfl⟩
set_option maxRecDepth 100000 in
theorem cw_72 : cwM 72 ∈ lw_tbl ∧ goodWord (cwM 72) = true := ⟨in_2 (List.mem_of_getElem? (i := 147) rfl), rfl⟩
set_option maxRecDepth 100000 in
theorem cw_73 : cwM 73 ∈ lw_tbl ∧ goodWord (cwM 73) = true := ⟨in_2 (List.mem_of_getElem? (i := 156) rfl), rfl⟩
set_option maxRecDepth 100000 in
theorem cw_74 : cwM 74 ∈ lw_tbl ∧ goodWord (cwM 74) = true := ⟨in_2 (List.mem_of_getElem? (i := 160) rfl), rfl⟩
set_option maxRecDepth 100000 in
theorem cw_75 : cwM 75 ∈ lw_tbl ∧ goodWord (cwM 75) = true := ⟨in_2 (List.mem_of_getElem? (i := 168) rfl), rfl⟩
set_option maxRecDepth 100000 in
theorem cw_76 : cwM 76 ∈ lw_tbl ∧ goodWord (cwM 76) = true := ⟨in_2 (List.mem_of_getElem? (i := 208) rfl), rfl⟩
set_option maxRecDepth 100000 in
theorem cw_77 : cwM 77 ∈ lw_tbl ∧ goodWord (cwM 77) = true := ⟨in_2 (List.mem_of_getElem? (i := 215) rfl), rfl⟩
set_option maxRecDepth 100000 in
theorem cw_78 : cwM 78 ∈ lw_tbl ∧ goodWord (cwM 78) = true := ⟨in_2 (List.mem_of_getElem? (i := 223) rfl), rfl⟩
set_option maxRecDepth 100000 in
theorem cw_79 : cwM 79 ∈ lw_tbl ∧ goodWord (cwM 79) = true := ⟨in_3 (List.mem_of_getElem? (i := 21) rfl), rfl⟩
set_option maxRecDepth 100000 in
theorem cw_80 : cwM 80 ∈ lw_tbl ∧ goodWord (cwM 80) = true := ⟨in_3 (List.mem_of_getElem? (i := 37) rfl), rfl⟩
set_option maxRecDepth 100000 in
theorem cw_81 : cwM 81 ∈ lw_tbl ∧ goodWord (cwM 81) = true := ⟨in_3 (List.mem_of_getElem? (i := 50) rfl), rfl⟩
set_option maxRecDepth 100000 in
theorem cw_82 : cwM 82 ∈ lw_tbl ∧ goodWord (cwM 82) = true := ⟨in_3 (List.mem_of_getElem? (i := 59) rfl), rfl⟩
set_option maxRecDepth 100000 in
theorem cw_83 : cwM 83 ∈ lw_tbl ∧ goodWord (cwM 83) = true := ⟨in_3 (List.mem_of_getElem? (i := 73) rfl), rfl⟩
set_option maxRecDepth 100000 in
theorem cw_84 : cwM 84 ∈ lw_tbl ∧ goodWord (cwM 84) = true := ⟨in_3 (List.mem_of_getElem? (i := 87) rfl), rfl⟩
set_option maxRecDepth 100000 in
theorem cw_85 : cwM 85 ∈ lw_tbl ∧ goodWord (cwM 85) = true := ⟨in_3 (List.mem_of_getElem? (i := 108) rfl), rfl⟩
set_option maxRecDepth 100000 in
theorem cw_86 : cwM 86 ∈ lw_tbl ∧ goodWord (cwM 86) = true := ⟨in_3 (List.mem_of_getElem? (i := 116) rfl), rfl⟩
set_option maxRecDepth 100000 in
theorem cw_87 : cwM 87 ∈ lw_tbl ∧ goodWord (cwM 87) = true := ⟨in_3 (List.mem_of_getElem? (i := 120) rfl), rfl⟩
set_option maxRecDepth 100000 in
theorem cw_88 : cwM 88 ∈ lw_tbl ∧ goodWord (cwM 88) = true := ⟨in_3 (List.mem_of_getElem? (i := 125) rfl), rfl⟩
set_option maxRecDepth 100000 in
theorem cw_89 : cwM 89 ∈ lw_tbl ∧ goodWord (cwM 89) = true := ⟨in_3 (List.mem_of_getElem? (i := 129) rfl), rfl⟩
set_option maxRecDepth 100000 in
theorem cw_90 : cwM 90 ∈ lw_tbl ∧ goodWord (cwM 90) = true := ⟨in_3 (List.mem_of_getElem? (i := 154) rfl), rfl⟩
set_option maxRecDepth 100000 in
theorem cw_91 : cwM 91 ∈ lw_tbl ∧ goodWord (cwM 91) = true := ⟨in_3 (List.mem_of_getElem? (i := 159) rfl), rfl⟩
set_option maxRecDepth 100000 in
theorem cw_92 : cwM 92 ∈ lw_tbl ∧ goodWord (cwM 92) = true := ⟨in_3 (List.mem_of_getElem? (i := 163) rfl), rfl⟩
set_option maxRecDepth 100000 in
theorem cw_93 : cwM 93 ∈ lw_tbl ∧ goodWord (cwM 93) = true := ⟨in_3 (List.mem_of_getElem? (i := 171) rfl), rfl⟩
set_option maxRecDepth 100000 in
theorem cw_94 : cwM 94 ∈ lw_tbl ∧ goodWord (cwM 94) = true := ⟨in_3 (List.mem_of_getElem? (i := 175) rfl), rfl⟩
set_option maxRecDepth 100000 in
theorem cw_95 : cwM 95 ∈ lw_tbl ∧ goodWord (cwM 95) = true := ⟨in_4 (List.mem_of_getElem? (i := 140) rfl), rfl⟩
set_option maxRecDepth 100000 in
theorem cw_96 : cwM 96 ∈ lw_tbl ∧ goodWord (cwM 96) = true := ⟨in_4 (List.mem_of_getElem? (i := 144) rfl), rfl⟩
set_option maxRecDepth 100000 in
theorem cw_97 : cwM 97 ∈ lw_tbl ∧ goodWord (cwM 97) = true := ⟨in_4 (List.mem_of_getElem? (i := 148) rfl), rfl⟩
set_option maxRecDepth 100000 in
theorem cw_98 : cwM 98 ∈ lw_tbl ∧ goodWord (cwM 98) = true := ⟨in_4 (List.mem_of_getElem? (i := 157) rfl), rfl⟩
set_option maxRecDepth 100000 in
theorem cw_99 : cwM 99 ∈ lw_tbl ∧ goodWord (cwM 99) = true := ⟨in_4 (List.mem_of_getElem? (i := 165) rfl), rfl⟩
set_option maxRecDepth 100000 in
theorem cw_100 : cwM 100 ∈ lw_tbl ∧ goodWord (cwM 100) = true := ⟨in_4 (List.mem_of_getElem? (i := 171) rfl), rfl⟩
set_option maxRecDepth 100000 in
theorem cw_101 : cwM 101 ∈ lw_tbl ∧ goodWord (cwM 101) = true := ⟨in_4 (List.mem_of_getElem? (i := 175) rfl), rfl⟩
set_option maxRecDepth 100000 in
theorem cw_102 : cwM 102 ∈ lw_tbl ∧ goodWord (cwM 102) = true := ⟨in_4 (List.mem_of_getElem? (i := 186) rfl), rfl⟩
set_option maxRecDepth 100000 in
theorem cw_103 : cwM 103 ∈ lw_tbl ∧ goodWord (cwM 103) = true := ⟨in_4 (List.mem_of_getElem? (i := 199) rfl), rfl⟩
set_option maxRecDepth 100000 in
theorem cw_104 : cwM 104 ∈ lw_tbl ∧ goodWord (cwM 104) = true := ⟨in_4 (List.mem_of_getElem? (i := 203) rfl), rfl⟩
set_option maxRecDepth 100000 in
theorem cw_105 : cwM 105 ∈ lw_tbl ∧ goodWord (cwM 105) = true := ⟨in_4 (List.mem_of_getElem? (i := 207) rfl), rfl⟩
set_option maxRecDepth 100000 in
theorem cw_106 : cwM 106 ∈ lw_tbl ∧ goodWord (cwM 106) = true := ⟨in_4 (List.mem_of_getElem? (i := 212) rfl), rfl⟩
set_option maxRecDepth 100000 in
theorem cw_107 : cwM 107 ∈ lw_tbl ∧ goodWord (cwM 107) = true := ⟨in_4 (List.mem_of_getElem? (i := 216) rfl), rfl⟩
set_option maxRecDepth 100000 in
theorem cw_108 : cwM 108 ∈ lw_tbl ∧ goodWord (cwM 108) = true := ⟨in_4 (List.mem_of_getElem? (i := 224) rfl), rfl⟩
set_option maxRecDepth 100000 in
theorem cw_109 : cwM 109 ∈ lw_tbl ∧ goodWord (cwM 109) = true := ⟨in_4 (List.mem_of_getElem? (i := 228) rfl), rfl⟩
set_option maxRecDepth 100000 in
theorem cw_110 : cwM 110 ∈ lw_tbl ∧ goodWord (cwM 110) = true := ⟨in_4 (List.mem_of_getElem? (i := 232) rfl), rfl⟩
set_option maxRecDepth 100000 in
theorem cw_111 : cwM 111 ∈ lw_tbl ∧ goodWord (cwM 111) = true := ⟨in_2 (List.mem_of_getElem? (i := 103) rfl), rfl⟩
set_option maxRecDepth 100000 in
theorem cw_112 : cwM 112 ∈ lw_tbl ∧ goodWord (cwM 112) = true := ⟨in_2 (List.mem_of_getElem? (i := 172) rfl), rfl⟩
set_option maxRecDepth 100000 in
theorem cw_113 : cwM 113 ∈ lw_tbl ∧ goodWord (cwM 113) = true := ⟨in_2 (List.mem_of_getElem? (i := 89) rfl), rfl⟩
set_option maxRecDepth 100000 in
theorem cw_114 : cwM 114 ∈ lw_tbl ∧ goodWord (cwM 114) = true := ⟨in_2 (List.mem_of_getElem? (i := 86) rfl), rfl⟩
set_option maxRecDepth 100000 in
theorem cw_115 : cwM 115 ∈ lw_tbl ∧ goodWord (cwM 115) = true := ⟨in_3 (List.mem_of_getElem? (i := 132) rfl), rfl⟩
set_option maxRecDepth 100000 in
theorem cw_116 : cwM 116 ∈ lw_tbl ∧ goodWord (cwM 116) = true := ⟨in_4 (List.mem_of_getElem? (i := 189) rfl), rfl⟩
set_option maxRecDepth 100000 in
theorem cw_117 : cwM 117 ∈ lw_tbl ∧ goodWord (cwM 117) = true := ⟨in_2 (List.mem_of_getElem? (i := 211) rfl), rfl⟩
set_option maxRecDepth 100000 in
theorem cw_118 : cwM 118 ∈ lw_tbl ∧ goodWord (cwM 118) = true := ⟨in_2 (List.mem_of_getElem? (i := 198) rfl), rfl⟩
set_option maxRecDepth 100000 in
theorem cw_119 : cwM 119 ∈ lw_tbl ∧ goodWord (cwM 119) = true := ⟨in_4 (List.mem_of_getElem? (i := 220) rfl), rfl⟩
set_option maxRecDepth 100000 in
theorem cw_120 : cwM 120 ∈ lw_tbl ∧ goodWord (cwM 120) = true := ⟨in_5 (List.mem_of_getElem? (i := 119) rfl), rfl⟩
set_option maxRecDepth 100000 in
theorem cw_121 : cwM 121 ∈ lw_tbl ∧ goodWord (cwM 121) = true := ⟨in_5 (List.mem_of_getElem? (i := 239) rfl), rfl⟩
set_option maxRecDepth 100000 in
theorem cw_122 : cwM 122 ∈ lw_tbl ∧ goodWord (cwM 122) = true := ⟨in_7 (List.mem_of_getElem? (i := 9) rfl), rfl⟩
set_option maxRecDepth 100000 in
theorem cw_123 : cwM 123 ∈ lw_tbl ∧ goodWord (cwM 123) = true := ⟨in_5 (List.mem_of_getElem? (i := 140) rfl), rfl⟩
set_option maxRecDepth 100000 in
theorem cw_124 : cwM 124 ∈ lw_tbl ∧ goodWord (cwM 124) = true := ⟨in_5 (List.mem_of_getElem? (i := 213) rfl), rfl⟩
set_option maxRecDepth 100000 in
theorem cw_125 : cwM 125 ∈ lw_tbl ∧ goodWord (cwM 125) = true := ⟨in_5 (List.mem_of_getElem? (i := 122) rfl), rfl⟩
set_option maxRecDepth 100000 in
theorem cw_126 : cwM 126 ∈ lw_tbl ∧ goodWord (cwM 126) = true := ⟨in_5 (List.mem_of_getElem? (i := 144) rfl), rfl⟩
set_option maxRecDepth 100000 in
theorem cw_127 : cwM 127 ∈ lw_tbl ∧ goodWord (cwM 127) = true := ⟨in_5 (List.mem_of_getElem? (i := 132) rfl), rfl⟩
set_option maxRecDepth 100000 in
theorem cw_128 : cwM 128 ∈ lw_tbl ∧ goodWord (cwM 128) = true := ⟨in_5 (List.mem_of_getElem? (i := 225) rfl), rfl⟩
set_option maxRecDepth 100000 in
theorem cw_129 : cwM 129 ∈ lw_tbl ∧ goodWord (cwM 129) = true := ⟨in_5 (List.mem_of_getElem? (i := 205) rfl), rfl⟩
set_option maxRecDepth 100000 in
theorem cw_130 : cwM 130 ∈ lw_tbl ∧ goodWord (cwM 130) = true := ⟨in_5 (List.mem_of_getElem? (i := 176) rfl), rfl⟩
set_option maxRecDepth 100000 in
theorem cw_131 : cwM 131 ∈ lw_tbl ∧ goodWord (cwM 131) = true := ⟨in_5 (List.mem_of_getElem? (i := 128) rfl), rfl⟩
set_option maxRecDepth 100000 in
theorem cw_132 : cwM 132 ∈ lw_tbl ∧ goodWord (cwM 132) = true := ⟨in_5 (List.mem_of_getElem? (i := 116) rfl), rfl⟩
set_option maxRecDepth 100000 in
theorem cw_133 : cwM 133 ∈ lw_tbl ∧ goodWord (cwM 133) = true := ⟨in_5 (List.mem_of_getElem? (i := 148) rfl), rfl⟩
set_option maxRecDepth 100000 in
theorem cw_134 : cwM 134 ∈ lw_tbl ∧ goodWord (cwM 134) = true := ⟨in_5 (List.mem_of_getElem? (i := 152) rfl), rfl⟩
set_option maxRecDepth 100000 in
theorem cw_135 : cwM 135 ∈ lw_tbl ∧ goodWord (cwM 135) = true := ⟨in_5 (List.mem_of_getElem? (i := 156) rfl), rfl⟩
set_option maxRecDepth 100000 in
theorem cw_136 : cwM 136 ∈ lw_tbl ∧ goodWord (cwM 136) = true := ⟨in_5 (List.mem_of_getElem? (i := 160) rfl), rfl⟩
set_option maxRecDepth 100000 in
theorem cw_137 : cwM 137 ∈ lw_tbl ∧ goodWord (cwM 137) = true := ⟨in_5 (List.mem_of_getElem? (i := 136) rfl), rfl⟩
set_option maxRecDepth 100000 in
theorem cw_138 : cwM 138 ∈ lw_tbl ∧ goodWord (cwM 138) = true := ⟨in_5 (List.mem_of_getElem? (i := 167) rfl), rfl⟩
set_option maxRecDepth 100000 in
theorem cw_139 : cwM 139 ∈ lw_tbl ∧ goodWord (cwM 139) = true := ⟨in_5 (List.mem_of_getElem? (i := 164) rfl), rfl⟩
set_option maxRecDepth 100000 in
theorem cw_140 : cwM 140 ∈ lw_tbl ∧ goodWord (cwM 140) = true := ⟨in_5 (List.mem_of_getElem? (i := 172) rfl), rfl⟩
set_option maxRecDepth 100000 in
theorem cw_141 : cwM 141 ∈ lw_tbl ∧ goodWord (cwM 141) = true := ⟨in_5 (List.mem_of_getElem? (i := 180) rfl), rfl⟩
set_option maxRecDepth 100000 in
theorem cw_142 : cwM 142 ∈ lw_tbl ∧ goodWord (cwM 142) = true := ⟨in_5 (List.mem_of_getElem? (i := 184) rfl), rfl⟩
set_option maxRecDepth 100000 in
theorem cw_143 : cwM 143 ∈ lw_tbl ∧ goodWord (cwM 143) = true := ⟨in_5 (List.mem_of_getElem? (i := 192) rfl), rfl⟩
set_option maxRecDepth 100000 in
theorem cw_144 : cwM 144 ∈ lw_tbl ∧ goodWord (cwM 144) = true := ⟨in_5 (List.mem_of_getElem? (i := 188) rfl), rfl⟩
set_option maxRecDepth 100000 in
theorem cw_145 : cwM 145 ∈ lw_tbl ∧ goodWord (cwM 145) = true := ⟨in_5 (List.mem_of_getElem? (i := 197) rfl), rfl⟩
set_option maxRecDepth 100000 in
theorem cw_146 : cwM 146 ∈ lw_tbl ∧ goodWord (cwM 146) = true := ⟨in_5 (List.mem_of_getElem? (i := 201) rfl), rfl⟩
set_option maxRecDepth 100000 in
theorem cw_147 : cwM 147 ∈ lw_tbl ∧ goodWord (cwM 147) = true := ⟨in_5 (List.mem_of_getElem? (i := 229) rfl), rfl⟩
set_option maxRecDepth 100000 in
theorem cw_148 : cwM 148 ∈ lw_tbl ∧ goodWord (cwM 148) = true := ⟨in_5 (List.mem_of_getElem? (i := 217) rfl), rfl⟩
set_option maxRecDepth 100000 in
theorem cw_149 : cwM 149 ∈ lw_tbl ∧ goodWord (cwM 149) = true := ⟨in_5 (List.mem_of_getElem? (i := 209) rfl), rfl⟩
set_option maxRecDepth 100000 in
theorem cw_150 : cwM 150 ∈ lw_tbl ∧ goodWord (cwM 150) = true := ⟨in_6 (List.mem_of_getElem? (i := 3) rfl), rfl⟩
set_option maxRecDepth 100000 in
theorem cw_151 : cwM 151 ∈ lw_tbl ∧ goodWord (cwM 151) = true := ⟨in_6 (List.mem_of_getElem? (i := 7) rfl), rfl⟩
set_option maxRecDepth 100000 in
theorem cw_152 : cwM 152 ∈ lw_tbl ∧ goodWord (cwM 152) = true := ⟨in_6 (List.mem_of_getElem? (i := 30) rfl), rfl⟩
set_option maxRecDepth 100000 in
theorem cw_153 : cwM 153 ∈ lw_tbl ∧ goodWord (cwM 153) = true := ⟨in_6 (List.mem_of_getElem? (i := 27) rfl), rfl⟩
set_option maxRecDepth 100000 in
theorem cw_154 : cwM 154 ∈ lw_tbl ∧ goodWord (cwM 154) = true := ⟨in_6 (List.mem_of_getElem? (i := 23) rfl), rfl⟩
set_option maxRecDepth 100000 in
theorem cw_155 : cwM 155 ∈ lw_tbl ∧ goodWord (cwM 155) = true := ⟨in_6 (List.mem_of_getElem? (i := 34) rfl), rfl⟩
set_option maxRecDepth 100000 in
theorem cw_156 : cwM 156 ∈ lw_tbl ∧ goodWord (cwM 156) = true := ⟨in_6 (List.mem_of_getElem? (i := 19) rfl), rfl⟩
set_option maxRecDepth 100000 in
theorem cw_157 : cwM 157 ∈ lw_tbl ∧ goodWord (cwM 157) = true := ⟨in_6 (List.mem_of_getElem? (i := 15) rfl), rfl⟩
set_option maxRecDepth 100000 in
theorem cw_158 : cwM 158 ∈ lw_tbl ∧ goodWord (cwM 158) = true := ⟨in_6 (List.mem_of_getElem? (i := 11) rfl), rfl⟩
set_option maxRecDepth 100000 in
theorem cw_159 : cwM 159 ∈ lw_tbl ∧ goodWord (cwM 159) = true := ⟨in_6 (List.mem_of_getElem? (i := 46) rfl), rfl⟩
set_option maxRecDepth 100000 in
theorem cw_160 : cwM 160 ∈ lw_tbl ∧ goodWord (cwM 160) = true := ⟨in_6 (List.mem_of_getElem? (i := 42) rfl), rfl⟩
set_option maxRecDepth 100000 in
theorem cw_161 : cwM 161 ∈ lw_tbl ∧ goodWord (cwM 161) = true := ⟨in_6 (List.mem_of_getElem? (i := 50) rfl), rfl⟩
set_option maxRecDepth 100000 in
theorem cw_162 : cwM 162 ∈ lw_tbl ∧ goodWord (cwM 162) = true := ⟨in_6 (List.mem_of_getElem? (i := 38) rfl), rfl⟩
set_option maxRecDepth 100000 in
theorem cw_163 : cwM 163 ∈ lw_tbl ∧ goodWord (cwM 163) = true := ⟨in_6 (List.mem_of_getElem? (i := 58) rfl), rfl⟩
set_option maxRecDepth 100000 in
theorem cw_164 : cwM 164 ∈ lw_tbl ∧ goodWord (cwM 164) = true := ⟨in_6 (List.mem_of_getElem? (i := 62) rfl), rfl⟩
set_option maxRecDepth 100000 in
theorem cw_165 : cwM 165 ∈ lw_tbl ∧ goodWord (cwM 165) = true := ⟨in_6 (List.mem_of_getElem? (i := 54) rfl), rfl⟩
set_option maxRecDepth 100000 in
theorem cw_166 : cwM 166 ∈ lw_tbl ∧ goodWord (cwM 166) = true := ⟨in_6 (List.mem_of_getElem? (i := 66) rfl), rfl⟩
set_option maxRecDepth 100000 in
theorem cw_167 : cwM 167 ∈ lw_tbl ∧ goodWord (cwM 167) = true := ⟨in_6 (List.mem_of_getElem? (i := 71) rfl), rfl⟩
set_option maxRecDepth 100000 in
theorem cw_168 : cwM 168 ∈ lw_tbl ∧ goodWord (cwM 168) = true := ⟨in_6 (List.mem_of_getElem? (i := 79) rfl), rfl⟩
set_option maxRecDepth 100000 in
theorem cw_169 : cwM 169 ∈ lw_tbl ∧ goodWord (cwM 169) = true := ⟨in_6 (List.mem_of_getElem? (i := 75) rfl), rfl⟩
set_option maxRecDepth 100000 in
theorem cw_170 : cwM 170 ∈ lw_tbl ∧ goodWord (cwM 170) = true := ⟨in_6 (List.mem_of_getElem? (i := 87) rfl), rfl⟩
set_option maxRecDepth 100000 in
theorem cw_171 : cwM 171 ∈ lw_tbl ∧ goodWord (cwM 171) = true := ⟨in_6 (List.mem_of_getElem? (i := 91) rfl), rfl⟩
set_option maxRecDepth 100000 in
theorem cw_172 : cwM 172 ∈ lw_tbl ∧ goodWord (cwM 172) = true := ⟨in_6 (List.mem_of_getElem? (i := 83) rfl), rfl⟩
set_option maxRecDepth 100000 in
theorem cw_173 : cwM 173 ∈ lw_tbl ∧ goodWord (cwM 173) = true := ⟨in_6 (List.mem_of_getElem? (i := 99) rfl), rfl⟩
set_option maxRecDepth 100000 in
theorem cw_174 : cwM 174 ∈ lw_tbl ∧ goodWord (cwM 174) = true := ⟨in_6 (List.mem_of_getElem? (i := 95) rfl), rfl⟩
set_option maxRecDepth 100000 in
theorem cw_175 : cwM 175 ∈ lw_tbl ∧ goodWord (cwM 175) = true := ⟨in_6 (List.mem_of_getElem? (i := 103) rfl), rfl⟩
set_option maxRecDepth 100000 in
theorem cw_176 : cwM 176 ∈ lw_tbl ∧ goodWord (cwM 176) = true := ⟨in_6 (List.mem_of_getElem? (i := 111) rfl), rfl⟩
set_option maxRecDepth 100000 in
theorem cw_177 : cwM 177 ∈ lw_tbl ∧ goodWord (cwM 177) = true := ⟨in_6 (List.mem_of_getElem? (i := 107) rfl), rfl⟩
set_option maxRecDepth 100000 in
theorem cw_178 : cwM 178 ∈ lw_tbl ∧ goodWord (cwM 178) = true := ⟨in_6 (List.mem_of_getElem? (i := 115) rfl), rfl⟩
set_option maxRecDepth 100000 in
theorem cw_179 : cwM 179 ∈ lw_tbl ∧ goodWord (cwM 179) = true := ⟨in_6 (List.mem_of_getElem? (i := 119) rfl), rfl⟩
set_option maxRecDepth 100000 in
theorem cw_180 : cwM 180 ∈ lw_tbl ∧ goodWord (cwM 180) = true := ⟨in_6 (List.mem_of_getElem? (i := 127) rfl), rfl⟩
set_option maxRecDepth 100000 in
theorem cw_181 : cwM 181 ∈ lw_tbl ∧ goodWord (cwM 181) = true := ⟨in_6 (List.mem_of_getElem? (i := 131) rfl), rfl⟩
set_option maxRecDepth 100000 in
theorem cw_182 : cwM 182 ∈ lw_tbl ∧ goodWord (cwM 182) = true := ⟨in_6 (List.mem_of_getElem? (i := 135) rfl), rfl⟩
set_option maxRecDepth 100000 in
theorem cw_183 : cwM 183 ∈ lw_tbl ∧ goodWord (cwM 183) = true := ⟨in_6 (List.mem_of_getElem? (i := 139) rfl), rfl⟩
set_option maxRecDepth 100000 in
theorem cw_184 : cwM 184 ∈ lw_tbl ∧ goodWord (cwM 184) = true := ⟨in_6 (List.mem_of_getElem? (i := 151) rfl), rfl⟩
set_option maxRecDepth 100000 in
theorem cw_185 : cwM 185 ∈ lw_tbl ∧ goodWord (cwM 185) = true := ⟨in_6 (List.mem_of_getElem? (i := 155) rfl), rfl⟩
set_option maxRecDepth 100000 in
theorem cw_186 : cwM 186 ∈ lw_tbl ∧ goodWord (cwM 186) = true := ⟨in_6 (List.mem_of_getElem? (i := 147) rfl), rfl⟩
set_option maxRecDepth 100000 in
theorem cw_187 : cwM 187 ∈ lw_tbl ∧ goodWord (cwM 187) = true := ⟨in_6 (List.mem_of_getElem? (i := 159) rfl), rfl⟩
set_option maxRecDepth 100000 in
theorem cw_188 : cwM 188 ∈ lw_tbl ∧ goodWord (cwM 188) = true := ⟨in_6 (List.mem_of_getElem? (i := 171) rfl), rfl⟩
set_option maxRecDepth 100000 in
theorem cw_189 : cwM 189 ∈ lw_tbl ∧ goodWord (cwM 189) = true := ⟨in_6 (List.mem_of_getElem? (i := 178) rfl), rfl⟩
set_option maxRecDepth 100000 in
theorem cw_190 : cwM 190 ∈ lw_tbl ∧ goodWord (cwM 190) = true := ⟨in_6 (List.mem_of_getElem? (i := 175) rfl), rfl⟩
set_option maxRecDepth 100000 in
theorem cw_191 : cwM 191 ∈ lw_tbl ∧ goodWord (cwM 191) = true := ⟨in_6 (List.mem_of_getElem? (i := 186) rfl), rfl⟩
set_option maxRecDepth 100000 in
theorem cw_192 : cwM 192 ∈ lw_tbl ∧ goodWord (cwM 192) = true := ⟨in_6 (List.mem_of_getElem? (i := 167) rfl), rfl⟩
set_option maxRecDepth 100000 in
theorem cw_193 : cwM 193 ∈ lw_tbl ∧ goodWord (cwM 193) = true := ⟨in_6 (List.mem_of_getElem? (i := 163) rfl), rfl⟩
set_option maxRecDepth 100000 in
theorem cw_194 : cwM 194 ∈ lw_tbl ∧ goodWord (cwM 194) = true := ⟨in_6 (List.mem_of_getElem? (i := 182) rfl), rfl⟩
set_option maxRecDepth 100000 in
theorem cw_195 : cwM 195 ∈ lw_tbl ∧ goodWord (cwM 195) = true := ⟨in_6 (List.mem_of_getElem? (i := 143) rfl), rfl⟩
set_option maxRecDepth 100000 in
theorem cw_196 : cwM 196 ∈ lw_tbl ∧ goodWord (cwM 196) = true := ⟨in_6 (List.mem_of_getElem? (i := 190) rfl), rfl⟩
set_option maxRecDepth 100000 in
theorem cw_197 : cwM 197 ∈ lw_tbl ∧ goodWord (cwM 197) = true := ⟨in_5 (List.mem_of_getElem? (i := 221) rfl), rfl⟩
set_option maxRecDepth 100000 in
theorem cw_198 : cwM 198 ∈ lw_tbl ∧ goodWord (cwM 198) = true := ⟨in_6 (List.mem_of_getElem? (i := 194) rfl), rfl⟩
set_option maxRecDepth 100000 in
theorem cw_199 : cwM 199 ∈ lw_tbl ∧ goodWord (cwM 199) = true := ⟨in_5 (List.mem_of_getElem? (i := 236) rfl), rfl⟩
set_option maxRecDepth 100000 in
theorem cw_200 : cwM 200 ∈ lw_tbl ∧ goodWord (cwM 200) = true := ⟨in_5 (List.mem_of_getElem? (i := 233) rfl), rfl⟩
set_option maxRecDepth 100000 in
theorem cw_201 : cwM 201 ∈ lw_tbl ∧ goodWord (cwM 201) = true := ⟨in_6 (List.mem_of_getElem? (i := 122) rfl), rfl⟩
set_option maxRecDepth 100000 in
theorem cw_202 : cwM 202 ∈ lw_tbl ∧ goodWord (cwM 202) = true := ⟨in_6 (List.mem_of_getElem? (i := 225) rfl), rfl⟩
set_option maxRecDepth 100000 in
theorem cw_203 : cwM 203 ∈ lw_tbl ∧ goodWord (cwM 203) = true := ⟨in_6 (List.mem_of_getElem? (i := 198) rfl), rfl⟩
set_option maxRecDepth 100000 in
theorem cw_204 : cwM 204 ∈ lw_tbl ∧ goodWord (cwM 204) = true := ⟨in_6 (List.mem_of_getElem? (i := 203) rfl), rfl⟩
set_option maxRecDepth 100000 in
theorem cw_205 : cwM 205 ∈ lw_tbl ∧ goodWord (cwM 205) = true := ⟨in_6 (List.mem_of_getElem? (i := 210) rfl), rfl⟩
set_option maxRecDepth 100000 in
theorem cw_206 : cwM 206 ∈ lw_tbl ∧ goodWord (cwM 206) = true := ⟨in_6 (List.mem_of_getElem? (i := 214) rfl), rfl⟩
set_option maxRecDepth 100000 in
theorem cw_207 : cwM 207 ∈ lw_tbl ∧ goodWord (cwM 207) = true := ⟨in_6 (List.mem_of_getElem? (i := 218) rfl), rfl⟩
set_option maxRecDepth 100000 in
theorem cw_208 : cwM 208 ∈ lw_tbl ∧ goodWord (cwM 208) = true := ⟨in_6 (List.mem_of_getElem? (i := 222) rfl), rfl⟩
set_option maxRecDepth 100000 in
theorem cw_209 : cwM 209 ∈ lw_tbl ∧ goodWord (cwM 209) = true := ⟨in_6 (List.mem_of_getElem? (i := 229) rfl), rfl⟩
set_option maxRecDepth 100000 in
theorem cw_210 : cwM 210 ∈ lw_tbl ∧ goodWord (cwM 210) = true := ⟨in_6 (List.mem_of_getElem? (i := 233) rfl), rfl⟩
set_option maxRecDepth 100000 in
theorem cw_211 : cwM 211 ∈ lw_tbl ∧ goodWord (cwM 211) = true := ⟨in_6 (List.mem_of_getElem? (i := 237) rfl), rfl⟩
set_option maxRecDepth 100000 in
theorem cw_212 : cwM 212 ∈ lw_tbl ∧ goodWord (cwM 212) = true := ⟨in_7 (List.mem_of_getElem? (i := 2) rfl), rfl⟩
set_option maxRecDepth 100000 in
theorem cw_213 : cwM 213 ∈ lw_tbl ∧ goodWord (cwM 213) = true := ⟨in_7 (List.mem_of_getElem? (i := 6) rfl), rfl⟩
set_option maxRecDepth 100000 in
theorem cw_214 : cwM 214 ∈ lw_tbl ∧ goodWord (cwM 214) = true := ⟨in_7 (List.mem_of_getElem? (i := 13) rfl), rfl⟩
set_option maxRecDepth 100000 in
theorem cw_215 : cwM 215 ∈ lw_tbl ∧ goodWord (cwM 215) = true := ⟨in_7 (List.mem_of_getElem? (i := 17) rfl), rfl⟩
set_option maxRecDepth 100000 in
theorem cw_216 : cwM 216 ∈ lw_tbl ∧ goodWord (cwM 216) = true := ⟨in_7 (List.mem_of_getElem? (i := 21) rfl), rfl⟩
set_option maxRecDepth 100000 in
theorem cw_217 : cwM 217 ∈ lw_tbl ∧ goodWord (cwM 217) = true := ⟨in_3 (List.mem_of_getElem? (i := 80) rfl), rfl⟩
set_option maxRecDepth 100000 in
theorem cw_218 : cwM 218 ∈ lw_tbl ∧ goodWord (cwM 218) = true := ⟨in_3 (List.mem_of_getElem? (i := 212) rfl), rfl⟩
set_option maxRecDepth 100000 in
theorem cw_219 : cwM 219 ∈ lw_tbl ∧ goodWord (cwM 219) = true := ⟨in_3 (List.mem_of_getElem? (i := 222) rfl), rfl⟩
set_option maxRecDepth 100000 in
theorem cw_220 : cwM 220 ∈ lw_tbl ∧ goodWord (cwM 220) = true := ⟨in_4 (List.mem_of_getElem? (i := 56) rfl), rfl⟩
set_option maxRecDepth 100000 in
theorem cw_221 : cwM 221 ∈ lw_tbl ∧ goodWord (cwM 221) = true := ⟨in_4 (List.mem_of_getElem? (i := 60) rfl), rfl⟩
set_option maxRecDepth 100000 in
theorem cw_222 : cwM 222 ∈ lw_tbl ∧ goodWord (cwM 222) = true := ⟨in_3 (List.mem_of_getElem? (i := 216) rfl), rfl⟩
set_option maxRecDepth 100000 in
theorem cw_223 : cwM 223 ∈ lw_tbl ∧ goodWord (cwM 223) = true := ⟨in_3 (List.mem_of_getElem? (i := 226) rfl), rfl⟩
set_option maxRecDepth 100000 in
theorem cw_224 : cwM 224 ∈ lw_tbl ∧ goodWord (cwM 224) = true := ⟨in_3 (List.mem_of_getElem? (i := 232) rfl), rfl⟩
set_option maxRecDepth 100000 in
theorem cw_225 : cwM 225 ∈ lw_tbl ∧ goodWord (cwM 225) = true := ⟨in_3 (List.mem_of_getElem? (i := 229) rfl), rfl⟩
set_option maxRecDepth 100000 in
theorem cw_226 : cwM 226 ∈ lw_tbl ∧ goodWord (cwM 226) = true := ⟨in_4 (List.mem_of_getElem? (i := 67) rfl), rfl⟩
set_option maxRecDepth 100000 in
theorem cw_227 : cwM 227 ∈ lw_tbl ∧ goodWord (cwM 227) = true := ⟨in_4 (List.mem_of_getElem? (i := 64) rfl), rfl⟩
set_option maxRecDepth 100000 in
theorem cw_228 : cwM 228 ∈ lw_tbl ∧ goodWord (cwM 228) = true := ⟨in_4 (List.mem_of_getElem? (i := 72) rfl), rfl⟩
set_option maxRecDepth 100000 in
theorem cw_229 : cwM 229 ∈ lw_tbl ∧ goodWord (cwM 229) = true := ⟨in_3 (List.mem_of_getElem? (i := 237) rfl), rfl⟩
theorem cwl_0 : ∀ w ∈ [cwM 0, cwM 1, cwM 2, cwM 3, cwM 4, cwM 5, cwM 6, cwM 7, cwM 8, cwM 9, cwM 10, cwM 11, cwM 12, cwM 13, cwM 14, cwM 15, cwM 16, cwM 17, cwM 18, cwM 19], w ∈ lw_tbl ∧ goodWord w = true := List.forall_mem_cons.mpr ⟨cw_0, List.forall_mem_cons.mpr ⟨cw_1, List.forall_mem_cons.mpr ⟨cw_2, List.forall_mem_cons.mpr ⟨cw_3, List.forall_mem_cons.mpr ⟨cw_4, List.forall_mem_cons.mpr ⟨cw_5, List.forall_mem_cons.mpr ⟨cw_6, List.forall_mem_cons.mpr ⟨cw_7, List.forall_mem_cons.mpr ⟨cw_8, List.forall_mem_cons.mpr ⟨cw_9, List.forall_mem_cons.mpr ⟨cw_10, List.forall_mem_cons.mpr ⟨cw_11, List.forall_mem_cons.mpr ⟨cw_12, List.forall_mem_cons.mpr ⟨cw_13, List.forall_mem_cons.mpr ⟨cw_14, List.forall_mem_cons.mpr ⟨cw_15, List.forall_mem_cons.mpr ⟨cw_16, List.forall_mem_cons.mpr ⟨cw_17, List.forall_mem_cons.mpr ⟨cw_18, List.forall_mem_cons.mpr ⟨cw_19, fun _ h => absurd h List.not_mem_nil⟩⟩⟩⟩⟩⟩⟩⟩⟩⟩⟩⟩⟩⟩⟩⟩⟩⟩⟩⟩
theorem cwr_0 {m : Nat} (h1 : 0 ≤ m) (h2 : m < 20) : cwM m ∈ lw_tbl ∧ goodWord (cwM m) = true := by
  have h : cwM m ∈ (List.range' 0 20).map cwM := List.mem_map.mpr ⟨m, List.mem_range'_1.mpr ⟨h1, h2⟩, rfl⟩
  exact cwl_0 _ h
theorem cwl_20 : ∀ w ∈ [cwM 20, cwM 21, cwM 22, cwM 23, cwM 24, cwM 25, cwM 26, cwM 27, cwM 28, cwM 29, cwM 30, cwM 31, cwM 32, cwM 33, cwM 34, cwM 35, cwM 36, cwM 37, cwM 38, cwM 39], w ∈ lw_tbl ∧ goodWord w = true := List.forall_mem_cons.mpr ⟨cw_20, List.forall_mem_cons.mpr ⟨cw_21, List.forall_mem_cons.mpr ⟨cw_22, List.forall_mem_cons.mpr ⟨cw_23, List.forall_mem_cons.mpr ⟨cw_24, List.forall_mem_cons.mpr ⟨cw_25, List.forall_mem_cons.mpr ⟨cw_26, List.forall_mem_cons.mpr ⟨cw_27, List.forall_mem_cons.mpr ⟨cw_28, List.forall_mem_cons.mpr ⟨cw_29, List.forall_mem_cons.mpr ⟨cw_30, List.forall_mem_cons.mpr ⟨cw_31, List.forall_mem_cons.mpr ⟨cw_32, List.forall_mem_cons.mpr ⟨cw_33, List.forall_mem_cons.mpr ⟨cw_34, List.forall_mem_cons.mpr ⟨cw_35, List.forall_mem_cons.mpr ⟨cw_36, List.forall_mem_cons.mpr ⟨cw_37, List.forall_mem_cons.mpr ⟨cw_38, List.forall_mem_cons.mpr ⟨cw_39, fun _ h => absurd h List.not_mem_nil⟩⟩⟩⟩⟩⟩⟩⟩⟩⟩⟩⟩⟩⟩⟩⟩⟩⟩⟩⟩
theorem cwr_20 {m : Nat} (h1 : 20 ≤ m) (h2 : m < 40) : cwM m ∈ lw_tbl ∧ goodWord (cwM m) = true := by
  have h : cwM m ∈ (List.range' 20 20).map cwM := List.mem_map.mpr ⟨m, List.mem_range'_1.mpr ⟨h1, h2⟩, rfl⟩
  exact cwl_20 _ h
theorem cwl_40 : ∀ w ∈ [cwM 40, cwM 41, cwM 42, cwM 43, cwM 44, cwM 45, cwM 46, cwM 47, cwM 48, cwM 49, cwM 50, cwM 51, cwM 52, cwM 53, cwM 54, cwM 55, cwM 56, cwM 57, cwM 58, cwM 59], w ∈ lw_tbl ∧ goodWord w = true := List.forall_mem_cons.mpr ⟨cw_40, List.forall_mem_cons.mpr ⟨cw_41, List.forall_mem_cons.mpr ⟨cw_42, List.forall_mem_cons.mpr ⟨cw_43, List.forall_mem_cons.mpr ⟨cw_44, List.forall_mem_cons.mpr ⟨cw_45, List.forall_mem_cons.mpr ⟨cw_46, List.forall_mem_cons.mpr ⟨cw_47, List.forall_mem_cons.mpr ⟨cw_48, List.forall_mem_cons.mpr ⟨cw_49, List.forall_mem_cons.mpr ⟨cw_50, List.forall_mem_cons.mpr ⟨cw_51, List.forall_mem_cons.mpr ⟨cw_52, List.forall_mem_cons.mpr ⟨cw_53, List.forall_mem_cons.mpr ⟨cw_54, List.forall_mem_cons.mpr ⟨cw_55, List.forall_mem_cons.mpr ⟨cw_56, List.forall_mem_cons.mpr ⟨cw_57, List.forall_mem_cons.mpr ⟨cw_58, List.forall_mem_cons.mpr ⟨cw_59, fun _ h => absurd h List.not_mem_nil⟩⟩⟩⟩⟩⟩⟩⟩⟩⟩⟩⟩⟩⟩⟩⟩⟩⟩⟩⟩
theorem cwr_40 {m : Nat} (h1 : 40 ≤ m) (h2 : m < 60) : cwM m ∈ lw_tbl ∧ goodWord (cwM m) = true := by
  have h : cwM m ∈ (List.range' 40 20).map cwM := List.mem_map.mpr ⟨m, List.mem_range'_1.mpr ⟨h1, h2⟩, rfl⟩
  exact cwl_40 _ h
theorem cwl_60 : ∀ w ∈ [cwM 60, cwM 61, cwM 62, cwM 63, cwM 64, cwM 65, cwM 66, cwM 67, cwM 68, cwM 69, cwM 70, cwM 71, cwM 72, cwM 73, cwM 74, cwM 75, cwM 76, cwM 77, cwM 78, cwM 79], w ∈ lw_tbl ∧ goodWord w = true := List.forall_mem_cons.mpr ⟨cw_60, List.forall_mem_cons.mpr ⟨cw_61, List.forall_mem_cons.mpr ⟨cw_62, List.forall_mem_cons.mpr ⟨cw_63, List.forall_mem_cons.mpr ⟨cw_64, List.forall_mem_cons.mpr ⟨cw_65, List.forall_mem_cons.mpr ⟨cw_66, List.forall_mem_cons.mpr ⟨cw_67, List.forall_mem_cons.mpr ⟨cw_68, List.forall_mem_cons.mpr ⟨cw_69, List.forall_mem_cons.mpr ⟨cw_70, List.forall_mem_cons.mpr ⟨cw_71, List.forall_mem_cons.mpr ⟨cw_72, List.forall_mem_cons.mpr ⟨cw_73, List.forall_mem_cons.mpr ⟨cw_74, List.forall_mem_cons.mpr ⟨cw_75, List.forall_mem_cons.mpr ⟨cw_76, List.forall_mem_cons.mpr ⟨cw_77, List.forall_mem_cons.mpr ⟨cw_78, List.forall_mem_cons.mpr ⟨cw_79, fun _ h => absurd h List.not_mem_nil⟩⟩⟩⟩⟩⟩⟩⟩⟩⟩⟩⟩⟩⟩⟩⟩⟩⟩⟩⟩
theorem cwr_60 {m : Nat} (h1 : 60 ≤ m) (h2 : m < 80) : cwM m ∈ lw_tbl ∧ goodWord (cwM m) = true := by
  have h : cwM m ∈ (List.range' 60 20).map cwM := List.mem_map.mpr ⟨m, List.mem_range'_1.mpr ⟨h1, h2⟩, rfl⟩
  exact cwl_60 _ h
theorem cwl_80 : ∀ w ∈ [cwM 80, cwM 81, cwM 82, cwM 83, cwM 84, cwM 85, cwM 86, cwM 87, cwM 88, cwM 89, cwM 90, cwM 91, cwM 92, cwM 93, cwM 94, cwM 95, cwM 96, cwM 97, cwM 98, cwM 99], w ∈ lw_tbl ∧ goodWord w = true := List.forall_mem_cons.mpr ⟨cw_80, List.forall_mem_cons.mpr ⟨cw_81, List.forall_mem_cons.mpr ⟨cw_82, List.forall_mem_cons.mpr ⟨cw_83, List.forall_mem_cons.mpr ⟨cw_84, List.forall_mem_cons.mpr ⟨cw_85, List.forall_mem_cons.mpr ⟨cw_86, List.forall_mem_cons.mpr ⟨cw_87, List.forall_mem_cons.mpr ⟨cw_88, List.forall_mem_cons.mpr ⟨cw_89, List.forall_mem_cons.mpr ⟨cw_90, List.forall_mem_cons.mpr ⟨cw_91, List.forall_mem_cons.mpr ⟨cw_92, List.forall_mem_cons.mpr ⟨cw_93, List.forall_mem_cons.mpr ⟨cw_94, List.forall_mem_cons.mpr ⟨cw_95, List.forall_mem_cons.mpr ⟨cw_96, List.forall_mem_cons.mpr ⟨cw_97, List.forall_mem_cons.mpr ⟨cw_98, List.forall_mem_cons.mpr ⟨cw_99, fun _ h => absurd h List.not_mem_nil⟩⟩⟩⟩⟩⟩⟩⟩⟩⟩⟩⟩⟩⟩⟩⟩⟩⟩⟩⟩
theorem cwr_80 {m : Nat} (h1 : 80 ≤ m) (h2 : m < 100) : cwM m ∈ lw_tbl ∧ goodWord (cwM m) = true := by
  have h : cwM m ∈ (List.range' 80 20).map cwM := List.mem_map.mpr ⟨m, List.mem_range'_1.mpr ⟨h1, h2⟩, rfl⟩
  exact cwl_80 _ h
theorem cwl_100 : ∀ w ∈ [cwM 100, cwM 101, cwM 102, cwM 103, cwM 104, cwM 105, cwM 106, cwM 107, cwM 108, cwM 109, cwM 110, cwM 111, cwM 112, cwM 113, cwM 114, cwM 115, cwM 116, cwM 117, cwM 118, cwM 119], w ∈ lw_tbl ∧ goodWord w = true := List.forall_mem_cons.mpr ⟨cw_100, List.forall_mem_cons.mpr ⟨cw_101, List.forall_mem_cons.mpr ⟨cw_102, List.forall_mem_cons.mpr ⟨cw_103, List.forall_mem_cons.mpr ⟨cw_104, List.forall_mem_cons.mpr ⟨cw_105, List.forall_mem_cons.mpr ⟨cw_106, List.forall_mem_cons.mpr ⟨cw_107, List.forall_mem_cons.mpr ⟨cw_108, List.forall_mem_cons.mpr ⟨cw_109, List.forall_mem_cons.mpr ⟨cw_110, List.forall_mem_cons.mpr ⟨cw_111, List.forall_mem_cons.mpr ⟨cw_112, List.forall_mem_cons.mpr ⟨cw_113, List.forall_mem_cons.mpr ⟨cw_114, List.forall_mem_cons.mpr ⟨cw_115, List.forall_mem_cons.mpr ⟨cw_116, List.forall_mem_cons.mpr ⟨cw_117, List.forall_mem_cons.mpr ⟨cw_118, List.forall_mem_cons.mpr ⟨cw_119, fun _ h => absurd h List.not_mem_nil⟩⟩⟩⟩⟩⟩⟩⟩⟩⟩⟩⟩⟩⟩⟩⟩⟩⟩⟩⟩
theorem cwr_100 {m : Nat} (h1 : 100 ≤ m) (h2 : m < 120) : cwM m ∈ lw_tbl ∧ goodWord (cwM m) = true := by
  have h : cwM m ∈ (List.range' 100 20).map cwM := List.mem_map.mpr ⟨m, List.mem_range'_1.mpr ⟨h1, h2⟩, rfl⟩
  exact cwl_100 _ h
theorem cwl_120 : ∀ w ∈ [cwM 120, cwM 121, cwM 122, cwM 123, cwM 124, cwM 125, cwM 126, cwM 127, cwM 128, cwM 129, cwM 130, cwM 131, cwM 132, cwM 133, cwM 134, cwM 135, cwM 136, cwM 137, cwM 138, cwM 139], w ∈ lw_tbl ∧ goodWord w = true := List.forall_mem_cons.mpr ⟨cw_120, List.forall_mem_cons.mpr ⟨cw_121, List.forall_mem_cons.mpr ⟨cw_122, List.forall_mem_cons.mpr ⟨cw_123, List.forall_mem_cons.mpr ⟨cw_124, List.forall_mem_cons.mpr ⟨cw_125, List.forall_mem_cons.mpr ⟨cw_126, List.forall_mem_cons.mpr ⟨cw_127, List.forall_mem_cons.mpr ⟨cw_128, List.forall_mem_cons.mpr ⟨cw_129, List.forall_mem_cons.mpr ⟨cw_130, List.forall_mem_cons.mpr ⟨cw_131, List.forall_mem_cons.mpr ⟨cw_132, List.forall_mem_cons.mpr ⟨cw_133, List.forall_mem_cons.mpr ⟨cw_134, List.forall_mem_cons.mpr ⟨cw_135, List.forall_mem_cons.mpr ⟨cw_136, List.forall_mem_cons.mpr ⟨cw_137, List.forall_mem_cons.mpr ⟨cw_138, List.forall_mem_cons.mpr ⟨cw_139, fun _ h => absurd h List.not_mem_nil⟩⟩⟩⟩⟩⟩⟩⟩⟩⟩⟩⟩⟩⟩⟩⟩⟩⟩⟩⟩
theorem cwr_120 {m : Nat} (h1 : 120 ≤ m) (h2 : m < 140) : cwM m ∈ lw_tbl ∧ goodWord (cwM m) = true := by
  have h : cwM m ∈ (List.range' 120 20).map cwM := List.mem_map.mpr ⟨m, List.mem_range'_1.mpr ⟨h1, h2⟩, rfl⟩
  exact cwl_120 _ h
theorem cwl_140 : ∀ w ∈ [cwM 140, cwM 141, cwM 142, cwM 143, cwM 144, cwM 145, cwM 146, cwM 147, cwM 148, cwM 149, cwM 150, cwM 151, cwM 152, cwM 153, cwM 154, cwM 155, cwM 156, cwM 157, cwM 158, cwM 159], w ∈ lw_tbl ∧ goodWord w = true := List.forall_mem_cons.mpr ⟨cw_140, List.forall_mem_cons.mpr ⟨cw_141, List.forall_mem_cons.mpr ⟨cw_142, List.forall_mem_cons.mpr ⟨cw_143, List.forall_mem_cons.mpr ⟨cw_144, List.forall_mem_cons.mpr ⟨cw_145, List.forall_mem_cons.mpr ⟨cw_146, List.forall_mem_cons.mpr ⟨cw_147, List.forall_mem_cons.mpr ⟨cw_148, List.forall_mem_cons.mpr ⟨cw_149, List.forall_mem_cons.mpr ⟨cw_150, List.forall_mem_cons.mpr ⟨cw_151, List.forall_mem_cons.mpr ⟨cw_152, List.forall_mem_cons.mpr ⟨cw_153, List.forall_mem_cons.mpr ⟨cw_154, List.forall_mem_cons.mpr ⟨cw_155, List.forall_mem_cons.mpr ⟨cw_156, List.forall_mem_cons.mpr ⟨cw_157, List.forall_mem_cons.mpr ⟨cw_158, List.forall_mem_cons.mpr ⟨cw_159, fun _ h => absurd h List.not_mem_nil⟩⟩⟩⟩⟩⟩⟩⟩⟩⟩⟩⟩⟩⟩⟩⟩⟩⟩⟩⟩
theorem cwr_140 {m : Nat} (h1 : 140 ≤ m) (h2 : m < 160) : cwM m ∈ lw_tbl ∧ goodWord (cwM m) = true := by
  have h : cwM m ∈ (List.range' 140 20).map cwM := List.mem_map.mpr ⟨m, List.mem_range'_1.mpr ⟨h1, h2⟩, rfl⟩
  exact cwl_140 _ h
theorem cwl_160 : ∀ w ∈ [cwM 160, cwM 161, cwM 162, cwM 163, cwM 164, cwM 165, cwM 166, cwM 167, cwM 168, cwM 169, cwM 170, cwM 171, cwM 172, cwM 173, cwM 174, cwM 175, cwM 176, cwM 177, cwM 178, cwM 179], w ∈ lw_tbl ∧ goodWord w = true := List.forall_mem_cons.mpr ⟨cw_160, List.forall_mem_cons.mpr ⟨cw_161, List.forall_mem_cons.mpr ⟨cw_162, List.forall_mem_cons.mpr ⟨cw_163, List.forall_mem_cons.mpr ⟨cw_164, List.forall_mem_cons.mpr ⟨cw_165, List.forall_mem_cons.mpr ⟨cw_166, List.forall_mem_cons.mpr ⟨cw_167, List.forall_mem_cons.mpr ⟨cw_168, List.forall_mem_cons.mpr ⟨cw_169, List.forall_mem_cons.mpr ⟨cw_170, List.forall_mem_cons.mpr ⟨cw_171, List.forall_mem_cons.mpr ⟨cw_172, List.forall_mem_cons.mpr ⟨cw_173, List.forall_mem_cons.mpr ⟨cw_174, List.forall_mem_cons.mpr ⟨cw_175, List.forall_mem_cons.mpr ⟨cw_176, List.forall_mem_cons.mpr ⟨cw_177, List.forall_mem_cons.mpr ⟨cw_178, List.forall_mem_cons.mpr ⟨cw_179, fun _ h => absurd h List.not_mem_nil⟩⟩⟩⟩⟩⟩⟩⟩⟩⟩⟩⟩⟩⟩⟩⟩⟩⟩⟩⟩
theorem cwr_160 {m : Nat} (h1 : 160 ≤ m) (h2 : m < 180) : cwM m ∈ lw_tbl ∧ goodWord (cwM m) = true := by
  have h : cwM m ∈ (List.range' 160 20).map cwM := List.mem_map.mpr ⟨m, List.mem_range'_1.mpr ⟨h1, h2⟩, rfl⟩
  exact cwl_160 _ h
theorem cwl_180 : ∀ w ∈ [cwM 180, cwM 181, cwM 182, cwM 183, cwM 184, cwM 185, cwM 186, cwM 187, cwM 188, cwM 189, cwM 190, cwM 191, cwM 192, cwM 193, cwM 194, cwM 195, cwM 196, cwM 197, cwM 198, cwM 199], w ∈ lw_tbl ∧ goodWord w = true := List.forall_mem_cons.mpr ⟨cw_180, List.forall_mem_cons.mpr ⟨cw_181, List.forall_mem_cons.mpr ⟨cw_182, List.forall_mem_cons.mpr ⟨cw_183, List.forall_mem_cons.mpr ⟨cw_184, List.forall_mem_cons.mpr ⟨cw_185, List.forall_mem_cons.mpr ⟨cw_186, List.forall_mem_cons.mpr ⟨cw_187, List.forall_mem_cons.mpr ⟨cw_188, List.forall_mem_cons.mpr ⟨cw_189, List.forall_mem_cons.mpr ⟨cw_190, List.forall_mem_cons.mpr ⟨cw_191, List.forall_mem_cons.mpr ⟨cw_192, List.forall_mem_cons.mpr ⟨cw_193, List.forall_mem_cons.mpr ⟨cw_194, List.forall_mem_cons.mpr ⟨cw_195, List.forall_mem_cons.mpr ⟨cw_196, List.forall_mem_cons.mpr ⟨cw_197, List.forall_mem_cons.mpr ⟨cw_198, List.forall_mem_cons.mpr ⟨cw_199, fun _ h => absurd h List.not_mem_nil⟩⟩⟩⟩⟩⟩⟩⟩⟩⟩⟩⟩⟩⟩⟩⟩⟩⟩⟩⟩
theorem cwr_180 {m : Nat} (h1 : 180 ≤ m) (h2 : m < 200) : cwM m ∈ lw_tbl ∧ goodWord (cwM m) = true := by
  have h : cwM m ∈ (List.range' 180 20).map cwM := List.mem_map.mpr ⟨m, List.mem_range'_1.mpr ⟨h1, h2⟩, rfl⟩
  exact cwl_180 _ h
theorem cwl_200 : ∀ w ∈ [cwM 200, cwM 201, cwM 202, cwM 203, cwM 204, cwM 205, cwM 206, cwM 207, cwM 208, cwM 209, cwM 210, cwM 211, cwM 212, cwM 213, cwM 214, cwM 215, cwM 216, cwM 217, cwM 218, cwM 219], w ∈ lw_tbl ∧ goodWord w = true := List.forall_mem_cons.mpr ⟨cw_200, List.forall_mem_cons.mpr ⟨cw_201, List.forall_mem_cons.mpr ⟨cw_202, List.forall_mem_cons.mpr ⟨cw_203, List.forall_mem_cons.mpr ⟨cw_204, List.forall_mem_cons.mpr ⟨cw_205, List.forall_mem_cons.mpr ⟨cw_206, List.forall_mem_cons.mpr ⟨cw_207, List.forall_mem_cons.mpr ⟨cw_208, List.forall_mem_cons.mpr ⟨cw_209, List.forall_mem_cons.mpr ⟨cw_210, List.forall_mem_cons.mpr ⟨cw_211, List.forall_mem_cons.mpr ⟨cw_212, List.forall_mem_cons.mpr ⟨cw_213, List.forall_mem_cons.mpr ⟨cw_214, List.forall_mem_cons.mpr ⟨cw_215, List.forall_mem_cons.mpr ⟨cw_216, List.forall_mem_cons.mpr ⟨cw_217, List.forall_mem_cons.mpr ⟨cw_218, List.forall_mem_cons.mpr ⟨cw_219, fun _ h => absurd h List.not_mem_nil⟩⟩⟩⟩⟩⟩⟩⟩⟩⟩⟩⟩⟩⟩⟩⟩⟩⟩⟩⟩
theorem cwr_200 {m : Nat} (h1 : 200 ≤ m) (h2 : m < 220) : cwM m ∈ lw_tbl ∧ goodWord (cwM m) = true := by
  have h : cwM m ∈ (List.range' 200 20).map cwM := List.mem_map.mpr ⟨m, List.mem_range'_1.mpr ⟨h1, h2⟩, rfl⟩
  exact cwl_200 _ h
theorem cwl_220 : ∀ w ∈ [cwM 220, cwM 221, cwM 222, cwM 223, cwM 224, cwM 225, cwM 226, cwM 227, cwM 228, cwM 229], w ∈ lw_tbl ∧ goodWord w = true := List.forall_mem_cons.mpr ⟨cw_220, List.forall_mem_cons.mpr ⟨cw_221, List.forall_mem_cons.mpr ⟨cw_222, List.forall_mem_cons.mpr ⟨cw_223, List.forall_mem_cons.mpr ⟨cw_224, List.forall_mem_cons.mpr ⟨cw_225, List.forall_mem_cons.mpr ⟨cw_226, List.forall_mem_cons.mpr ⟨cw_227, List.forall_mem_cons.mpr ⟨cw_228, List.forall_mem_cons.mpr ⟨cw_229, fun _ h => absurd h List.not_mem_nil⟩⟩⟩⟩⟩⟩⟩⟩⟩⟩
theorem cwr_220 {m : Nat} (h1 : 220 ≤ m) (h2 : m < 230) : cwM m ∈ lw_tbl ∧ goodWord (cwM m) = true := by
  have h : cwM m ∈ (List.range' 220 10).map cwM := List.mem_map.mpr ⟨m, List.mem_range'_1.mpr ⟨h1, h2⟩, rfl⟩
  exact cwl_220 _ h
theorem cw_ok {m : Nat} (h : m < 230) : cwM m ∈ lw_tbl ∧ goodWord (cwM m) = true := by
  by_cases h220 : 220 ≤ m
  · exact cwr_220 h220 (by omega)
  by_cases h200 : 200 ≤ m
  · exact cwr_200 h200 (by omega)
  by_cases h180 : 180 ≤ m
  · exact cwr_180 h180 (by omega)
  by_cases h160 : 160 ≤ m
  · exact cwr_160 h160 (by omega)
  by_cases h140 : 140 ≤ m
  · exact cwr_140 h140 (by omega)
  by_cases h120 : 120 ≤ m
  · exact cwr_120 h120 (by omega)
  by_cases h100 : 100 ≤ m
  · exact cwr_100 h100 (by omega)
  by_cases h80 : 80 ≤ m
  · exact cwr_80 h80 (by omega)
  by_cases h60 : 60 ≤ m
  · exact cwr_60 h60 (by omega)
  by_cases h40 : 40 ≤ m
  · exact cwr_40 h40 (by omega)
  by_cases h20 : 20 ≤ m
  · exact cwr_20 h20 (by omega)
  by_cases h0 : 0 ≤ m
  · exact cwr_0 h0 (by omega)
  exact (h0 (Nat.zero_le m)).elim
theorem mw_0 : ∀ m, m < 60 → MW (0 + m) = true := by decide +kernel
theorem mw_60 : ∀ m, m < 60 → MW (60 + m) = true := by decide +kernel
theorem mw_120 : ∀ m, m < 60 → MW (120 + m) = true := by decide +kernel
theorem mw_180 : ∀ m, m < 50 → MW (180 + m) = true := by decide +kernel
theorem mw_ok {m : Nat} (h : m < 230) : MW m = true := by
  by_cases h180 : 180 ≤ m
  · have e := mw_180 (m - 180) (by omega)
    rwa [show 180 + (m - 180) = m by omega] at e
  by_cases h120 : 120 ≤ m
  · have e := mw_120 (m - 120) (by omega)
    rwa [show 120 + (m - 120) = m by omega] at e
  by_cases h60 : 60 ≤ m
  · have e := mw_60 (m - 60) (by omega)
    rwa [show 60 + (m - 60) = m by omega] at e
  by_cases h0 : 0 ≤ m
  · have e := mw_0 (m - 0) (by omega)
    rwa [show 0 + (m - 0) = m by omega] at e
  exact (h0 (Nat.zero_le m)).elim
def okSw (pc : Nat) (lo : Int) (offs : Array Int) : Int → List (Int32 × Nat) → Bool
  | _, [] => true
  | j, (v, t) :: r => decide (v.toInt = lo + j) && (match offs[j.toNat]? with | some o => decide ((pc : Int) + o = (t : Int)) | none => false) && okSw pc lo offs (j + 1) r
def okLk (pc : Nat) : List (Int × Int) → List (Int32 × Nat) → Bool
  | [], [] => true
  | (a, o) :: r, (v, t) :: q => decide (v.toInt = a) && decide ((pc : Int) + o = (t : Int)) && okLk pc r q
  | _, _ => false
def okE (o : Nat) (b : ByteArray) (pc : Nat) (e : Ent) : Bool := match e with
  | ((ins, n), a, bb, x, tb) => decide (decode b pc = .ok (ins, n)) && (match ins with
    | .iconst i => n == 1 && decide (Int32.ofInt i = x)
    | .bipush i => n == 2 && decide ((Int8.ofInt i).toInt32 = x)
    | .sipush i => n == 3 && decide ((Int16.ofInt i).toInt32 = x)
    | .ldc i => n == 2 && (match a with
      | 0 => CSTS.any (fun q => q.1 == o && q.2.1 == i && decide (q.2.2.1 = x))
      | 1 => o == 4 && decide (sIdx[bb]? = some i)
      | _ => false)
    | .ldc_w i => n == 3 && CSTS.any (fun q => q.1 == o && q.2.1 == i && decide (q.2.2.1 = x))
    | .iload_n k => n == 1 && k.val == a
    | .aload_n k => n == 1 && k.val == a
    | .istore_n k => n == 1 && k.val == a
    | .astore_n k => n == 1 && k.val == a
    | .iload k => n == 2 && k == a
    | .aload k => n == 2 && k == a
    | .istore k => n == 2 && k == a
    | .astore k => n == 2 && k == a
    | .iinc k c => n == 3 && k == a && decide (Int32.ofInt c = x)
    | .goto off => n == 3 && decide ((pc : Int) + off = (a : Int))
    | .ifCond _ off => n == 3 && decide ((pc : Int) + off = (a : Int))
    | .if_icmp _ off => n == 3 && decide ((pc : Int) + off = (a : Int))
    | .tableswitch d lo hi offs => decide ((pc : Int) + d = (a : Int)) && decide (hi = lo + tb.length - 1) && okSw pc lo offs 0 tb
    | .lookupswitch d ps => decide ((pc : Int) + d = (a : Int)) && ((ps.toList.zip (ps.toList.drop 1)).all (fun (a, next) => a.1 < next.1)) && okLk pc ps.toList tb
    | .getfield i => n == 3 && (FLDS.any (fun q => q.1 == o && q.2.1 == i && q.2.2.1 == a && q.2.2.2.1 == bb) || (a == 100 && (bb == 0 || bb == 1) && FLDJ.any (fun q => q.1 == o && q.2.1 == i && q.2.2.1 == a && q.2.2.2.1 == bb)))
    | .putfield i => n == 3 && FLDS.any (fun q => q.1 == o && q.2.1 == i && q.2.2.1 == a && q.2.2.2.1 == bb)
    | .getstatic i => n == 3 && (a == 0 || a == 1) && FLDJ.any (fun q => q.1 == o && q.2.1 == i && q.2.2.1 == 200 && q.2.2.2.1 == a)
    | .invokevirtual i => n == 3 && decide (a < 230) && MTHS.any (fun q => q.1 == o && q.2.1 == i && q.2.2.1 == a && q.2.2.2.1 == 0) && bb == npM a + 1 && (PR a).2.1 == 0 && decide (tb = [(0, (PR a).1)])
    | .invokestatic i => n == 3 && ((bb == 105 && MTHS.any (fun q => q.1 == o && q.2.1 == i && q.2.2.2.1 == 3)) || ((bb == 106 || bb == 107 || bb == 108) && MTHS.any (fun q => q.1 == o && q.2.1 == i && q.2.2.2.1 == bb - 102)) || (decide (bb < 100) && decide (a < 230) && bb == npM a && (PR a).2.1 == 1 && (MTHS.any (fun q => q.1 == o && q.2.1 == i && q.2.2.1 == a && q.2.2.2.1 == 1) || NSTS.any (fun q => q.1 == o && q.2.1 == i && q.2.2.1 == a && q.2.2.2.1 == 2))))
    | _ => n == 1)
def okT (o : Nat) (b : ByteArray) : Nat → Tab → Bool
  | _, [] => true
  | i, r :: q => (List.range r.length).all (fun j => match r.getD j none with | some e => okE o b (16 * i + j) e | none => true) && decide (r.length ≤ 16) && okT o b (i + 1) q
def okM (r : MRec) : Bool := okT r.1 r.2.2.2.1 0 r.2.2.2.2.2.2
theorem okT_at {o : Nat} {b : ByteArray} : ∀ (T : Tab) (i : Nat), okT o b i T = true → ∀ (k j : Nat) (e : Ent), ((T.getD k []).getD j none) = some e → okE o b (16 * (i + k) + j) e = true := by
  intro T
  induction T with
  | nil => intro i h k j e he; simp at he
  | cons r q ih =>
    intro i h k j e he
    simp only [okT, Bool.and_eq_true] at h
    cases k with
    | zero =>
      have hj : j < r.length := by
        rcases Nat.lt_or_ge j r.length with z | z
        · exact z
        · simp [List.getD_cons_zero, List.getD_eq_getElem?_getD, List.getElem?_eq_none z] at he
      have h1 := List.all_eq_true.mp h.1.1 j (List.mem_range.mpr hj)
      rw [List.getD_cons_zero] at he
      rw [he] at h1
      exact h1
    | succ k =>
      have h2 := ih (i + 1) h.2 k j e (by rw [List.getD_cons_succ] at he; exact he)
      rwa [show i + 1 + k = i + (k + 1) by omega] at h2
theorem okM_at {r : MRec} (h : okM r = true) {pc : Nat} {e : Ent} (he : cof r.2.2.2.2.2.2 pc = some e) : okE r.1 r.2.2.2.1 pc e = true := by
  have h1 := okT_at r.2.2.2.2.2.2 0 h (pc / 16) (pc % 16) e he
  rwa [show 16 * (0 + pc / 16) + pc % 16 = pc by omega] at h1
