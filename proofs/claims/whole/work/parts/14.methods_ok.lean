/-! links of methods, and the methods themselves -/
theorem tb_o1 : Cond.instanceMethod objectInit ∈ lw_good := lw_in 136 (by decide +kernel) rfl
theorem tb_o2 : Cond.code objectInit ⟨#[0xb1]⟩ 1 none ∈ lw_good := lw_in 137 (by decide +kernel) rfl
theorem tb_a1 : Cond.native arraycopyName ∈ lw_good := lw_in 640 (by decide +kernel) rfl
theorem tb_a2 : Cond.static arraycopyName ∈ lw_good := lw_in 639 (by decide +kernel) rfl
theorem tb_a3 : Cond.initialized "java/lang/System" ∈ lw_good := lw_in 127 (by decide +kernel) rfl
def tb_mnm (y : Nat) : MethodName := match y with
  | 0 => objectInit
  | 1 => arraycopyName
  | 2 => Lib.Math.max.name
  | 3 => Lib.Math.min.name
  | y => tb_na y
theorem tb_xmax1 : Cond.static Lib.Math.max.name ∈ lw_good := lw_in 1162 (by decide +kernel) rfl
theorem tb_xmax2 : Cond.code Lib.Math.max.name Lib.Math.max.code 2 (some .int) ∈ lw_good := lw_in 1163 (by decide +kernel) rfl
theorem tb_xmin1 : Cond.static Lib.Math.min.name ∈ lw_good := lw_in 917 (by decide +kernel) rfl
theorem tb_xmin2 : Cond.code Lib.Math.min.name Lib.Math.min.code 2 (some .int) ∈ lw_good := lw_in 918 (by decide +kernel) rfl
theorem tb_xi : Cond.initialized "java/lang/Math" ∈ lw_good := lw_in 128 (by decide +kernel) rfl
def tb_mok1 (e : Nat × Nat × Nat × Nat) : Bool := decide (lw_tbl[e.2.2.2]? = some (Cond.methodLink (tb_nm.getD e.1 "") e.2.1 (tb_mnm e.2.2.1)))
def tb_mp0 : List (Nat × Nat × Nat × Nat) := [(9, 1, 0, 135), (9, 29, 4, 179), (9, 57, 73, 319), (9, 66, 31, 418), (9, 75, 102, 434), (9, 94, 50, 497), (9, 112, 88, 582), (9, 116, 119, 586), (9, 120, 118, 589), (9, 123, 91, 593), (9, 127, 92, 601), (9, 131, 93, 610), (9, 135, 94, 621), (9, 141, 95, 630), (9, 145, 96, 634), (9, 152, 125, 645), (9, 156, 117, 653), (9, 160, 32, 657), (9, 163, 6, 762), (9, 166, 99, 767), (9, 172, 116, 771), (9, 175, 103, 779), (9, 176, 100, 833), (9, 209, 18, 846), (9, 213, 7, 854), (9, 219, 19, 858), (9, 222, 8, 866), (9, 228, 24, 870), (9, 240, 20, 878), (9, 243, 29, 886), (9, 247, 30, 890), (9, 250, 21, 923), (9, 254, 22, 931), (9, 257, 328, 935), (9, 262, 16, 956), (9, 266, 17, 961), (9, 270, 9, 966), (9, 274, 11, 978), (9, 277, 142, 974), (9, 280, 51, 979)]
theorem tb_mp0_ok : tb_mp0.all tb_mok1 = true := by decide +kernel
def tb_mp1 : List (Nat × Nat × Nat × Nat) := [(9, 283, 28, 989), (9, 286, 52, 997), (9, 289, 53, 1006), (9, 292, 10, 1014), (9, 295, 54, 1018), (9, 298, 55, 1026), (9, 301, 56, 1034), (9, 304, 57, 1042), (9, 307, 59, 1058), (9, 310, 60, 1067), (9, 313, 62, 1077), (9, 316, 63, 1089), (9, 319, 61, 1101), (9, 322, 64, 1106), (9, 325, 159, 1114), (9, 328, 12, 1118), (9, 331, 89, 1138), (9, 334, 90, 1139), (9, 337, 23, 1147), (9, 341, 163, 1134), (9, 344, 164, 1143), (9, 347, 65, 1156), (9, 350, 66, 1168), (9, 353, 68, 1184), (9, 356, 69, 1193), (9, 360, 71, 1203), (9, 363, 72, 1211), (9, 366, 174, 1219), (9, 369, 41, 1222), (9, 377, 43, 1238), (0, 3, 0, 182), (0, 37, 5, 183), (0, 65, 1, 766), (0, 71, 11, 912), (0, 75, 8, 1273), (0, 78, 23, 874), (0, 82, 328, 906), (0, 88, 26, 902), (0, 92, 25, 894), (0, 96, 27, 898)]
theorem tb_mp1_ok : tb_mp1.all tb_mok1 = true := by decide +kernel
def tb_mp2 : List (Nat × Nat × Nat × Nat) := [(0, 99, 3, 916), (1, 3, 0, 421), (1, 19, 74, 661), (1, 25, 5, 665), (1, 34, 76, 666), (1, 38, 79, 682), (1, 41, 33, 686), (1, 47, 34, 690), (1, 51, 36, 712), (1, 54, 37, 745), (1, 57, 39, 758), (1, 60, 75, 694), (1, 64, 86, 695), (1, 71, 17, 700), (1, 74, 85, 704), (1, 77, 13, 728), (1, 81, 14, 732), (1, 87, 83, 716), (1, 94, 35, 724), (1, 98, 84, 736), (1, 101, 15, 740), (1, 108, 82, 744), (1, 114, 16, 749), (1, 120, 38, 753), (1, 123, 80, 757), (2, 1, 0, 167), (3, 3, 0, 459), (3, 50, 44, 1243), (3, 54, 45, 1247), (3, 67, 47, 1251), (3, 76, 48, 1258), (3, 80, 21, 1263), (3, 84, 46, 1264), (3, 88, 22, 1268), (3, 91, 341, 1269), (3, 95, 49, 1274), (3, 99, 29, 1255), (3, 103, 30, 1256), (3, 107, 328, 1257), (3, 120, 11, 1277)]
theorem tb_mp2_ok : tb_mp2.all tb_mok1 = true := by decide +kernel
def tb_mp3 : List (Nat × Nat × Nat × Nat) := [(3, 126, 8, 1278), (4, 3, 0, 500), (4, 22, 25, 983), (4, 35, 26, 984), (4, 39, 27, 1001), (4, 43, 58, 1046), (4, 47, 328, 1049), (4, 53, 28, 1062), (4, 56, 11, 1071), (4, 60, 59, 1072), (4, 66, 61, 1093), (4, 69, 23, 1160), (4, 72, 2, 1161), (4, 77, 67, 1172), (4, 83, 20, 1188), (4, 86, 70, 1197), (4, 90, 3, 1201), (4, 93, 1, 1202), (5, 3, 0, 322), (5, 28, 329, 324), (5, 34, 330, 334), (5, 61, 77, 670), (5, 64, 78, 674), (5, 68, 75, 678), (5, 72, 76, 699), (5, 75, 80, 720), (5, 78, 82, 708), (6, 3, 0, 143), (6, 27, 88, 605), (6, 31, 89, 606), (6, 34, 97, 614), (6, 38, 1, 638), (7, 5, 0, 269), (7, 41, 1, 837), (8, 3, 0, 437), (8, 27, 74, 783), (8, 33, 99, 784), (8, 46, 76, 785), (8, 50, 79, 786), (8, 53, 75, 787)]
theorem tb_mp3_ok : tb_mp3.all tb_mok1 = true := by decide +kernel
def tb_mp4 : List (Nat × Nat × Nat × Nat) := [(8, 63, 104, 788), (8, 66, 105, 796), (8, 69, 107, 800), (8, 72, 106, 828), (8, 76, 85, 832), (8, 79, 101, 792), (8, 89, 108, 810), (8, 92, 109, 804), (8, 95, 111, 823), (8, 102, 110, 815), (8, 105, 83, 808), (8, 112, 13, 814), (8, 121, 14, 809), (8, 130, 81, 819), (8, 133, 86, 827), (11, 9, 112, 132), (11, 12, 182, 1297), (11, 13, 113, 566), (11, 17, 184, 1417), (11, 18, 114, 570), (11, 22, 185, 1421), (11, 23, 115, 574), (11, 26, 186, 1425), (11, 27, 120, 578), (11, 31, 194, 1429), (11, 34, 121, 597), (11, 38, 196, 1440), (11, 39, 122, 617), (11, 43, 197, 1451), (11, 44, 123, 626), (11, 48, 198, 1456), (11, 49, 124, 641), (11, 53, 200, 1460), (11, 54, 126, 649), (11, 58, 228, 1472), (11, 59, 127, 775), (11, 62, 234, 1586), (11, 63, 128, 838), (11, 66, 216, 1468), (11, 67, 129, 842)]
theorem tb_mp4_ok : tb_mp4.all tb_mok1 = true := by decide +kernel
def tb_mp5 : List (Nat × Nat × Nat × Nat) := [(11, 70, 251, 1610), (11, 71, 130, 850), (11, 75, 253, 1630), (11, 76, 131, 862), (11, 79, 254, 1646), (11, 80, 132, 882), (11, 83, 259, 1675), (11, 84, 133, 919), (11, 88, 261, 1694), (11, 89, 134, 927), (11, 92, 263, 1702), (11, 93, 135, 936), (11, 97, 265, 1710), (11, 98, 136, 940), (11, 102, 266, 1722), (11, 103, 137, 944), (11, 106, 267, 1726), (11, 107, 138, 948), (11, 110, 268, 1730), (11, 111, 139, 952), (11, 114, 269, 1735), (11, 115, 140, 957), (11, 118, 270, 1739), (11, 119, 141, 962), (11, 122, 271, 1745), (11, 123, 143, 970), (11, 126, 272, 1757), (11, 127, 144, 985), (11, 130, 273, 1765), (11, 131, 145, 993), (11, 134, 274, 1769), (11, 135, 146, 1002), (11, 138, 275, 1773), (11, 139, 147, 1010), (11, 142, 277, 1777), (11, 143, 148, 1022), (11, 146, 278, 1789), (11, 147, 149, 1030), (11, 150, 279, 1793), (11, 151, 150, 1038)]
theorem tb_mp5_ok : tb_mp5.all tb_mok1 = true := by decide +kernel
def tb_mp6 : List (Nat × Nat × Nat × Nat) := [(11, 154, 281, 1797), (11, 155, 151, 1050), (11, 158, 282, 1805), (11, 159, 152, 1054), (11, 162, 284, 1809), (11, 163, 153, 1063), (11, 166, 285, 1817), (11, 167, 154, 1073), (11, 170, 287, 1825), (11, 171, 155, 1081), (11, 174, 288, 1833), (11, 175, 156, 1085), (11, 178, 290, 1837), (11, 179, 157, 1097), (11, 182, 291, 1845), (11, 183, 158, 1102), (11, 186, 292, 1849), (11, 187, 160, 1110), (11, 190, 296, 1853), (11, 191, 161, 1122), (11, 194, 297, 1870), (11, 195, 162, 1126), (11, 198, 298, 1874), (11, 199, 165, 1130), (11, 203, 302, 1878), (11, 204, 166, 1148), (11, 208, 303, 1895), (11, 209, 167, 1152), (11, 212, 304, 1899), (11, 213, 168, 1164), (11, 216, 306, 1903), (11, 217, 169, 1176), (11, 220, 307, 1911), (11, 221, 170, 1180), (11, 224, 308, 1915), (11, 225, 171, 1189), (11, 228, 311, 1919), (11, 229, 172, 1207), (11, 232, 312, 1931), (11, 233, 173, 1215)]
theorem tb_mp6_ok : tb_mp6.all tb_mok1 = true := by decide +kernel
def tb_mp7 : List (Nat × Nat × Nat × Nat) := [(11, 236, 313, 1935), (11, 237, 175, 1226), (11, 241, 314, 1944), (11, 242, 176, 1230), (11, 245, 315, 1948), (11, 246, 177, 1234), (11, 249, 322, 1952), (11, 250, 178, 1279), (11, 253, 323, 1982), (11, 254, 179, 1283), (11, 257, 324, 1986), (11, 258, 180, 1287), (11, 261, 326, 1990), (11, 262, 181, 1291), (11, 265, 327, 1998), (10, 1, 0, 1300), (10, 68, 183, 1301), (10, 78, 188, 1496), (10, 82, 189, 1582), (10, 85, 187, 1436), (10, 89, 192, 1433), (10, 92, 195, 1444), (10, 96, 193, 1448), (10, 105, 201, 1464), (10, 114, 202, 1484), (10, 126, 203, 1488), (10, 129, 204, 1491), (10, 133, 3, 1495), (10, 138, 329, 1509), (10, 144, 330, 1510), (10, 154, 205, 1480), (10, 157, 206, 1574), (10, 160, 208, 1511), (10, 163, 207, 1505), (10, 167, 214, 1535), (10, 173, 213, 1527), (10, 177, 215, 1531), (10, 180, 220, 1523), (10, 184, 211, 1539), (10, 188, 212, 1515)]
theorem tb_mp7_ok : tb_mp7.all tb_mok1 = true := by decide +kernel
def tb_mp8 : List (Nat × Nat × Nat × Nat) := [(10, 191, 219, 1543), (10, 194, 218, 1551), (10, 197, 223, 1554), (10, 200, 221, 1566), (10, 203, 225, 1562), (10, 209, 222, 1519), (10, 213, 224, 1547), (10, 216, 226, 1558), (10, 219, 210, 1570), (10, 222, 209, 1476), (10, 226, 227, 1500), (10, 229, 217, 1578), (10, 232, 230, 1598), (10, 235, 229, 1602), (10, 238, 231, 1606), (10, 247, 232, 1594), (10, 250, 233, 1590), (10, 253, 237, 1753), (10, 256, 199, 1715), (10, 260, 238, 1618), (10, 263, 241, 1642), (10, 266, 243, 1626), (10, 269, 246, 1667), (10, 272, 248, 1658), (10, 275, 2, 1662), (10, 278, 244, 1614), (10, 281, 250, 1622), (10, 284, 235, 1634), (10, 287, 252, 1638), (10, 290, 236, 1650), (10, 293, 249, 1654), (10, 296, 245, 1663), (10, 299, 247, 1671), (10, 305, 242, 1691), (10, 308, 255, 1687), (10, 312, 256, 1683), (10, 315, 258, 1679), (10, 318, 260, 1698), (10, 321, 262, 1706), (10, 326, 264, 1718)]
theorem tb_mp8_ok : tb_mp8.all tb_mok1 = true := by decide +kernel
def tb_mp9 : List (Nat × Nat × Nat × Nat) := [(10, 335, 239, 1749), (10, 339, 257, 1761), (10, 342, 240, 1781), (10, 345, 276, 1785), (10, 348, 280, 1801), (10, 351, 283, 1813), (10, 354, 190, 1821), (10, 357, 286, 1829), (10, 360, 289, 1841), (10, 365, 293, 1858), (10, 368, 295, 1862), (10, 371, 294, 1866), (10, 376, 300, 1891), (10, 380, 299, 1882), (10, 384, 301, 1887), (10, 387, 305, 1907), (10, 393, 309, 1927), (10, 397, 310, 1923), (10, 402, 191, 1940), (10, 410, 317, 1965), (10, 413, 316, 1969), (10, 419, 318, 1961), (10, 422, 319, 1974), (10, 425, 320, 1978), (10, 430, 321, 1957), (10, 440, 325, 1994), (14, 335, 331, 328), (14, 492, 332, 338), (14, 495, 334, 342), (14, 498, 337, 353), (14, 1059, 339, 350), (15, 9, 333, 345), (16, 48, 336, 359), (16, 67, 338, 356), (16, 71, 335, 363), (16, 414, 333, 362)]
theorem tb_mp9_ok : tb_mp9.all tb_mok1 = true := by decide +kernel
def tb_mp : List (Nat × Nat × Nat × Nat) := tb_mp0 ++ tb_mp1 ++ tb_mp2 ++ tb_mp3 ++ tb_mp4 ++ tb_mp5 ++ tb_mp6 ++ tb_mp7 ++ tb_mp8 ++ tb_mp9
theorem tb_mp_ok : ∀ e ∈ tb_mp, tb_mok1 e = true := by
  intro e h
  unfold tb_mp at h
  simp only [List.mem_append] at h
  rcases h with (((((((((h | h) | h) | h) | h) | h) | h) | h) | h) | h)
  · exact List.all_eq_true.mp tb_mp0_ok e h
  · exact List.all_eq_true.mp tb_mp1_ok e h
  · exact List.all_eq_true.mp tb_mp2_ok e h
  · exact List.all_eq_true.mp tb_mp3_ok e h
  · exact List.all_eq_true.mp tb_mp4_ok e h
  · exact List.all_eq_true.mp tb_mp5_ok e h
  · exact List.all_eq_true.mp tb_mp6_ok e h
  · exact List.all_eq_true.mp tb_mp7_ok e h
  · exact List.all_eq_true.mp tb_mp8_ok e h
  · exact List.all_eq_true.mp tb_mp9_ok e h
def tb_np : List (Nat × Nat × Nat) := [(9, 15, 87), (9, 22, 40), (9, 36, 98), (9, 84, 42)]
theorem tb_np_ok : ∀ e ∈ tb_np, am_lnk TT e.1 e.2.1 e.2.2 := List.forall_mem_cons.mpr ⟨Or.inr ⟨rfl, "IslandCall", List.mem_of_getElem? (i := 0) rfl⟩, List.forall_mem_cons.mpr ⟨Or.inr ⟨rfl, "IslandCall", List.mem_of_getElem? (i := 1) rfl⟩, List.forall_mem_cons.mpr ⟨Or.inr ⟨rfl, "IslandCall", List.mem_of_getElem? (i := 2) rfl⟩, List.forall_mem_cons.mpr ⟨Or.inr ⟨rfl, "IslandCall", List.mem_of_getElem? (i := 3) rfl⟩, fun _ h => absurd h List.not_mem_nil⟩⟩⟩⟩
theorem tb_mcov : (List.range 19).all (fun own => (tb_ms.getD own []).all fun e => (tb_mp.any fun x => Nat.beq x.1 own && Nat.beq x.2.1 e.1 && Nat.beq x.2.2.1 e.2) || tb_np.any fun x => Nat.beq x.1 own && Nat.beq x.2.1 e.1 && Nat.beq x.2.2 e.2) = true := by decide +kernel
theorem tb_g6 (own k y : Nat) (h : pMth PP own k = some y) : am_lnk TT own k y := by
  obtain ⟨h1, h2⟩ := tb_look (t := tb_ms) h
  have h3 := List.all_eq_true.mp (List.all_eq_true.mp tb_mcov own (List.mem_range.mpr h1)) _ h2
  simp only [Bool.or_eq_true] at h3
  rcases h3 with h3 | h3
  · obtain ⟨x, hx, hb⟩ := List.any_eq_true.mp h3
    simp only [Bool.and_eq_true] at hb
    obtain ⟨⟨b1, b2⟩, b3⟩ := hb
    obtain ⟨x1, x2, x3, x4⟩ := x
    have e1 : x1 = own := Nat.eq_of_beq_eq_true b1
    have e2 : x2 = k := Nat.eq_of_beq_eq_true b2
    have e3 : x3 = y := Nat.eq_of_beq_eq_true b3
    subst e1; subst e2; subst e3
    have h4 : lw_tbl[x4]? = some (Cond.methodLink (tb_nm.getD x1 "") x2 (tb_mnm x3)) := of_decide_eq_true (tb_mp_ok _ hx)
    have h5 := lw_in _ h4 rfl
    match x3, h5 with
    | 0, h5 => exact ⟨h5, tb_o1, tb_o2⟩
    | 1, h5 => exact ⟨h5, tb_a1, tb_a2, tb_a3⟩
    | 2, h5 => exact ⟨h5, tb_xmax1, tb_xi, tb_xmax2⟩
    | 3, h5 => exact ⟨h5, tb_xmin1, tb_xi, tb_xmin2⟩
    | n + 4, h5 => exact Or.inl h5
  · obtain ⟨x, hx, hb⟩ := List.any_eq_true.mp h3
    simp only [Bool.and_eq_true] at hb
    obtain ⟨⟨b1, b2⟩, b3⟩ := hb
    obtain ⟨x1, x2, x3⟩ := x
    have e1 : x1 = own := Nat.eq_of_beq_eq_true b1
    have e2 : x2 = k := Nat.eq_of_beq_eq_true b2
    have e3 : x3 = y := Nat.eq_of_beq_eq_true b3
    subst e1; subst e2; subst e3
    exact tb_np_ok _ hx
theorem lw_i1 {w : Cond} (i : Nat) (h : tables_1_1[i]? = some w) (g : goodWord w = true) : w ∈ lw_good := List.mem_filter.mpr ⟨List.mem_append_right _ (show w ∈ tables_1 from (List.mem_append_left _ (List.mem_of_getElem? h))), g⟩
theorem lw_i2 {w : Cond} (i : Nat) (h : tables_1_2[i]? = some w) (g : goodWord w = true) : w ∈ lw_good := List.mem_filter.mpr ⟨List.mem_append_right _ (show w ∈ tables_1 from (List.mem_append_right _ (List.mem_append_left _ (List.mem_of_getElem? h)))), g⟩
theorem lw_i3 {w : Cond} (i : Nat) (h : tables_1_3[i]? = some w) (g : goodWord w = true) : w ∈ lw_good := List.mem_filter.mpr ⟨List.mem_append_right _ (show w ∈ tables_1 from (List.mem_append_right _ (List.mem_append_right _ (List.mem_append_left _ (List.mem_of_getElem? h))))), g⟩
theorem lw_i4 {w : Cond} (i : Nat) (h : tables_1_4[i]? = some w) (g : goodWord w = true) : w ∈ lw_good := List.mem_filter.mpr ⟨List.mem_append_right _ (show w ∈ tables_1 from (List.mem_append_right _ (List.mem_append_right _ (List.mem_append_right _ (List.mem_append_left _ (List.mem_of_getElem? h)))))), g⟩
theorem lw_i5 {w : Cond} (i : Nat) (h : tables_1_5[i]? = some w) (g : goodWord w = true) : w ∈ lw_good := List.mem_filter.mpr ⟨List.mem_append_right _ (show w ∈ tables_1 from (List.mem_append_right _ (List.mem_append_right _ (List.mem_append_right _ (List.mem_append_right _ (List.mem_append_left _ (List.mem_of_getElem? h))))))), g⟩
theorem lw_i6 {w : Cond} (i : Nat) (h : tables_1_6[i]? = some w) (g : goodWord w = true) : w ∈ lw_good := List.mem_filter.mpr ⟨List.mem_append_right _ (show w ∈ tables_1 from (List.mem_append_right _ (List.mem_append_right _ (List.mem_append_right _ (List.mem_append_right _ (List.mem_append_right _ (List.mem_append_left _ (List.mem_of_getElem? h)))))))), g⟩
theorem lw_i7 {w : Cond} (i : Nat) (h : tables_1_7[i]? = some w) (g : goodWord w = true) : w ∈ lw_good := List.mem_filter.mpr ⟨List.mem_append_right _ (show w ∈ tables_1 from (List.mem_append_right _ (List.mem_append_right _ (List.mem_append_right _ (List.mem_append_right _ (List.mem_append_right _ (List.mem_append_right _ (List.mem_append_left _ (List.mem_of_getElem? h))))))))), g⟩
theorem lw_i8 {w : Cond} (i : Nat) (h : tables_1_8[i]? = some w) (g : goodWord w = true) : w ∈ lw_good := List.mem_filter.mpr ⟨List.mem_append_right _ (show w ∈ tables_1 from (List.mem_append_right _ (List.mem_append_right _ (List.mem_append_right _ (List.mem_append_right _ (List.mem_append_right _ (List.mem_append_right _ (List.mem_append_right _ (List.mem_of_getElem? h))))))))), g⟩
theorem lw_ip {w : Cond} (i : Nat) (h : (k2_sels lw_privs)[i]? = some w) (g : goodWord w = true) : w ∈ lw_good := List.mem_filter.mpr ⟨List.mem_append_left _ (List.mem_of_getElem? h), g⟩
theorem cn_9 : plainName (tb_nm.getD 9 "") = true := by decide +kernel
theorem cm_9 : tb_nm.getD 9 "" ≠ "java/lang/invoke/MethodHandle" := by decide +kernel
theorem cv_9 : tb_nm.getD 9 "" ≠ "java/lang/invoke/VarHandle" := by decide +kernel
theorem ci_9 : Cond.initialized (tb_nm.getD 9 "") ∈ lw_good := lw_i1 1 rfl rfl
theorem cn_0 : plainName (tb_nm.getD 0 "") = true := by decide +kernel
theorem cm_0 : tb_nm.getD 0 "" ≠ "java/lang/invoke/MethodHandle" := by decide +kernel
theorem cv_0 : tb_nm.getD 0 "" ≠ "java/lang/invoke/VarHandle" := by decide +kernel
theorem ci_0 : Cond.initialized (tb_nm.getD 0 "") ∈ lw_good := lw_i1 4 rfl rfl
theorem cn_1 : plainName (tb_nm.getD 1 "") = true := by decide +kernel
theorem cm_1 : tb_nm.getD 1 "" ≠ "java/lang/invoke/MethodHandle" := by decide +kernel
theorem cv_1 : tb_nm.getD 1 "" ≠ "java/lang/invoke/VarHandle" := by decide +kernel
theorem ci_1 : Cond.initialized (tb_nm.getD 1 "") ∈ lw_good := lw_i1 11 rfl rfl
theorem cn_2 : plainName (tb_nm.getD 2 "") = true := by decide +kernel
theorem cm_2 : tb_nm.getD 2 "" ≠ "java/lang/invoke/MethodHandle" := by decide +kernel
theorem cv_2 : tb_nm.getD 2 "" ≠ "java/lang/invoke/VarHandle" := by decide +kernel
theorem ci_2 : Cond.initialized (tb_nm.getD 2 "") ∈ lw_good := lw_i1 3 rfl rfl
theorem cn_3 : plainName (tb_nm.getD 3 "") = true := by decide +kernel
theorem cm_3 : tb_nm.getD 3 "" ≠ "java/lang/invoke/MethodHandle" := by decide +kernel
theorem cv_3 : tb_nm.getD 3 "" ≠ "java/lang/invoke/VarHandle" := by decide +kernel
theorem ci_3 : Cond.initialized (tb_nm.getD 3 "") ∈ lw_good := lw_i1 13 rfl rfl
theorem cn_4 : plainName (tb_nm.getD 4 "") = true := by decide +kernel
theorem cm_4 : tb_nm.getD 4 "" ≠ "java/lang/invoke/MethodHandle" := by decide +kernel
theorem cv_4 : tb_nm.getD 4 "" ≠ "java/lang/invoke/VarHandle" := by decide +kernel
theorem ci_4 : Cond.initialized (tb_nm.getD 4 "") ∈ lw_good := lw_i1 14 rfl rfl
theorem cn_5 : plainName (tb_nm.getD 5 "") = true := by decide +kernel
theorem cm_5 : tb_nm.getD 5 "" ≠ "java/lang/invoke/MethodHandle" := by decide +kernel
theorem cv_5 : tb_nm.getD 5 "" ≠ "java/lang/invoke/VarHandle" := by decide +kernel
theorem ci_5 : Cond.initialized (tb_nm.getD 5 "") ∈ lw_good := lw_i1 6 rfl rfl
theorem cn_6 : plainName (tb_nm.getD 6 "") = true := by decide +kernel
theorem cm_6 : tb_nm.getD 6 "" ≠ "java/lang/invoke/MethodHandle" := by decide +kernel
theorem cv_6 : tb_nm.getD 6 "" ≠ "java/lang/invoke/VarHandle" := by decide +kernel
theorem ci_6 : Cond.initialized (tb_nm.getD 6 "") ∈ lw_good := lw_i1 2 rfl rfl
theorem cn_7 : plainName (tb_nm.getD 7 "") = true := by decide +kernel
theorem cm_7 : tb_nm.getD 7 "" ≠ "java/lang/invoke/MethodHandle" := by decide +kernel
theorem cv_7 : tb_nm.getD 7 "" ≠ "java/lang/invoke/VarHandle" := by decide +kernel
theorem ci_7 : Cond.initialized (tb_nm.getD 7 "") ∈ lw_good := lw_i1 5 rfl rfl
theorem cn_8 : plainName (tb_nm.getD 8 "") = true := by decide +kernel
theorem cm_8 : tb_nm.getD 8 "" ≠ "java/lang/invoke/MethodHandle" := by decide +kernel
theorem cv_8 : tb_nm.getD 8 "" ≠ "java/lang/invoke/VarHandle" := by decide +kernel
theorem ci_8 : Cond.initialized (tb_nm.getD 8 "") ∈ lw_good := lw_i1 12 rfl rfl
theorem cn_10 : plainName (tb_nm.getD 10 "") = true := by decide +kernel
theorem cm_10 : tb_nm.getD 10 "" ≠ "java/lang/invoke/MethodHandle" := by decide +kernel
theorem cv_10 : tb_nm.getD 10 "" ≠ "java/lang/invoke/VarHandle" := by decide +kernel
theorem ci_10 : Cond.initialized (tb_nm.getD 10 "") ∈ lw_good := lw_i1 15 rfl rfl
theorem cn_12 : plainName (tb_nm.getD 12 "") = true := by decide +kernel
theorem cm_12 : tb_nm.getD 12 "" ≠ "java/lang/invoke/MethodHandle" := by decide +kernel
theorem cv_12 : tb_nm.getD 12 "" ≠ "java/lang/invoke/VarHandle" := by decide +kernel
theorem ci_12 : Cond.initialized (tb_nm.getD 12 "") ∈ lw_good := lw_i1 18 rfl rfl
theorem cn_14 : plainName (tb_nm.getD 14 "") = true := by decide +kernel
theorem cm_14 : tb_nm.getD 14 "" ≠ "java/lang/invoke/MethodHandle" := by decide +kernel
theorem cv_14 : tb_nm.getD 14 "" ≠ "java/lang/invoke/VarHandle" := by decide +kernel
theorem ci_14 : Cond.initialized (tb_nm.getD 14 "") ∈ lw_good := lw_i1 7 rfl rfl
theorem cn_15 : plainName (tb_nm.getD 15 "") = true := by decide +kernel
theorem cm_15 : tb_nm.getD 15 "" ≠ "java/lang/invoke/MethodHandle" := by decide +kernel
theorem cv_15 : tb_nm.getD 15 "" ≠ "java/lang/invoke/VarHandle" := by decide +kernel
theorem ci_15 : Cond.initialized (tb_nm.getD 15 "") ∈ lw_good := lw_i1 8 rfl rfl
theorem cn_16 : plainName (tb_nm.getD 16 "") = true := by decide +kernel
theorem cm_16 : tb_nm.getD 16 "" ≠ "java/lang/invoke/MethodHandle" := by decide +kernel
theorem cv_16 : tb_nm.getD 16 "" ≠ "java/lang/invoke/VarHandle" := by decide +kernel
theorem ci_16 : Cond.initialized (tb_nm.getD 16 "") ∈ lw_good := lw_i1 10 rfl rfl
theorem cn_18 : plainName (tb_nm.getD 18 "") = true := by decide +kernel
theorem cm_18 : tb_nm.getD 18 "" ≠ "java/lang/invoke/MethodHandle" := by decide +kernel
theorem cv_18 : tb_nm.getD 18 "" ≠ "java/lang/invoke/VarHandle" := by decide +kernel
theorem ci_18 : Cond.initialized (tb_nm.getD 18 "") ∈ lw_good := lw_i1 9 rfl rfl
theorem pd_0 : (parseMethodDescriptor "()B").map (fun d => d.parameters.length) = some 0 := by decide +kernel
theorem pd_1 : (parseMethodDescriptor "()I").map (fun d => d.parameters.length) = some 0 := by decide +kernel
theorem pd_2 : (parseMethodDescriptor "()J").map (fun d => d.parameters.length) = some 0 := by decide +kernel
theorem pd_3 : (parseMethodDescriptor "()V").map (fun d => d.parameters.length) = some 0 := by decide +kernel
theorem pd_4 : (parseMethodDescriptor "()Z").map (fun d => d.parameters.length) = some 0 := by decide +kernel
theorem pd_5 : (parseMethodDescriptor "(I)C").map (fun d => d.parameters.length) = some 1 := by decide +kernel
theorem pd_6 : (parseMethodDescriptor "(I)I").map (fun d => d.parameters.length) = some 1 := by decide +kernel
theorem pd_7 : (parseMethodDescriptor "(I)V").map (fun d => d.parameters.length) = some 1 := by decide +kernel
theorem pd_8 : (parseMethodDescriptor "(I)Z").map (fun d => d.parameters.length) = some 1 := by decide +kernel
theorem pd_9 : (parseMethodDescriptor "(II)I").map (fun d => d.parameters.length) = some 2 := by decide +kernel
theorem pd_10 : (parseMethodDescriptor "(II)J").map (fun d => d.parameters.length) = some 2 := by decide +kernel
theorem pd_11 : (parseMethodDescriptor "(II)V").map (fun d => d.parameters.length) = some 2 := by decide +kernel
theorem pd_12 : (parseMethodDescriptor "(II)Z").map (fun d => d.parameters.length) = some 2 := by decide +kernel
theorem pd_13 : (parseMethodDescriptor "(III)I").map (fun d => d.parameters.length) = some 3 := by decide +kernel
theorem pd_14 : (parseMethodDescriptor "(III)V").map (fun d => d.parameters.length) = some 3 := by decide +kernel
theorem pd_15 : (parseMethodDescriptor "(III)Z").map (fun d => d.parameters.length) = some 3 := by decide +kernel
theorem pd_16 : (parseMethodDescriptor "(IIII)I").map (fun d => d.parameters.length) = some 4 := by decide +kernel
theorem pd_17 : (parseMethodDescriptor "(IIII)Z").map (fun d => d.parameters.length) = some 4 := by decide +kernel
theorem pd_18 : (parseMethodDescriptor "(IIIII)I").map (fun d => d.parameters.length) = some 5 := by decide +kernel
theorem pd_19 : (parseMethodDescriptor "(IIIII)V").map (fun d => d.parameters.length) = some 5 := by decide +kernel
theorem pd_20 : (parseMethodDescriptor "(IIIII)Z").map (fun d => d.parameters.length) = some 5 := by decide +kernel
theorem pd_21 : (parseMethodDescriptor "(IIJ)V").map (fun d => d.parameters.length) = some 3 := by decide +kernel
theorem pd_22 : (parseMethodDescriptor "(IIJ)Z").map (fun d => d.parameters.length) = some 3 := by decide +kernel
theorem pd_23 : (parseMethodDescriptor "(IILjava/util/function/BiFunction;)I").map (fun d => d.parameters.length) = some 3 := by decide +kernel
theorem pd_24 : (parseMethodDescriptor "(IIZ)Z").map (fun d => d.parameters.length) = some 3 := by decide +kernel
theorem pd_25 : (parseMethodDescriptor "(IZ)I").map (fun d => d.parameters.length) = some 2 := by decide +kernel
theorem pd_26 : (parseMethodDescriptor "(IZ)Z").map (fun d => d.parameters.length) = some 2 := by decide +kernel
theorem pd_27 : (parseMethodDescriptor "(I[B)V").map (fun d => d.parameters.length) = some 2 := by decide +kernel
theorem pd_28 : (parseMethodDescriptor "(J)I").map (fun d => d.parameters.length) = some 1 := by decide +kernel
theorem pd_29 : (parseMethodDescriptor "(J)Z").map (fun d => d.parameters.length) = some 1 := by decide +kernel
theorem pd_30 : (parseMethodDescriptor "(JI)I").map (fun d => d.parameters.length) = some 2 := by decide +kernel
theorem pd_31 : (parseMethodDescriptor "(JI)J").map (fun d => d.parameters.length) = some 2 := by decide +kernel
theorem pd_32 : (parseMethodDescriptor "(JJ)V").map (fun d => d.parameters.length) = some 2 := by decide +kernel
theorem pd_33 : (parseMethodDescriptor "(JJ)Z").map (fun d => d.parameters.length) = some 2 := by decide +kernel
theorem pd_34 : (parseMethodDescriptor "(JJJ)Z").map (fun d => d.parameters.length) = some 3 := by decide +kernel
theorem pd_35 : (parseMethodDescriptor "(LIslandCall$Boat;)V").map (fun d => d.parameters.length) = some 1 := by decide +kernel
theorem pd_36 : (parseMethodDescriptor "(LIslandCall$Boat;LIslandCall$Years;I)I").map (fun d => d.parameters.length) = some 3 := by decide +kernel
theorem pd_37 : (parseMethodDescriptor "(LIslandCall$Boat;LIslandCall$Years;I)V").map (fun d => d.parameters.length) = some 3 := by decide +kernel
theorem pd_38 : (parseMethodDescriptor "(LIslandCall$Boat;LIslandCall$Years;I)Z").map (fun d => d.parameters.length) = some 3 := by decide +kernel
theorem pd_39 : (parseMethodDescriptor "(LIslandCall$Boat;Z)V").map (fun d => d.parameters.length) = some 2 := by decide +kernel
theorem pd_40 : (parseMethodDescriptor "(LIslandCall$Tokens;LIslandCall$Boat;)V").map (fun d => d.parameters.length) = some 2 := by decide +kernel
theorem pd_41 : (parseMethodDescriptor "(LIslandCall$Tokens;LIslandCall$Years;LIslandCall$Boat;)V").map (fun d => d.parameters.length) = some 3 := by decide +kernel
theorem pd_42 : (parseMethodDescriptor "(LIslandCall$Years;)V").map (fun d => d.parameters.length) = some 1 := by decide +kernel
theorem pd_43 : (parseMethodDescriptor "(LIslandCall$Years;I)I").map (fun d => d.parameters.length) = some 2 := by decide +kernel
theorem pd_44 : (parseMethodDescriptor "(Ljava/lang/String;)I").map (fun d => d.parameters.length) = some 1 := by decide +kernel
theorem pd_45 : (parseMethodDescriptor "(Ljava/lang/String;)Z").map (fun d => d.parameters.length) = some 1 := by decide +kernel
theorem pd_46 : (parseMethodDescriptor "(Ljava/lang/String;I)Z").map (fun d => d.parameters.length) = some 2 := by decide +kernel
theorem pd_47 : (parseMethodDescriptor "(Z)V").map (fun d => d.parameters.length) = some 1 := by decide +kernel
theorem pd_48 : (parseMethodDescriptor "([B)I").map (fun d => d.parameters.length) = some 1 := by decide +kernel
theorem pd_49 : (parseMethodDescriptor "([BI)C").map (fun d => d.parameters.length) = some 2 := by decide +kernel
theorem pd_50 : (parseMethodDescriptor "([I)V").map (fun d => d.parameters.length) = some 1 := by decide +kernel
theorem pd_51 : (parseMethodDescriptor "([I)Z").map (fun d => d.parameters.length) = some 1 := by decide +kernel
theorem mk_4 : am_mok TT 4 := ⟨lw_i1 70 rfl rfl, ci_0, rfl, by decide, cn_0, ⟨cm_0, cv_0, pd_3⟩, ⟨by decide, lw_i1 69 rfl rfl, rfl, rfl⟩⟩
theorem mk_5 : am_mok TT 5 := ⟨lw_i1 75 rfl rfl, ci_0, rfl, by decide, cn_0, ⟨cm_0, cv_0, pd_3⟩, ⟨by decide, lw_i1 73 rfl rfl, lw_i1 74 rfl rfl⟩⟩
theorem mk_6 : am_mok TT 6 := ⟨lw_i3 174 rfl rfl, ci_0, rfl, by decide, cn_0, ⟨cm_0, cv_0, pd_35⟩, ⟨by decide, lw_i3 172 rfl rfl, lw_i3 173 rfl rfl⟩⟩
theorem mk_7 : am_mok TT 7 := ⟨lw_i4 26 rfl rfl, ci_0, rfl, by decide, cn_0, ⟨cm_0, cv_0, pd_8⟩, ⟨by decide, lw_i4 24 rfl rfl, lw_i4 25 rfl rfl⟩⟩
theorem mk_8 : am_mok TT 8 := ⟨lw_i4 38 rfl rfl, ci_0, rfl, by decide, cn_0, ⟨cm_0, cv_0, pd_8⟩, ⟨by decide, lw_i4 36 rfl rfl, lw_i4 37 rfl rfl⟩⟩
theorem mk_9 : am_mok TT 9 := ⟨lw_i4 138 rfl rfl, ci_0, rfl, by decide, cn_0, ⟨cm_0, cv_0, pd_29⟩, ⟨by decide, lw_i4 136 rfl rfl, lw_i4 137 rfl rfl⟩⟩
theorem mk_10 : am_mok TT 10 := ⟨lw_i4 186 rfl rfl, ci_0, rfl, by decide, cn_0, ⟨cm_0, cv_0, pd_29⟩, ⟨by decide, lw_i4 184 rfl rfl, lw_i4 185 rfl rfl⟩⟩
theorem mk_11 : am_mok TT 11 := ⟨lw_i4 84 rfl rfl, ci_0, rfl, by decide, cn_0, ⟨cm_0, cv_0, pd_8⟩, ⟨by decide, lw_i4 82 rfl rfl, lw_i4 83 rfl rfl⟩⟩
theorem mk_12 : am_mok TT 12 := ⟨lw_i5 50 rfl rfl, ci_0, rfl, by decide, cn_0, ⟨cm_0, cv_0, pd_1⟩, ⟨by decide, lw_i5 48 rfl rfl, lw_i5 49 rfl rfl⟩⟩
theorem mk_13 : am_mok TT 13 := ⟨lw_i3 140 rfl rfl, ci_0, rfl, by decide, cn_0, ⟨cm_0, cv_0, pd_28⟩, ⟨by decide, lw_i3 138 rfl rfl, lw_i3 139 rfl rfl⟩⟩
theorem mk_14 : am_mok TT 14 := ⟨lw_i3 144 rfl rfl, ci_0, rfl, by decide, cn_0, ⟨cm_0, cv_0, pd_28⟩, ⟨by decide, lw_i3 142 rfl rfl, lw_i3 143 rfl rfl⟩⟩
theorem mk_15 : am_mok TT 15 := ⟨lw_i3 152 rfl rfl, ci_0, rfl, by decide, cn_0, ⟨cm_0, cv_0, pd_30⟩, ⟨by decide, lw_i3 150 rfl rfl, lw_i3 151 rfl rfl⟩⟩
theorem mk_16 : am_mok TT 16 := ⟨lw_i3 161 rfl rfl, ci_0, rfl, by decide, cn_0, ⟨cm_0, cv_0, pd_30⟩, ⟨by decide, lw_i3 159 rfl rfl, lw_i3 160 rfl rfl⟩⟩
theorem mk_17 : am_mok TT 17 := ⟨lw_i3 112 rfl rfl, ci_0, rfl, by decide, cn_0, ⟨cm_0, cv_0, pd_12⟩, ⟨by decide, lw_i3 110 rfl rfl, lw_i3 111 rfl rfl⟩⟩
theorem mk_18 : am_mok TT 18 := ⟨lw_i4 18 rfl rfl, ci_0, rfl, by decide, cn_0, ⟨cm_0, cv_0, pd_1⟩, ⟨by decide, lw_i4 16 rfl rfl, lw_i4 17 rfl rfl⟩⟩
theorem mk_19 : am_mok TT 19 := ⟨lw_i4 30 rfl rfl, ci_0, rfl, by decide, cn_0, ⟨cm_0, cv_0, pd_6⟩, ⟨by decide, lw_i4 28 rfl rfl, lw_i4 29 rfl rfl⟩⟩
theorem mk_20 : am_mok TT 20 := ⟨lw_i4 50 rfl rfl, ci_0, rfl, by decide, cn_0, ⟨cm_0, cv_0, pd_6⟩, ⟨by decide, lw_i4 48 rfl rfl, lw_i4 49 rfl rfl⟩⟩
theorem mk_21 : am_mok TT 21 := ⟨lw_i4 95 rfl rfl, ci_0, rfl, by decide, cn_0, ⟨cm_0, cv_0, pd_26⟩, ⟨by decide, lw_i4 93 rfl rfl, lw_i4 94 rfl rfl⟩⟩
theorem mk_22 : am_mok TT 22 := ⟨lw_i4 103 rfl rfl, ci_0, rfl, by decide, cn_0, ⟨cm_0, cv_0, pd_8⟩, ⟨by decide, lw_i4 101 rfl rfl, lw_i4 102 rfl rfl⟩⟩
theorem mk_23 : am_mok TT 23 := ⟨lw_i4 46 rfl rfl, ci_0, rfl, by decide, cn_0, ⟨cm_0, cv_0, pd_13⟩, ⟨by decide, lw_i4 44 rfl rfl, lw_i4 45 rfl rfl⟩⟩
theorem mk_24 : am_mok TT 24 := ⟨lw_i4 42 rfl rfl, ci_0, rfl, by decide, cn_0, ⟨cm_0, cv_0, pd_9⟩, ⟨by decide, lw_i4 40 rfl rfl, lw_i4 41 rfl rfl⟩⟩
theorem mk_25 : am_mok TT 25 := ⟨lw_i4 66 rfl rfl, ci_0, rfl, by decide, cn_0, ⟨cm_0, cv_0, pd_7⟩, ⟨by decide, lw_i4 64 rfl rfl, lw_i4 65 rfl rfl⟩⟩
theorem mk_26 : am_mok TT 26 := ⟨lw_i4 74 rfl rfl, ci_0, rfl, by decide, cn_0, ⟨cm_0, cv_0, pd_9⟩, ⟨by decide, lw_i4 72 rfl rfl, lw_i4 73 rfl rfl⟩⟩
theorem mk_27 : am_mok TT 27 := ⟨lw_i4 70 rfl rfl, ci_0, rfl, by decide, cn_0, ⟨cm_0, cv_0, pd_13⟩, ⟨by decide, lw_i4 68 rfl rfl, lw_i4 69 rfl rfl⟩⟩
theorem mk_28 : am_mok TT 28 := ⟨lw_i4 161 rfl rfl, ci_0, rfl, by decide, cn_0, ⟨cm_0, cv_0, pd_9⟩, ⟨by decide, lw_i4 159 rfl rfl, lw_i4 160 rfl rfl⟩⟩
theorem mk_29 : am_mok TT 29 := ⟨lw_i4 58 rfl rfl, ci_0, rfl, by decide, cn_0, ⟨cm_0, cv_0, pd_4⟩, ⟨by decide, lw_i4 56 rfl rfl, lw_i4 57 rfl rfl⟩⟩
theorem mk_30 : am_mok TT 30 := ⟨lw_i4 62 rfl rfl, ci_0, rfl, by decide, cn_0, ⟨cm_0, cv_0, pd_1⟩, ⟨by decide, lw_i4 60 rfl rfl, lw_i4 61 rfl rfl⟩⟩
theorem mk_31 : am_mok TT 31 := ⟨lw_i2 69 rfl rfl, ci_1, rfl, by decide, cn_1, ⟨cm_1, cv_1, pd_40⟩, ⟨by decide, lw_i2 68 rfl rfl, rfl, rfl⟩⟩
theorem mk_32 : am_mok TT 32 := ⟨lw_i3 69 rfl rfl, ci_1, rfl, by decide, cn_1, ⟨cm_1, cv_1, pd_8⟩, ⟨by decide, lw_i3 67 rfl rfl, lw_i3 68 rfl rfl⟩⟩
theorem mk_33 : am_mok TT 33 := ⟨lw_i3 98 rfl rfl, ci_1, rfl, by decide, cn_1, ⟨cm_1, cv_1, pd_4⟩, ⟨by decide, lw_i3 97 rfl rfl, lw_ip 5 rfl rfl⟩⟩
theorem mk_34 : am_mok TT 34 := ⟨lw_i3 102 rfl rfl, ci_1, rfl, by decide, cn_1, ⟨cm_1, cv_1, pd_15⟩, ⟨by decide, lw_i3 101 rfl rfl, lw_ip 6 rfl rfl⟩⟩
theorem mk_35 : am_mok TT 35 := ⟨lw_i3 136 rfl rfl, ci_1, rfl, by decide, cn_1, ⟨cm_1, cv_1, pd_29⟩, ⟨by decide, lw_i3 135 rfl rfl, lw_ip 8 rfl rfl⟩⟩
theorem mk_36 : am_mok TT 36 := ⟨lw_i3 124 rfl rfl, ci_1, rfl, by decide, cn_1, ⟨cm_1, cv_1, pd_4⟩, ⟨by decide, lw_i3 123 rfl rfl, lw_ip 7 rfl rfl⟩⟩
theorem mk_37 : am_mok TT 37 := ⟨lw_i3 157 rfl rfl, ci_1, rfl, by decide, cn_1, ⟨cm_1, cv_1, pd_4⟩, ⟨by decide, lw_i3 156 rfl rfl, lw_ip 9 rfl rfl⟩⟩
theorem mk_38 : am_mok TT 38 := ⟨lw_i3 165 rfl rfl, ci_1, rfl, by decide, cn_1, ⟨cm_1, cv_1, pd_8⟩, ⟨by decide, lw_i3 164 rfl rfl, lw_ip 10 rfl rfl⟩⟩
theorem mk_39 : am_mok TT 39 := ⟨lw_i3 170 rfl rfl, ci_1, rfl, by decide, cn_1, ⟨cm_1, cv_1, pd_4⟩, ⟨by decide, lw_i3 169 rfl rfl, lw_ip 11 rfl rfl⟩⟩
theorem mk_40 : am_mok TT 40 := ⟨lw_i1 55 rfl rfl, ci_2, rfl, by decide, cn_2, ⟨cm_2, cv_2, pd_3⟩, ⟨by decide, lw_i1 54 rfl rfl, rfl, rfl⟩⟩
theorem mk_41 : am_mok TT 41 := ⟨lw_i5 154 rfl rfl, ci_2, rfl, by decide, cn_2, ⟨cm_2, cv_2, pd_32⟩, ⟨by decide, lw_i5 152 rfl rfl, lw_i5 153 rfl rfl⟩⟩
theorem mk_42 : am_mok TT 42 := ⟨lw_i2 107 rfl rfl, ci_3, rfl, by decide, cn_3, ⟨cm_3, cv_3, pd_3⟩, ⟨by decide, lw_i2 106 rfl rfl, rfl, rfl⟩⟩
theorem mk_43 : am_mok TT 43 := ⟨lw_i5 170 rfl rfl, ci_3, rfl, by decide, cn_3, ⟨cm_3, cv_3, pd_37⟩, ⟨by decide, lw_i5 168 rfl rfl, lw_i5 169 rfl rfl⟩⟩
theorem mk_44 : am_mok TT 44 := ⟨lw_i5 175 rfl rfl, ci_3, rfl, by decide, cn_3, ⟨cm_3, cv_3, pd_43⟩, ⟨by decide, lw_i5 174 rfl rfl, lw_ip 27 rfl rfl⟩⟩
theorem mk_45 : am_mok TT 45 := ⟨lw_i5 179 rfl rfl, ci_3, rfl, by decide, cn_3, ⟨cm_3, cv_3, pd_36⟩, ⟨by decide, lw_i5 178 rfl rfl, lw_ip 28 rfl rfl⟩⟩
theorem mk_46 : am_mok TT 46 := ⟨lw_i5 196 rfl rfl, ci_3, rfl, by decide, cn_3, ⟨cm_3, cv_3, pd_47⟩, ⟨by decide, lw_i5 195 rfl rfl, lw_ip 31 rfl rfl⟩⟩
theorem mk_47 : am_mok TT 47 := ⟨lw_i5 183 rfl rfl, ci_3, rfl, by decide, cn_3, ⟨cm_3, cv_3, pd_39⟩, ⟨by decide, lw_i5 182 rfl rfl, lw_ip 29 rfl rfl⟩⟩
theorem mk_48 : am_mok TT 48 := ⟨lw_i5 190 rfl rfl, ci_3, rfl, by decide, cn_3, ⟨cm_3, cv_3, pd_8⟩, ⟨by decide, lw_i5 189 rfl rfl, lw_ip 30 rfl rfl⟩⟩
theorem mk_49 : am_mok TT 49 := ⟨lw_i5 205 rfl rfl, ci_3, rfl, by decide, cn_3, ⟨cm_3, cv_3, pd_38⟩, lw_i5 204 rfl rfl⟩
theorem mk_50 : am_mok TT 50 := ⟨lw_i2 148 rfl rfl, ci_4, rfl, by decide, cn_4, ⟨cm_4, cv_4, pd_35⟩, ⟨by decide, lw_i2 147 rfl rfl, rfl, rfl⟩⟩
theorem mk_51 : am_mok TT 51 := ⟨lw_i4 151 rfl rfl, ci_4, rfl, by decide, cn_4, ⟨cm_4, cv_4, pd_9⟩, ⟨by decide, lw_i4 149 rfl rfl, lw_i4 150 rfl rfl⟩⟩
theorem mk_52 : am_mok TT 52 := ⟨lw_i4 169 rfl rfl, ci_4, rfl, by decide, cn_4, ⟨cm_4, cv_4, pd_6⟩, ⟨by decide, lw_i4 167 rfl rfl, lw_i4 168 rfl rfl⟩⟩
theorem mk_53 : am_mok TT 53 := ⟨lw_i4 178 rfl rfl, ci_4, rfl, by decide, cn_4, ⟨cm_4, cv_4, pd_6⟩, ⟨by decide, lw_i4 176 rfl rfl, lw_i4 177 rfl rfl⟩⟩
theorem mk_54 : am_mok TT 54 := ⟨lw_i4 190 rfl rfl, ci_4, rfl, by decide, cn_4, ⟨cm_4, cv_4, pd_12⟩, ⟨by decide, lw_i4 188 rfl rfl, lw_i4 189 rfl rfl⟩⟩
theorem mk_55 : am_mok TT 55 := ⟨lw_i4 198 rfl rfl, ci_4, rfl, by decide, cn_4, ⟨cm_4, cv_4, pd_6⟩, ⟨by decide, lw_i4 196 rfl rfl, lw_i4 197 rfl rfl⟩⟩
theorem mk_56 : am_mok TT 56 := ⟨lw_i4 206 rfl rfl, ci_4, rfl, by decide, cn_4, ⟨cm_4, cv_4, pd_6⟩, ⟨by decide, lw_i4 204 rfl rfl, lw_i4 205 rfl rfl⟩⟩
theorem mk_57 : am_mok TT 57 := ⟨lw_i4 214 rfl rfl, ci_4, rfl, by decide, cn_4, ⟨cm_4, cv_4, pd_6⟩, ⟨by decide, lw_i4 212 rfl rfl, lw_i4 213 rfl rfl⟩⟩
theorem mk_58 : am_mok TT 58 := ⟨lw_i4 217 rfl rfl, ci_4, rfl, by decide, cn_4, ⟨cm_4, cv_4, pd_12⟩, lw_i4 216 rfl rfl⟩
theorem mk_59 : am_mok TT 59 := ⟨lw_i4 230 rfl rfl, ci_4, rfl, by decide, cn_4, ⟨cm_4, cv_4, pd_9⟩, ⟨by decide, lw_i4 228 rfl rfl, lw_i4 229 rfl rfl⟩⟩
theorem mk_60 : am_mok TT 60 := ⟨lw_i4 239 rfl rfl, ci_4, rfl, by decide, cn_4, ⟨cm_4, cv_4, pd_6⟩, ⟨by decide, lw_i4 237 rfl rfl, lw_i4 238 rfl rfl⟩⟩
theorem mk_61 : am_mok TT 61 := ⟨lw_i5 25 rfl rfl, ci_4, rfl, by decide, cn_4, ⟨cm_4, cv_4, pd_6⟩, ⟨by decide, lw_i5 23 rfl rfl, lw_i5 24 rfl rfl⟩⟩
theorem mk_62 : am_mok TT 62 := ⟨lw_i5 9 rfl rfl, ci_4, rfl, by decide, cn_4, ⟨cm_4, cv_4, pd_6⟩, ⟨by decide, lw_i5 7 rfl rfl, lw_i5 8 rfl rfl⟩⟩
theorem mk_63 : am_mok TT 63 := ⟨lw_i5 21 rfl rfl, ci_4, rfl, by decide, cn_4, ⟨cm_4, cv_4, pd_1⟩, ⟨by decide, lw_i5 19 rfl rfl, lw_i5 20 rfl rfl⟩⟩
theorem mk_64 : am_mok TT 64 := ⟨lw_i5 38 rfl rfl, ci_4, rfl, by decide, cn_4, ⟨cm_4, cv_4, pd_1⟩, ⟨by decide, lw_i5 36 rfl rfl, lw_i5 37 rfl rfl⟩⟩
theorem mk_65 : am_mok TT 65 := ⟨lw_i5 88 rfl rfl, ci_4, rfl, by decide, cn_4, ⟨cm_4, cv_4, pd_13⟩, ⟨by decide, lw_i5 86 rfl rfl, lw_i5 87 rfl rfl⟩⟩
theorem mk_66 : am_mok TT 66 := ⟨lw_i5 100 rfl rfl, ci_4, rfl, by decide, cn_4, ⟨cm_4, cv_4, pd_1⟩, ⟨by decide, lw_i5 98 rfl rfl, lw_i5 99 rfl rfl⟩⟩
theorem mk_67 : am_mok TT 67 := ⟨lw_i5 104 rfl rfl, ci_4, rfl, by decide, cn_4, ⟨cm_4, cv_4, pd_8⟩, ⟨by decide, lw_i5 103 rfl rfl, lw_ip 25 rfl rfl⟩⟩
theorem mk_68 : am_mok TT 68 := ⟨lw_i5 116 rfl rfl, ci_4, rfl, by decide, cn_4, ⟨cm_4, cv_4, pd_1⟩, ⟨by decide, lw_i5 114 rfl rfl, lw_i5 115 rfl rfl⟩⟩
theorem mk_69 : am_mok TT 69 := ⟨lw_i5 125 rfl rfl, ci_4, rfl, by decide, cn_4, ⟨cm_4, cv_4, pd_11⟩, ⟨by decide, lw_i5 123 rfl rfl, lw_i5 124 rfl rfl⟩⟩
theorem mk_70 : am_mok TT 70 := ⟨lw_i5 129 rfl rfl, ci_4, rfl, by decide, cn_4, ⟨cm_4, cv_4, pd_47⟩, ⟨by decide, lw_i5 128 rfl rfl, lw_ip 26 rfl rfl⟩⟩
theorem mk_71 : am_mok TT 71 := ⟨lw_i5 135 rfl rfl, ci_4, rfl, by decide, cn_4, ⟨cm_4, cv_4, pd_1⟩, ⟨by decide, lw_i5 133 rfl rfl, lw_i5 134 rfl rfl⟩⟩
theorem mk_72 : am_mok TT 72 := ⟨lw_i5 143 rfl rfl, ci_4, rfl, by decide, cn_4, ⟨cm_4, cv_4, pd_1⟩, ⟨by decide, lw_i5 141 rfl rfl, lw_i5 142 rfl rfl⟩⟩
theorem mk_73 : am_mok TT 73 := ⟨lw_i1 210 rfl rfl, ci_5, rfl, by decide, cn_5, ⟨cm_5, cv_5, pd_50⟩, ⟨by decide, lw_i1 209 rfl rfl, rfl, rfl⟩⟩
theorem mk_74 : am_mok TT 74 := ⟨lw_i3 73 rfl rfl, ci_5, rfl, by decide, cn_5, ⟨cm_5, cv_5, pd_7⟩, ⟨by decide, lw_i3 71 rfl rfl, lw_i3 72 rfl rfl⟩⟩
theorem mk_75 : am_mok TT 75 := ⟨lw_i3 90 rfl rfl, ci_5, rfl, by decide, cn_5, ⟨cm_5, cv_5, pd_8⟩, ⟨by decide, lw_i3 88 rfl rfl, lw_i3 89 rfl rfl⟩⟩
theorem mk_76 : am_mok TT 76 := ⟨lw_i3 78 rfl rfl, ci_5, rfl, by decide, cn_5, ⟨cm_5, cv_5, pd_4⟩, ⟨by decide, lw_i3 76 rfl rfl, lw_i3 77 rfl rfl⟩⟩
theorem mk_77 : am_mok TT 77 := ⟨lw_i3 82 rfl rfl, ci_5, rfl, by decide, cn_5, ⟨cm_5, cv_5, pd_3⟩, ⟨by decide, lw_i3 81 rfl rfl, lw_ip 3 rfl rfl⟩⟩
theorem mk_78 : am_mok TT 78 := ⟨lw_i3 86 rfl rfl, ci_5, rfl, by decide, cn_5, ⟨cm_5, cv_5, pd_4⟩, ⟨by decide, lw_i3 85 rfl rfl, lw_ip 4 rfl rfl⟩⟩
theorem mk_79 : am_mok TT 79 := ⟨lw_i3 94 rfl rfl, ci_5, rfl, by decide, cn_5, ⟨cm_5, cv_5, pd_4⟩, ⟨by decide, lw_i3 92 rfl rfl, lw_i3 93 rfl rfl⟩⟩
theorem mk_80 : am_mok TT 80 := ⟨lw_i3 132 rfl rfl, ci_5, rfl, by decide, cn_5, ⟨cm_5, cv_5, pd_4⟩, ⟨by decide, lw_i3 130 rfl rfl, lw_i3 131 rfl rfl⟩⟩
theorem mk_81 : am_mok TT 81 := ⟨lw_i3 231 rfl rfl, ci_5, rfl, by decide, cn_5, ⟨cm_5, cv_5, pd_4⟩, ⟨by decide, lw_i3 229 rfl rfl, lw_i3 230 rfl rfl⟩⟩
theorem mk_82 : am_mok TT 82 := ⟨lw_i3 120 rfl rfl, ci_5, rfl, by decide, cn_5, ⟨cm_5, cv_5, pd_4⟩, ⟨by decide, lw_i3 118 rfl rfl, lw_i3 119 rfl rfl⟩⟩
theorem mk_83 : am_mok TT 83 := ⟨lw_i3 128 rfl rfl, ci_5, rfl, by decide, cn_5, ⟨cm_5, cv_5, pd_4⟩, ⟨by decide, lw_i3 126 rfl rfl, lw_i3 127 rfl rfl⟩⟩
theorem mk_84 : am_mok TT 84 := ⟨lw_i3 148 rfl rfl, ci_5, rfl, by decide, cn_5, ⟨cm_5, cv_5, pd_8⟩, ⟨by decide, lw_i3 146 rfl rfl, lw_i3 147 rfl rfl⟩⟩
theorem mk_85 : am_mok TT 85 := ⟨lw_i3 116 rfl rfl, ci_5, rfl, by decide, cn_5, ⟨cm_5, cv_5, pd_4⟩, ⟨by decide, lw_i3 114 rfl rfl, lw_i3 115 rfl rfl⟩⟩
theorem mk_86 : am_mok TT 86 := ⟨lw_i3 107 rfl rfl, ci_5, rfl, by decide, cn_5, ⟨cm_5, cv_5, pd_12⟩, ⟨by decide, lw_i3 105 rfl rfl, lw_i3 106 rfl rfl⟩⟩
theorem mk_87 : am_mok TT 87 := ⟨lw_i1 31 rfl rfl, ci_6, rfl, by decide, cn_6, ⟨cm_6, cv_6, pd_3⟩, ⟨by decide, lw_i1 30 rfl rfl, rfl, rfl⟩⟩
theorem mk_88 : am_mok TT 88 := ⟨lw_i2 234 rfl rfl, ci_6, rfl, by decide, cn_6, ⟨cm_6, cv_6, pd_8⟩, ⟨by decide, lw_i2 232 rfl rfl, lw_i2 233 rfl rfl⟩⟩
theorem mk_89 : am_mok TT 89 := ⟨lw_i3 18 rfl rfl, ci_6, rfl, by decide, cn_6, ⟨cm_6, cv_6, pd_8⟩, ⟨by decide, lw_i3 16 rfl rfl, lw_i3 17 rfl rfl⟩⟩
theorem mk_90 : am_mok TT 90 := ⟨lw_i5 71 rfl rfl, ci_6, rfl, by decide, cn_6, ⟨cm_6, cv_6, pd_6⟩, ⟨by decide, lw_i5 69 rfl rfl, lw_i5 70 rfl rfl⟩⟩
theorem mk_91 : am_mok TT 91 := ⟨lw_i3 5 rfl rfl, ci_6, rfl, by decide, cn_6, ⟨cm_6, cv_6, pd_14⟩, ⟨by decide, lw_i3 3 rfl rfl, lw_i3 4 rfl rfl⟩⟩
theorem mk_92 : am_mok TT 92 := ⟨lw_i3 13 rfl rfl, ci_6, rfl, by decide, cn_6, ⟨cm_6, cv_6, pd_9⟩, ⟨by decide, lw_i3 11 rfl rfl, lw_i3 12 rfl rfl⟩⟩
theorem mk_93 : am_mok TT 93 := ⟨lw_i3 22 rfl rfl, ci_6, rfl, by decide, cn_6, ⟨cm_6, cv_6, pd_21⟩, ⟨by decide, lw_i3 20 rfl rfl, lw_i3 21 rfl rfl⟩⟩
theorem mk_94 : am_mok TT 94 := ⟨lw_i3 33 rfl rfl, ci_6, rfl, by decide, cn_6, ⟨cm_6, cv_6, pd_10⟩, ⟨by decide, lw_i3 31 rfl rfl, lw_i3 32 rfl rfl⟩⟩
theorem mk_95 : am_mok TT 95 := ⟨lw_i3 42 rfl rfl, ci_6, rfl, by decide, cn_6, ⟨cm_6, cv_6, pd_18⟩, ⟨by decide, lw_i3 40 rfl rfl, lw_i3 41 rfl rfl⟩⟩
theorem mk_96 : am_mok TT 96 := ⟨lw_i3 46 rfl rfl, ci_6, rfl, by decide, cn_6, ⟨cm_6, cv_6, pd_19⟩, ⟨by decide, lw_i3 44 rfl rfl, lw_i3 45 rfl rfl⟩⟩
theorem mk_97 : am_mok TT 97 := ⟨lw_i3 25 rfl rfl, ci_6, rfl, by decide, cn_6, ⟨cm_6, cv_6, pd_31⟩, lw_i3 24 rfl rfl⟩
theorem mk_98 : am_mok TT 98 := ⟨lw_i1 157 rfl rfl, ci_7, rfl, by decide, cn_7, ⟨cm_7, cv_7, pd_3⟩, ⟨by decide, lw_i1 156 rfl rfl, rfl, rfl⟩⟩
theorem mk_99 : am_mok TT 99 := ⟨lw_i3 179 rfl rfl, ci_7, rfl, by decide, cn_7, ⟨cm_7, cv_7, pd_3⟩, ⟨by decide, lw_i3 177 rfl rfl, lw_i3 178 rfl rfl⟩⟩
theorem mk_100 : am_mok TT 100 := ⟨lw_i4 5 rfl rfl, ci_7, rfl, by decide, cn_7, ⟨cm_7, cv_7, pd_42⟩, ⟨by decide, lw_i4 3 rfl rfl, lw_i4 4 rfl rfl⟩⟩
theorem mk_101 : am_mok TT 101 := ⟨lw_i3 204 rfl rfl, ci_7, rfl, by decide, cn_7, ⟨cm_7, cv_7, pd_6⟩, ⟨by decide, lw_i3 202 rfl rfl, lw_i3 203 rfl rfl⟩⟩
theorem mk_102 : am_mok TT 102 := ⟨lw_i2 85 rfl rfl, ci_8, rfl, by decide, cn_8, ⟨cm_8, cv_8, pd_41⟩, ⟨by decide, lw_i2 84 rfl rfl, rfl, rfl⟩⟩
theorem mk_103 : am_mok TT 103 := ⟨lw_i3 191 rfl rfl, ci_8, rfl, by decide, cn_8, ⟨cm_8, cv_8, pd_8⟩, ⟨by decide, lw_i3 189 rfl rfl, lw_i3 190 rfl rfl⟩⟩
theorem mk_104 : am_mok TT 104 := ⟨lw_i3 200 rfl rfl, ci_8, rfl, by decide, cn_8, ⟨cm_8, cv_8, pd_4⟩, ⟨by decide, lw_i3 199 rfl rfl, lw_ip 13 rfl rfl⟩⟩
theorem mk_105 : am_mok TT 105 := ⟨lw_i3 208 rfl rfl, ci_8, rfl, by decide, cn_8, ⟨cm_8, cv_8, pd_8⟩, ⟨by decide, lw_i3 207 rfl rfl, lw_ip 14 rfl rfl⟩⟩
theorem mk_106 : am_mok TT 106 := ⟨lw_i4 0 rfl rfl, ci_8, rfl, by decide, cn_8, ⟨cm_8, cv_8, pd_12⟩, ⟨by decide, lw_i3 239 rfl rfl, lw_ip 20 rfl rfl⟩⟩
theorem mk_107 : am_mok TT 107 := ⟨lw_i3 212 rfl rfl, ci_8, rfl, by decide, cn_8, ⟨cm_8, cv_8, pd_8⟩, ⟨by decide, lw_i3 211 rfl rfl, lw_ip 15 rfl rfl⟩⟩
theorem mk_108 : am_mok TT 108 := ⟨lw_i3 222 rfl rfl, ci_8, rfl, by decide, cn_8, ⟨cm_8, cv_8, pd_8⟩, ⟨by decide, lw_i3 221 rfl rfl, lw_ip 17 rfl rfl⟩⟩
theorem mk_109 : am_mok TT 109 := ⟨lw_i3 216 rfl rfl, ci_8, rfl, by decide, cn_8, ⟨cm_8, cv_8, pd_8⟩, ⟨by decide, lw_i3 215 rfl rfl, lw_ip 16 rfl rfl⟩⟩
theorem mk_110 : am_mok TT 110 := ⟨lw_i3 227 rfl rfl, ci_8, rfl, by decide, cn_8, ⟨cm_8, cv_8, pd_8⟩, ⟨by decide, lw_i3 226 rfl rfl, lw_ip 18 rfl rfl⟩⟩
theorem mk_111 : am_mok TT 111 := ⟨lw_i3 235 rfl rfl, ci_8, rfl, by decide, cn_8, ⟨cm_8, cv_8, pd_15⟩, ⟨by decide, lw_i3 234 rfl rfl, lw_ip 19 rfl rfl⟩⟩
theorem mk_112 : am_mok TT 112 := ⟨lw_i1 23 rfl rfl, ci_9, rfl, by decide, cn_9, ⟨cm_9, cv_9, pd_3⟩, ⟨by decide, lw_i1 22 rfl rfl, rfl, rfl⟩⟩
theorem mk_113 : am_mok TT 113 := ⟨lw_i2 218 rfl rfl, ci_9, rfl, by decide, cn_9, ⟨cm_9, cv_9, pd_1⟩, ⟨by decide, lw_i2 216 rfl rfl, lw_i2 217 rfl rfl⟩⟩
theorem mk_114 : am_mok TT 114 := ⟨lw_i2 222 rfl rfl, ci_9, rfl, by decide, cn_9, ⟨cm_9, cv_9, pd_2⟩, ⟨by decide, lw_i2 220 rfl rfl, lw_i2 221 rfl rfl⟩⟩
theorem mk_115 : am_mok TT 115 := ⟨lw_i2 226 rfl rfl, ci_9, rfl, by decide, cn_9, ⟨cm_9, cv_9, pd_2⟩, ⟨by decide, lw_i2 224 rfl rfl, lw_i2 225 rfl rfl⟩⟩
theorem mk_116 : am_mok TT 116 := ⟨lw_i3 183 rfl rfl, ci_9, rfl, by decide, cn_9, ⟨cm_9, cv_9, pd_6⟩, ⟨by decide, lw_i3 182 rfl rfl, lw_ip 12 rfl rfl⟩⟩
theorem mk_117 : am_mok TT 117 := ⟨lw_i3 65 rfl rfl, ci_9, rfl, by decide, cn_9, ⟨cm_9, cv_9, pd_6⟩, ⟨by decide, lw_i3 64 rfl rfl, lw_ip 2 rfl rfl⟩⟩
theorem mk_118 : am_mok TT 118 := ⟨lw_i3 1 rfl rfl, ci_9, rfl, by decide, cn_9, ⟨cm_9, cv_9, pd_8⟩, ⟨by decide, lw_i3 0 rfl rfl, lw_ip 0 rfl rfl⟩⟩
theorem mk_119 : am_mok TT 119 := ⟨lw_i2 237 rfl rfl, ci_9, rfl, by decide, cn_9, ⟨cm_9, cv_9, pd_15⟩, lw_i2 236 rfl rfl⟩
theorem mk_120 : am_mok TT 120 := ⟨lw_i2 230 rfl rfl, ci_9, rfl, by decide, cn_9, ⟨cm_9, cv_9, pd_15⟩, ⟨by decide, lw_i2 228 rfl rfl, lw_i2 229 rfl rfl⟩⟩
theorem mk_121 : am_mok TT 121 := ⟨lw_i3 9 rfl rfl, ci_9, rfl, by decide, cn_9, ⟨cm_9, cv_9, pd_22⟩, ⟨by decide, lw_i3 7 rfl rfl, lw_i3 8 rfl rfl⟩⟩
theorem mk_122 : am_mok TT 122 := ⟨lw_i3 29 rfl rfl, ci_9, rfl, by decide, cn_9, ⟨cm_9, cv_9, pd_10⟩, ⟨by decide, lw_i3 27 rfl rfl, lw_i3 28 rfl rfl⟩⟩
theorem mk_123 : am_mok TT 123 := ⟨lw_i3 38 rfl rfl, ci_9, rfl, by decide, cn_9, ⟨cm_9, cv_9, pd_20⟩, ⟨by decide, lw_i3 36 rfl rfl, lw_i3 37 rfl rfl⟩⟩
theorem mk_124 : am_mok TT 124 := ⟨lw_i3 53 rfl rfl, ci_9, rfl, by decide, cn_9, ⟨cm_9, cv_9, pd_18⟩, ⟨by decide, lw_i3 51 rfl rfl, lw_i3 52 rfl rfl⟩⟩
theorem mk_125 : am_mok TT 125 := ⟨lw_i3 57 rfl rfl, ci_9, rfl, by decide, cn_9, ⟨cm_9, cv_9, pd_7⟩, ⟨by decide, lw_i3 56 rfl rfl, lw_ip 1 rfl rfl⟩⟩
theorem mk_126 : am_mok TT 126 := ⟨lw_i3 61 rfl rfl, ci_9, rfl, by decide, cn_9, ⟨cm_9, cv_9, pd_6⟩, ⟨by decide, lw_i3 59 rfl rfl, lw_i3 60 rfl rfl⟩⟩
theorem mk_127 : am_mok TT 127 := ⟨lw_i3 187 rfl rfl, ci_9, rfl, by decide, cn_9, ⟨cm_9, cv_9, pd_6⟩, ⟨by decide, lw_i3 185 rfl rfl, lw_i3 186 rfl rfl⟩⟩
theorem mk_128 : am_mok TT 128 := ⟨lw_i4 10 rfl rfl, ci_9, rfl, by decide, cn_9, ⟨cm_9, cv_9, pd_6⟩, ⟨by decide, lw_i4 8 rfl rfl, lw_i4 9 rfl rfl⟩⟩
theorem mk_129 : am_mok TT 129 := ⟨lw_i4 14 rfl rfl, ci_9, rfl, by decide, cn_9, ⟨cm_9, cv_9, pd_6⟩, ⟨by decide, lw_i4 12 rfl rfl, lw_i4 13 rfl rfl⟩⟩
theorem mk_130 : am_mok TT 130 := ⟨lw_i4 22 rfl rfl, ci_9, rfl, by decide, cn_9, ⟨cm_9, cv_9, pd_9⟩, ⟨by decide, lw_i4 20 rfl rfl, lw_i4 21 rfl rfl⟩⟩
theorem mk_131 : am_mok TT 131 := ⟨lw_i4 34 rfl rfl, ci_9, rfl, by decide, cn_9, ⟨cm_9, cv_9, pd_9⟩, ⟨by decide, lw_i4 32 rfl rfl, lw_i4 33 rfl rfl⟩⟩
theorem mk_132 : am_mok TT 132 := ⟨lw_i4 54 rfl rfl, ci_9, rfl, by decide, cn_9, ⟨cm_9, cv_9, pd_1⟩, ⟨by decide, lw_i4 52 rfl rfl, lw_i4 53 rfl rfl⟩⟩
theorem mk_133 : am_mok TT 133 := ⟨lw_i4 91 rfl rfl, ci_9, rfl, by decide, cn_9, ⟨cm_9, cv_9, pd_26⟩, ⟨by decide, lw_i4 89 rfl rfl, lw_i4 90 rfl rfl⟩⟩
theorem mk_134 : am_mok TT 134 := ⟨lw_i4 99 rfl rfl, ci_9, rfl, by decide, cn_9, ⟨cm_9, cv_9, pd_6⟩, ⟨by decide, lw_i4 97 rfl rfl, lw_i4 98 rfl rfl⟩⟩
theorem mk_135 : am_mok TT 135 := ⟨lw_i4 108 rfl rfl, ci_9, rfl, by decide, cn_9, ⟨cm_9, cv_9, pd_12⟩, ⟨by decide, lw_i4 106 rfl rfl, lw_i4 107 rfl rfl⟩⟩
theorem mk_136 : am_mok TT 136 := ⟨lw_i4 112 rfl rfl, ci_9, rfl, by decide, cn_9, ⟨cm_9, cv_9, pd_24⟩, ⟨by decide, lw_i4 110 rfl rfl, lw_i4 111 rfl rfl⟩⟩
theorem mk_137 : am_mok TT 137 := ⟨lw_i4 116 rfl rfl, ci_9, rfl, by decide, cn_9, ⟨cm_9, cv_9, pd_24⟩, ⟨by decide, lw_i4 114 rfl rfl, lw_i4 115 rfl rfl⟩⟩
theorem mk_138 : am_mok TT 138 := ⟨lw_i4 120 rfl rfl, ci_9, rfl, by decide, cn_9, ⟨cm_9, cv_9, pd_12⟩, ⟨by decide, lw_i4 118 rfl rfl, lw_i4 119 rfl rfl⟩⟩
theorem mk_139 : am_mok TT 139 := ⟨lw_i4 124 rfl rfl, ci_9, rfl, by decide, cn_9, ⟨cm_9, cv_9, pd_6⟩, ⟨by decide, lw_i4 122 rfl rfl, lw_i4 123 rfl rfl⟩⟩
theorem mk_140 : am_mok TT 140 := ⟨lw_i4 129 rfl rfl, ci_9, rfl, by decide, cn_9, ⟨cm_9, cv_9, pd_12⟩, ⟨by decide, lw_i4 127 rfl rfl, lw_i4 128 rfl rfl⟩⟩
theorem mk_141 : am_mok TT 141 := ⟨lw_i4 134 rfl rfl, ci_9, rfl, by decide, cn_9, ⟨cm_9, cv_9, pd_9⟩, ⟨by decide, lw_i4 132 rfl rfl, lw_i4 133 rfl rfl⟩⟩
theorem mk_142 : am_mok TT 142 := ⟨lw_i4 146 rfl rfl, ci_9, rfl, by decide, cn_9, ⟨cm_9, cv_9, pd_9⟩, ⟨by decide, lw_i4 145 rfl rfl, lw_ip 21 rfl rfl⟩⟩
theorem mk_143 : am_mok TT 143 := ⟨lw_i4 142 rfl rfl, ci_9, rfl, by decide, cn_9, ⟨cm_9, cv_9, pd_9⟩, ⟨by decide, lw_i4 140 rfl rfl, lw_i4 141 rfl rfl⟩⟩
theorem mk_144 : am_mok TT 144 := ⟨lw_i4 157 rfl rfl, ci_9, rfl, by decide, cn_9, ⟨cm_9, cv_9, pd_6⟩, ⟨by decide, lw_i4 155 rfl rfl, lw_i4 156 rfl rfl⟩⟩
theorem mk_145 : am_mok TT 145 := ⟨lw_i4 165 rfl rfl, ci_9, rfl, by decide, cn_9, ⟨cm_9, cv_9, pd_6⟩, ⟨by decide, lw_i4 163 rfl rfl, lw_i4 164 rfl rfl⟩⟩
theorem mk_146 : am_mok TT 146 := ⟨lw_i4 174 rfl rfl, ci_9, rfl, by decide, cn_9, ⟨cm_9, cv_9, pd_6⟩, ⟨by decide, lw_i4 172 rfl rfl, lw_i4 173 rfl rfl⟩⟩
theorem mk_147 : am_mok TT 147 := ⟨lw_i4 182 rfl rfl, ci_9, rfl, by decide, cn_9, ⟨cm_9, cv_9, pd_9⟩, ⟨by decide, lw_i4 180 rfl rfl, lw_i4 181 rfl rfl⟩⟩
theorem mk_148 : am_mok TT 148 := ⟨lw_i4 194 rfl rfl, ci_9, rfl, by decide, cn_9, ⟨cm_9, cv_9, pd_6⟩, ⟨by decide, lw_i4 192 rfl rfl, lw_i4 193 rfl rfl⟩⟩
theorem mk_149 : am_mok TT 149 := ⟨lw_i4 202 rfl rfl, ci_9, rfl, by decide, cn_9, ⟨cm_9, cv_9, pd_6⟩, ⟨by decide, lw_i4 200 rfl rfl, lw_i4 201 rfl rfl⟩⟩
theorem mk_150 : am_mok TT 150 := ⟨lw_i4 210 rfl rfl, ci_9, rfl, by decide, cn_9, ⟨cm_9, cv_9, pd_6⟩, ⟨by decide, lw_i4 208 rfl rfl, lw_i4 209 rfl rfl⟩⟩
theorem mk_151 : am_mok TT 151 := ⟨lw_i4 222 rfl rfl, ci_9, rfl, by decide, cn_9, ⟨cm_9, cv_9, pd_6⟩, ⟨by decide, lw_i4 220 rfl rfl, lw_i4 221 rfl rfl⟩⟩
theorem mk_152 : am_mok TT 152 := ⟨lw_i4 226 rfl rfl, ci_9, rfl, by decide, cn_9, ⟨cm_9, cv_9, pd_9⟩, ⟨by decide, lw_i4 224 rfl rfl, lw_i4 225 rfl rfl⟩⟩
theorem mk_153 : am_mok TT 153 := ⟨lw_i4 235 rfl rfl, ci_9, rfl, by decide, cn_9, ⟨cm_9, cv_9, pd_6⟩, ⟨by decide, lw_i4 233 rfl rfl, lw_i4 234 rfl rfl⟩⟩
theorem mk_154 : am_mok TT 154 := ⟨lw_i5 5 rfl rfl, ci_9, rfl, by decide, cn_9, ⟨cm_9, cv_9, pd_6⟩, ⟨by decide, lw_i5 3 rfl rfl, lw_i5 4 rfl rfl⟩⟩
theorem mk_155 : am_mok TT 155 := ⟨lw_i5 13 rfl rfl, ci_9, rfl, by decide, cn_9, ⟨cm_9, cv_9, pd_6⟩, ⟨by decide, lw_i5 11 rfl rfl, lw_i5 12 rfl rfl⟩⟩
theorem mk_156 : am_mok TT 156 := ⟨lw_i5 17 rfl rfl, ci_9, rfl, by decide, cn_9, ⟨cm_9, cv_9, pd_1⟩, ⟨by decide, lw_i5 15 rfl rfl, lw_i5 16 rfl rfl⟩⟩
theorem mk_157 : am_mok TT 157 := ⟨lw_i5 29 rfl rfl, ci_9, rfl, by decide, cn_9, ⟨cm_9, cv_9, pd_1⟩, ⟨by decide, lw_i5 27 rfl rfl, lw_i5 28 rfl rfl⟩⟩
theorem mk_158 : am_mok TT 158 := ⟨lw_i5 34 rfl rfl, ci_9, rfl, by decide, cn_9, ⟨cm_9, cv_9, pd_1⟩, ⟨by decide, lw_i5 32 rfl rfl, lw_i5 33 rfl rfl⟩⟩
theorem mk_159 : am_mok TT 159 := ⟨lw_i5 46 rfl rfl, ci_9, rfl, by decide, cn_9, ⟨cm_9, cv_9, pd_7⟩, ⟨by decide, lw_i5 45 rfl rfl, lw_ip 22 rfl rfl⟩⟩
theorem mk_160 : am_mok TT 160 := ⟨lw_i5 42 rfl rfl, ci_9, rfl, by decide, cn_9, ⟨cm_9, cv_9, pd_6⟩, ⟨by decide, lw_i5 40 rfl rfl, lw_i5 41 rfl rfl⟩⟩
theorem mk_161 : am_mok TT 161 := ⟨lw_i5 54 rfl rfl, ci_9, rfl, by decide, cn_9, ⟨cm_9, cv_9, pd_6⟩, ⟨by decide, lw_i5 52 rfl rfl, lw_i5 53 rfl rfl⟩⟩
theorem mk_162 : am_mok TT 162 := ⟨lw_i5 58 rfl rfl, ci_9, rfl, by decide, cn_9, ⟨cm_9, cv_9, pd_9⟩, ⟨by decide, lw_i5 56 rfl rfl, lw_i5 57 rfl rfl⟩⟩
theorem mk_163 : am_mok TT 163 := ⟨lw_i5 66 rfl rfl, ci_9, rfl, by decide, cn_9, ⟨cm_9, cv_9, pd_13⟩, ⟨by decide, lw_i5 65 rfl rfl, lw_ip 23 rfl rfl⟩⟩
theorem mk_164 : am_mok TT 164 := ⟨lw_i5 75 rfl rfl, ci_9, rfl, by decide, cn_9, ⟨cm_9, cv_9, pd_13⟩, ⟨by decide, lw_i5 74 rfl rfl, lw_ip 24 rfl rfl⟩⟩
theorem mk_165 : am_mok TT 165 := ⟨lw_i5 62 rfl rfl, ci_9, rfl, by decide, cn_9, ⟨cm_9, cv_9, pd_13⟩, ⟨by decide, lw_i5 60 rfl rfl, lw_i5 61 rfl rfl⟩⟩
theorem mk_166 : am_mok TT 166 := ⟨lw_i5 80 rfl rfl, ci_9, rfl, by decide, cn_9, ⟨cm_9, cv_9, pd_16⟩, ⟨by decide, lw_i5 78 rfl rfl, lw_i5 79 rfl rfl⟩⟩
theorem mk_167 : am_mok TT 167 := ⟨lw_i5 84 rfl rfl, ci_9, rfl, by decide, cn_9, ⟨cm_9, cv_9, pd_13⟩, ⟨by decide, lw_i5 82 rfl rfl, lw_i5 83 rfl rfl⟩⟩
theorem mk_168 : am_mok TT 168 := ⟨lw_i5 96 rfl rfl, ci_9, rfl, by decide, cn_9, ⟨cm_9, cv_9, pd_1⟩, ⟨by decide, lw_i5 94 rfl rfl, lw_i5 95 rfl rfl⟩⟩
theorem mk_169 : am_mok TT 169 := ⟨lw_i5 108 rfl rfl, ci_9, rfl, by decide, cn_9, ⟨cm_9, cv_9, pd_1⟩, ⟨by decide, lw_i5 106 rfl rfl, lw_i5 107 rfl rfl⟩⟩
theorem mk_170 : am_mok TT 170 := ⟨lw_i5 112 rfl rfl, ci_9, rfl, by decide, cn_9, ⟨cm_9, cv_9, pd_1⟩, ⟨by decide, lw_i5 110 rfl rfl, lw_i5 111 rfl rfl⟩⟩
theorem mk_171 : am_mok TT 171 := ⟨lw_i5 121 rfl rfl, ci_9, rfl, by decide, cn_9, ⟨cm_9, cv_9, pd_6⟩, ⟨by decide, lw_i5 119 rfl rfl, lw_i5 120 rfl rfl⟩⟩
theorem mk_172 : am_mok TT 172 := ⟨lw_i5 139 rfl rfl, ci_9, rfl, by decide, cn_9, ⟨cm_9, cv_9, pd_6⟩, ⟨by decide, lw_i5 137 rfl rfl, lw_i5 138 rfl rfl⟩⟩
theorem mk_173 : am_mok TT 173 := ⟨lw_i5 147 rfl rfl, ci_9, rfl, by decide, cn_9, ⟨cm_9, cv_9, pd_12⟩, ⟨by decide, lw_i5 145 rfl rfl, lw_i5 146 rfl rfl⟩⟩
theorem mk_174 : am_mok TT 174 := ⟨lw_i5 150 rfl rfl, ci_9, rfl, by decide, cn_9, ⟨cm_9, cv_9, pd_10⟩, lw_i5 149 rfl rfl⟩
theorem mk_175 : am_mok TT 175 := ⟨lw_i5 158 rfl rfl, ci_9, rfl, by decide, cn_9, ⟨cm_9, cv_9, pd_8⟩, ⟨by decide, lw_i5 156 rfl rfl, lw_i5 157 rfl rfl⟩⟩
theorem mk_176 : am_mok TT 176 := ⟨lw_i5 162 rfl rfl, ci_9, rfl, by decide, cn_9, ⟨cm_9, cv_9, pd_6⟩, ⟨by decide, lw_i5 160 rfl rfl, lw_i5 161 rfl rfl⟩⟩
theorem mk_177 : am_mok TT 177 := ⟨lw_i5 166 rfl rfl, ci_9, rfl, by decide, cn_9, ⟨cm_9, cv_9, pd_6⟩, ⟨by decide, lw_i5 164 rfl rfl, lw_i5 165 rfl rfl⟩⟩
theorem mk_178 : am_mok TT 178 := ⟨lw_i5 211 rfl rfl, ci_9, rfl, by decide, cn_9, ⟨cm_9, cv_9, pd_6⟩, ⟨by decide, lw_i5 209 rfl rfl, lw_i5 210 rfl rfl⟩⟩
theorem mk_179 : am_mok TT 179 := ⟨lw_i5 215 rfl rfl, ci_9, rfl, by decide, cn_9, ⟨cm_9, cv_9, pd_12⟩, ⟨by decide, lw_i5 213 rfl rfl, lw_i5 214 rfl rfl⟩⟩
theorem mk_180 : am_mok TT 180 := ⟨lw_i5 219 rfl rfl, ci_9, rfl, by decide, cn_9, ⟨cm_9, cv_9, pd_1⟩, ⟨by decide, lw_i5 217 rfl rfl, lw_i5 218 rfl rfl⟩⟩
theorem mk_181 : am_mok TT 181 := ⟨lw_i5 223 rfl rfl, ci_9, rfl, by decide, cn_9, ⟨cm_9, cv_9, pd_1⟩, ⟨by decide, lw_i5 221 rfl rfl, lw_i5 222 rfl rfl⟩⟩
theorem mk_182 : am_mok TT 182 := ⟨lw_i5 228 rfl rfl, ci_10, rfl, by decide, cn_10, ⟨cm_10, cv_10, pd_3⟩, ⟨by decide, lw_i5 227 rfl rfl, rfl, rfl⟩⟩
theorem mk_183 : am_mok TT 183 := ⟨lw_i5 233 rfl rfl, ci_10, rfl, by decide, cn_10, ⟨cm_10, cv_10, pd_7⟩, ⟨by decide, lw_i5 232 rfl rfl, lw_ip 32 rfl rfl⟩⟩
theorem mk_184 : am_mok TT 184 := ⟨lw_i6 109 rfl rfl, ci_10, rfl, by decide, cn_10, ⟨cm_10, cv_10, pd_1⟩, ⟨by decide, lw_i6 107 rfl rfl, lw_i6 108 rfl rfl⟩⟩
theorem mk_185 : am_mok TT 185 := ⟨lw_i6 113 rfl rfl, ci_10, rfl, by decide, cn_10, ⟨cm_10, cv_10, pd_2⟩, ⟨by decide, lw_i6 111 rfl rfl, lw_i6 112 rfl rfl⟩⟩
theorem mk_186 : am_mok TT 186 := ⟨lw_i6 117 rfl rfl, ci_10, rfl, by decide, cn_10, ⟨cm_10, cv_10, pd_2⟩, ⟨by decide, lw_i6 115 rfl rfl, lw_i6 116 rfl rfl⟩⟩
theorem mk_187 : am_mok TT 187 := ⟨lw_i6 128 rfl rfl, ci_10, rfl, by decide, cn_10, ⟨cm_10, cv_10, pd_8⟩, ⟨by decide, lw_i6 127 rfl rfl, lw_ip 33 rfl rfl⟩⟩
theorem mk_188 : am_mok TT 188 := ⟨lw_i6 188 rfl rfl, ci_10, rfl, by decide, cn_10, ⟨cm_10, cv_10, pd_6⟩, ⟨by decide, lw_i6 187 rfl rfl, lw_ip 39 rfl rfl⟩⟩
theorem mk_189 : am_mok TT 189 := ⟨lw_i7 34 rfl rfl, ci_10, rfl, by decide, cn_10, ⟨cm_10, cv_10, pd_6⟩, ⟨by decide, lw_i7 33 rfl rfl, lw_ip 59 rfl rfl⟩⟩
theorem mk_190 : am_mok TT 190 := ⟨lw_i8 33 rfl rfl, ci_10, rfl, by decide, cn_10, ⟨cm_10, cv_10, pd_6⟩, ⟨by decide, lw_i8 32 rfl rfl, lw_ip 91 rfl rfl⟩⟩
theorem mk_191 : am_mok TT 191 := ⟨lw_i8 152 rfl rfl, ci_10, rfl, by decide, cn_10, ⟨cm_10, cv_10, pd_33⟩, ⟨by decide, lw_i8 151 rfl rfl, lw_ip 103 rfl rfl⟩⟩
theorem mk_192 : am_mok TT 192 := ⟨lw_i6 124 rfl rfl, ci_10, rfl, by decide, cn_10, ⟨cm_10, cv_10, pd_8⟩, lw_i6 123 rfl rfl⟩
theorem mk_193 : am_mok TT 193 := ⟨lw_i6 139 rfl rfl, ci_10, rfl, by decide, cn_10, ⟨cm_10, cv_10, pd_31⟩, lw_i6 138 rfl rfl⟩
theorem mk_194 : am_mok TT 194 := ⟨lw_i6 121 rfl rfl, ci_10, rfl, by decide, cn_10, ⟨cm_10, cv_10, pd_15⟩, ⟨by decide, lw_i6 119 rfl rfl, lw_i6 120 rfl rfl⟩⟩
theorem mk_195 : am_mok TT 195 := ⟨lw_i6 136 rfl rfl, ci_10, rfl, by decide, cn_10, ⟨cm_10, cv_10, pd_9⟩, ⟨by decide, lw_i6 135 rfl rfl, lw_ip 34 rfl rfl⟩⟩
theorem mk_196 : am_mok TT 196 := ⟨lw_i6 132 rfl rfl, ci_10, rfl, by decide, cn_10, ⟨cm_10, cv_10, pd_22⟩, ⟨by decide, lw_i6 130 rfl rfl, lw_i6 131 rfl rfl⟩⟩
theorem mk_197 : am_mok TT 197 := ⟨lw_i6 143 rfl rfl, ci_10, rfl, by decide, cn_10, ⟨cm_10, cv_10, pd_10⟩, ⟨by decide, lw_i6 141 rfl rfl, lw_i6 142 rfl rfl⟩⟩
theorem mk_198 : am_mok TT 198 := ⟨lw_i6 148 rfl rfl, ci_10, rfl, by decide, cn_10, ⟨cm_10, cv_10, pd_20⟩, ⟨by decide, lw_i6 146 rfl rfl, lw_i6 147 rfl rfl⟩⟩
theorem mk_199 : am_mok TT 199 := ⟨lw_i7 166 rfl rfl, ci_10, rfl, by decide, cn_10, ⟨cm_10, cv_10, pd_34⟩, lw_i7 165 rfl rfl⟩
theorem mk_200 : am_mok TT 200 := ⟨lw_i6 152 rfl rfl, ci_10, rfl, by decide, cn_10, ⟨cm_10, cv_10, pd_18⟩, ⟨by decide, lw_i6 150 rfl rfl, lw_i6 151 rfl rfl⟩⟩
theorem mk_201 : am_mok TT 201 := ⟨lw_i6 156 rfl rfl, ci_10, rfl, by decide, cn_10, ⟨cm_10, cv_10, pd_7⟩, ⟨by decide, lw_i6 155 rfl rfl, lw_ip 35 rfl rfl⟩⟩
theorem mk_202 : am_mok TT 202 := ⟨lw_i6 176 rfl rfl, ci_10, rfl, by decide, cn_10, ⟨cm_10, cv_10, pd_6⟩, ⟨by decide, lw_i6 175 rfl rfl, lw_ip 38 rfl rfl⟩⟩
theorem mk_203 : am_mok TT 203 := ⟨lw_i6 179 rfl rfl, ci_10, rfl, by decide, cn_10, ⟨cm_10, cv_10, pd_8⟩, lw_i6 178 rfl rfl⟩
theorem mk_204 : am_mok TT 204 := ⟨lw_i6 182 rfl rfl, ci_10, rfl, by decide, cn_10, ⟨cm_10, cv_10, pd_8⟩, lw_i6 181 rfl rfl⟩
theorem mk_205 : am_mok TT 205 := ⟨lw_i6 172 rfl rfl, ci_10, rfl, by decide, cn_10, ⟨cm_10, cv_10, pd_3⟩, ⟨by decide, lw_i6 171 rfl rfl, lw_ip 37 rfl rfl⟩⟩
theorem mk_206 : am_mok TT 206 := ⟨lw_i7 26 rfl rfl, ci_10, rfl, by decide, cn_10, ⟨cm_10, cv_10, pd_8⟩, ⟨by decide, lw_i7 25 rfl rfl, lw_ip 57 rfl rfl⟩⟩
theorem mk_207 : am_mok TT 207 := ⟨lw_i6 197 rfl rfl, ci_10, rfl, by decide, cn_10, ⟨cm_10, cv_10, pd_44⟩, ⟨by decide, lw_i6 196 rfl rfl, lw_ip 41 rfl rfl⟩⟩
theorem mk_208 : am_mok TT 208 := ⟨lw_i6 203 rfl rfl, ci_10, rfl, by decide, cn_10, ⟨cm_10, cv_10, pd_8⟩, ⟨by decide, lw_i6 202 rfl rfl, lw_ip 42 rfl rfl⟩⟩
theorem mk_209 : am_mok TT 209 := ⟨lw_i6 168 rfl rfl, ci_10, rfl, by decide, cn_10, ⟨cm_10, cv_10, pd_12⟩, ⟨by decide, lw_i6 167 rfl rfl, lw_ip 36 rfl rfl⟩⟩
theorem mk_210 : am_mok TT 210 := ⟨lw_i7 22 rfl rfl, ci_10, rfl, by decide, cn_10, ⟨cm_10, cv_10, pd_8⟩, ⟨by decide, lw_i7 21 rfl rfl, lw_ip 56 rfl rfl⟩⟩
theorem mk_211 : am_mok TT 211 := ⟨lw_i6 231 rfl rfl, ci_10, rfl, by decide, cn_10, ⟨cm_10, cv_10, pd_46⟩, ⟨by decide, lw_i6 230 rfl rfl, lw_ip 49 rfl rfl⟩⟩
theorem mk_212 : am_mok TT 212 := ⟨lw_i6 207 rfl rfl, ci_10, rfl, by decide, cn_10, ⟨cm_10, cv_10, pd_15⟩, ⟨by decide, lw_i6 206 rfl rfl, lw_ip 43 rfl rfl⟩⟩
theorem mk_213 : am_mok TT 213 := ⟨lw_i6 219 rfl rfl, ci_10, rfl, by decide, cn_10, ⟨cm_10, cv_10, pd_45⟩, ⟨by decide, lw_i6 218 rfl rfl, lw_ip 46 rfl rfl⟩⟩
theorem mk_214 : am_mok TT 214 := ⟨lw_i6 227 rfl rfl, ci_10, rfl, by decide, cn_10, ⟨cm_10, cv_10, pd_2⟩, ⟨by decide, lw_i6 226 rfl rfl, lw_ip 48 rfl rfl⟩⟩
theorem mk_215 : am_mok TT 215 := ⟨lw_i6 223 rfl rfl, ci_10, rfl, by decide, cn_10, ⟨cm_10, cv_10, pd_9⟩, ⟨by decide, lw_i6 222 rfl rfl, lw_ip 47 rfl rfl⟩⟩
theorem mk_216 : am_mok TT 216 := ⟨lw_i6 160 rfl rfl, ci_10, rfl, by decide, cn_10, ⟨cm_10, cv_10, pd_6⟩, ⟨by decide, lw_i6 158 rfl rfl, lw_i6 159 rfl rfl⟩⟩
theorem mk_217 : am_mok TT 217 := ⟨lw_i7 30 rfl rfl, ci_10, rfl, by decide, cn_10, ⟨cm_10, cv_10, pd_6⟩, ⟨by decide, lw_i7 29 rfl rfl, lw_ip 58 rfl rfl⟩⟩
theorem mk_218 : am_mok TT 218 := ⟨lw_i7 2 rfl rfl, ci_10, rfl, by decide, cn_10, ⟨cm_10, cv_10, pd_6⟩, lw_i7 1 rfl rfl⟩
theorem mk_219 : am_mok TT 219 := ⟨lw_i6 235 rfl rfl, ci_10, rfl, by decide, cn_10, ⟨cm_10, cv_10, pd_8⟩, ⟨by decide, lw_i6 234 rfl rfl, lw_ip 50 rfl rfl⟩⟩
theorem mk_220 : am_mok TT 220 := ⟨lw_i6 215 rfl rfl, ci_10, rfl, by decide, cn_10, ⟨cm_10, cv_10, pd_15⟩, ⟨by decide, lw_i6 214 rfl rfl, lw_ip 45 rfl rfl⟩⟩
theorem mk_221 : am_mok TT 221 := ⟨lw_i7 18 rfl rfl, ci_10, rfl, by decide, cn_10, ⟨cm_10, cv_10, pd_15⟩, ⟨by decide, lw_i7 17 rfl rfl, lw_ip 55 rfl rfl⟩⟩
theorem mk_222 : am_mok TT 222 := ⟨lw_i6 211 rfl rfl, ci_10, rfl, by decide, cn_10, ⟨cm_10, cv_10, pd_4⟩, ⟨by decide, lw_i6 210 rfl rfl, lw_ip 44 rfl rfl⟩⟩
theorem mk_223 : am_mok TT 223 := ⟨lw_i7 6 rfl rfl, ci_10, rfl, by decide, cn_10, ⟨cm_10, cv_10, pd_8⟩, ⟨by decide, lw_i7 5 rfl rfl, lw_ip 52 rfl rfl⟩⟩
theorem mk_224 : am_mok TT 224 := ⟨lw_i6 239 rfl rfl, ci_10, rfl, by decide, cn_10, ⟨cm_10, cv_10, pd_4⟩, ⟨by decide, lw_i6 238 rfl rfl, lw_ip 51 rfl rfl⟩⟩
theorem mk_225 : am_mok TT 225 := ⟨lw_i7 14 rfl rfl, ci_10, rfl, by decide, cn_10, ⟨cm_10, cv_10, pd_8⟩, ⟨by decide, lw_i7 13 rfl rfl, lw_ip 54 rfl rfl⟩⟩
theorem mk_226 : am_mok TT 226 := ⟨lw_i7 10 rfl rfl, ci_10, rfl, by decide, cn_10, ⟨cm_10, cv_10, pd_4⟩, ⟨by decide, lw_i7 9 rfl rfl, lw_ip 53 rfl rfl⟩⟩
theorem mk_227 : am_mok TT 227 := ⟨lw_i6 192 rfl rfl, ci_10, rfl, by decide, cn_10, ⟨cm_10, cv_10, pd_4⟩, ⟨by decide, lw_i6 191 rfl rfl, lw_ip 40 rfl rfl⟩⟩
theorem mk_228 : am_mok TT 228 := ⟨lw_i6 164 rfl rfl, ci_10, rfl, by decide, cn_10, ⟨cm_10, cv_10, pd_6⟩, ⟨by decide, lw_i6 162 rfl rfl, lw_i6 163 rfl rfl⟩⟩
theorem mk_229 : am_mok TT 229 := ⟨lw_i7 54 rfl rfl, ci_10, rfl, by decide, cn_10, ⟨cm_10, cv_10, pd_8⟩, ⟨by decide, lw_i7 53 rfl rfl, lw_ip 63 rfl rfl⟩⟩
theorem mk_230 : am_mok TT 230 := ⟨lw_i7 50 rfl rfl, ci_10, rfl, by decide, cn_10, ⟨cm_10, cv_10, pd_8⟩, ⟨by decide, lw_i7 49 rfl rfl, lw_ip 62 rfl rfl⟩⟩
theorem mk_231 : am_mok TT 231 := ⟨lw_i7 58 rfl rfl, ci_10, rfl, by decide, cn_10, ⟨cm_10, cv_10, pd_8⟩, ⟨by decide, lw_i7 57 rfl rfl, lw_ip 64 rfl rfl⟩⟩
theorem mk_232 : am_mok TT 232 := ⟨lw_i7 46 rfl rfl, ci_10, rfl, by decide, cn_10, ⟨cm_10, cv_10, pd_12⟩, ⟨by decide, lw_i7 45 rfl rfl, lw_ip 61 rfl rfl⟩⟩
theorem mk_233 : am_mok TT 233 := ⟨lw_i7 42 rfl rfl, ci_10, rfl, by decide, cn_10, ⟨cm_10, cv_10, pd_4⟩, ⟨by decide, lw_i7 41 rfl rfl, lw_ip 60 rfl rfl⟩⟩
theorem mk_234 : am_mok TT 234 := ⟨lw_i7 38 rfl rfl, ci_10, rfl, by decide, cn_10, ⟨cm_10, cv_10, pd_6⟩, ⟨by decide, lw_i7 36 rfl rfl, lw_i7 37 rfl rfl⟩⟩
theorem mk_235 : am_mok TT 235 := ⟨lw_i7 86 rfl rfl, ci_10, rfl, by decide, cn_10, ⟨cm_10, cv_10, pd_8⟩, ⟨by decide, lw_i7 85 rfl rfl, lw_ip 69 rfl rfl⟩⟩
theorem mk_236 : am_mok TT 236 := ⟨lw_i7 102 rfl rfl, ci_10, rfl, by decide, cn_10, ⟨cm_10, cv_10, pd_8⟩, ⟨by decide, lw_i7 101 rfl rfl, lw_ip 72 rfl rfl⟩⟩
theorem mk_237 : am_mok TT 237 := ⟨lw_i7 205 rfl rfl, ci_10, rfl, by decide, cn_10, ⟨cm_10, cv_10, pd_1⟩, ⟨by decide, lw_i7 204 rfl rfl, lw_ip 85 rfl rfl⟩⟩
theorem mk_238 : am_mok TT 238 := ⟨lw_i7 70 rfl rfl, ci_10, rfl, by decide, cn_10, ⟨cm_10, cv_10, pd_1⟩, ⟨by decide, lw_i7 69 rfl rfl, lw_ip 66 rfl rfl⟩⟩
theorem mk_239 : am_mok TT 239 := ⟨lw_i7 201 rfl rfl, ci_10, rfl, by decide, cn_10, ⟨cm_10, cv_10, pd_29⟩, ⟨by decide, lw_i7 200 rfl rfl, lw_ip 84 rfl rfl⟩⟩
theorem mk_240 : am_mok TT 240 := ⟨lw_i7 233 rfl rfl, ci_10, rfl, by decide, cn_10, ⟨cm_10, cv_10, pd_29⟩, ⟨by decide, lw_i7 232 rfl rfl, lw_ip 87 rfl rfl⟩⟩
theorem mk_241 : am_mok TT 241 := ⟨lw_i7 94 rfl rfl, ci_10, rfl, by decide, cn_10, ⟨cm_10, cv_10, pd_12⟩, ⟨by decide, lw_i7 93 rfl rfl, lw_ip 71 rfl rfl⟩⟩
theorem mk_242 : am_mok TT 242 := ⟨lw_i7 142 rfl rfl, ci_10, rfl, by decide, cn_10, ⟨cm_10, cv_10, pd_6⟩, lw_i7 141 rfl rfl⟩
theorem mk_243 : am_mok TT 243 := ⟨lw_i7 78 rfl rfl, ci_10, rfl, by decide, cn_10, ⟨cm_10, cv_10, pd_9⟩, ⟨by decide, lw_i7 77 rfl rfl, lw_ip 68 rfl rfl⟩⟩
theorem mk_244 : am_mok TT 244 := ⟨lw_i7 66 rfl rfl, ci_10, rfl, by decide, cn_10, ⟨cm_10, cv_10, pd_1⟩, ⟨by decide, lw_i7 65 rfl rfl, lw_ip 65 rfl rfl⟩⟩
theorem mk_245 : am_mok TT 245 := ⟨lw_i7 115 rfl rfl, ci_10, rfl, by decide, cn_10, ⟨cm_10, cv_10, pd_8⟩, ⟨by decide, lw_i7 114 rfl rfl, lw_ip 75 rfl rfl⟩⟩
theorem mk_246 : am_mok TT 246 := ⟨lw_i7 119 rfl rfl, ci_10, rfl, by decide, cn_10, ⟨cm_10, cv_10, pd_6⟩, ⟨by decide, lw_i7 118 rfl rfl, lw_ip 76 rfl rfl⟩⟩
theorem mk_247 : am_mok TT 247 := ⟨lw_i7 123 rfl rfl, ci_10, rfl, by decide, cn_10, ⟨cm_10, cv_10, pd_6⟩, ⟨by decide, lw_i7 122 rfl rfl, lw_ip 77 rfl rfl⟩⟩
theorem mk_248 : am_mok TT 248 := ⟨lw_i7 110 rfl rfl, ci_10, rfl, by decide, cn_10, ⟨cm_10, cv_10, pd_9⟩, ⟨by decide, lw_i7 109 rfl rfl, lw_ip 74 rfl rfl⟩⟩
theorem mk_249 : am_mok TT 249 := ⟨lw_i7 106 rfl rfl, ci_10, rfl, by decide, cn_10, ⟨cm_10, cv_10, pd_9⟩, ⟨by decide, lw_i7 105 rfl rfl, lw_ip 73 rfl rfl⟩⟩
theorem mk_250 : am_mok TT 250 := ⟨lw_i7 74 rfl rfl, ci_10, rfl, by decide, cn_10, ⟨cm_10, cv_10, pd_1⟩, ⟨by decide, lw_i7 73 rfl rfl, lw_ip 67 rfl rfl⟩⟩
theorem mk_251 : am_mok TT 251 := ⟨lw_i7 62 rfl rfl, ci_10, rfl, by decide, cn_10, ⟨cm_10, cv_10, pd_6⟩, ⟨by decide, lw_i7 60 rfl rfl, lw_i7 61 rfl rfl⟩⟩
theorem mk_252 : am_mok TT 252 := ⟨lw_i7 90 rfl rfl, ci_10, rfl, by decide, cn_10, ⟨cm_10, cv_10, pd_6⟩, ⟨by decide, lw_i7 89 rfl rfl, lw_ip 70 rfl rfl⟩⟩
theorem mk_253 : am_mok TT 253 := ⟨lw_i7 82 rfl rfl, ci_10, rfl, by decide, cn_10, ⟨cm_10, cv_10, pd_9⟩, ⟨by decide, lw_i7 80 rfl rfl, lw_i7 81 rfl rfl⟩⟩
theorem mk_254 : am_mok TT 254 := ⟨lw_i7 98 rfl rfl, ci_10, rfl, by decide, cn_10, ⟨cm_10, cv_10, pd_9⟩, ⟨by decide, lw_i7 96 rfl rfl, lw_i7 97 rfl rfl⟩⟩
theorem mk_255 : am_mok TT 255 := ⟨lw_i7 139 rfl rfl, ci_10, rfl, by decide, cn_10, ⟨cm_10, cv_10, pd_16⟩, ⟨by decide, lw_i7 138 rfl rfl, lw_ip 80 rfl rfl⟩⟩
theorem mk_256 : am_mok TT 256 := ⟨lw_i7 135 rfl rfl, ci_10, rfl, by decide, cn_10, ⟨cm_10, cv_10, pd_9⟩, ⟨by decide, lw_i7 134 rfl rfl, lw_ip 79 rfl rfl⟩⟩
theorem mk_257 : am_mok TT 257 := ⟨lw_i7 213 rfl rfl, ci_10, rfl, by decide, cn_10, ⟨cm_10, cv_10, pd_6⟩, ⟨by decide, lw_i7 212 rfl rfl, lw_ip 86 rfl rfl⟩⟩
theorem mk_258 : am_mok TT 258 := ⟨lw_i7 131 rfl rfl, ci_10, rfl, by decide, cn_10, ⟨cm_10, cv_10, pd_1⟩, ⟨by decide, lw_i7 130 rfl rfl, lw_ip 78 rfl rfl⟩⟩
theorem mk_259 : am_mok TT 259 := ⟨lw_i7 127 rfl rfl, ci_10, rfl, by decide, cn_10, ⟨cm_10, cv_10, pd_1⟩, ⟨by decide, lw_i7 125 rfl rfl, lw_i7 126 rfl rfl⟩⟩
theorem mk_260 : am_mok TT 260 := ⟨lw_i7 150 rfl rfl, ci_10, rfl, by decide, cn_10, ⟨cm_10, cv_10, pd_12⟩, ⟨by decide, lw_i7 149 rfl rfl, lw_ip 81 rfl rfl⟩⟩
theorem mk_261 : am_mok TT 261 := ⟨lw_i7 146 rfl rfl, ci_10, rfl, by decide, cn_10, ⟨cm_10, cv_10, pd_26⟩, ⟨by decide, lw_i7 144 rfl rfl, lw_i7 145 rfl rfl⟩⟩
theorem mk_262 : am_mok TT 262 := ⟨lw_i7 158 rfl rfl, ci_10, rfl, by decide, cn_10, ⟨cm_10, cv_10, pd_8⟩, ⟨by decide, lw_i7 157 rfl rfl, lw_ip 82 rfl rfl⟩⟩
theorem mk_263 : am_mok TT 263 := ⟨lw_i7 154 rfl rfl, ci_10, rfl, by decide, cn_10, ⟨cm_10, cv_10, pd_6⟩, ⟨by decide, lw_i7 152 rfl rfl, lw_i7 153 rfl rfl⟩⟩
theorem mk_264 : am_mok TT 264 := ⟨lw_i7 170 rfl rfl, ci_10, rfl, by decide, cn_10, ⟨cm_10, cv_10, pd_12⟩, ⟨by decide, lw_i7 169 rfl rfl, lw_ip 83 rfl rfl⟩⟩
theorem mk_265 : am_mok TT 265 := ⟨lw_i7 162 rfl rfl, ci_10, rfl, by decide, cn_10, ⟨cm_10, cv_10, pd_12⟩, ⟨by decide, lw_i7 160 rfl rfl, lw_i7 161 rfl rfl⟩⟩
theorem mk_266 : am_mok TT 266 := ⟨lw_i7 174 rfl rfl, ci_10, rfl, by decide, cn_10, ⟨cm_10, cv_10, pd_24⟩, ⟨by decide, lw_i7 172 rfl rfl, lw_i7 173 rfl rfl⟩⟩
theorem mk_267 : am_mok TT 267 := ⟨lw_i7 178 rfl rfl, ci_10, rfl, by decide, cn_10, ⟨cm_10, cv_10, pd_24⟩, ⟨by decide, lw_i7 176 rfl rfl, lw_i7 177 rfl rfl⟩⟩
theorem mk_268 : am_mok TT 268 := ⟨lw_i7 182 rfl rfl, ci_10, rfl, by decide, cn_10, ⟨cm_10, cv_10, pd_12⟩, ⟨by decide, lw_i7 180 rfl rfl, lw_i7 181 rfl rfl⟩⟩
theorem mk_269 : am_mok TT 269 := ⟨lw_i7 187 rfl rfl, ci_10, rfl, by decide, cn_10, ⟨cm_10, cv_10, pd_6⟩, ⟨by decide, lw_i7 185 rfl rfl, lw_i7 186 rfl rfl⟩⟩
theorem mk_270 : am_mok TT 270 := ⟨lw_i7 191 rfl rfl, ci_10, rfl, by decide, cn_10, ⟨cm_10, cv_10, pd_12⟩, ⟨by decide, lw_i7 189 rfl rfl, lw_i7 190 rfl rfl⟩⟩
theorem mk_271 : am_mok TT 271 := ⟨lw_i7 197 rfl rfl, ci_10, rfl, by decide, cn_10, ⟨cm_10, cv_10, pd_9⟩, ⟨by decide, lw_i7 195 rfl rfl, lw_i7 196 rfl rfl⟩⟩
theorem mk_272 : am_mok TT 272 := ⟨lw_i7 209 rfl rfl, ci_10, rfl, by decide, cn_10, ⟨cm_10, cv_10, pd_9⟩, ⟨by decide, lw_i7 207 rfl rfl, lw_i7 208 rfl rfl⟩⟩
theorem mk_273 : am_mok TT 273 := ⟨lw_i7 217 rfl rfl, ci_10, rfl, by decide, cn_10, ⟨cm_10, cv_10, pd_6⟩, ⟨by decide, lw_i7 215 rfl rfl, lw_i7 216 rfl rfl⟩⟩
theorem mk_274 : am_mok TT 274 := ⟨lw_i7 221 rfl rfl, ci_10, rfl, by decide, cn_10, ⟨cm_10, cv_10, pd_6⟩, ⟨by decide, lw_i7 219 rfl rfl, lw_i7 220 rfl rfl⟩⟩
theorem mk_275 : am_mok TT 275 := ⟨lw_i7 225 rfl rfl, ci_10, rfl, by decide, cn_10, ⟨cm_10, cv_10, pd_6⟩, ⟨by decide, lw_i7 223 rfl rfl, lw_i7 224 rfl rfl⟩⟩
theorem mk_276 : am_mok TT 276 := ⟨lw_i7 237 rfl rfl, ci_10, rfl, by decide, cn_10, ⟨cm_10, cv_10, pd_12⟩, ⟨by decide, lw_i7 236 rfl rfl, lw_ip 88 rfl rfl⟩⟩
theorem mk_277 : am_mok TT 277 := ⟨lw_i7 229 rfl rfl, ci_10, rfl, by decide, cn_10, ⟨cm_10, cv_10, pd_9⟩, ⟨by decide, lw_i7 227 rfl rfl, lw_i7 228 rfl rfl⟩⟩
theorem mk_278 : am_mok TT 278 := ⟨lw_i8 1 rfl rfl, ci_10, rfl, by decide, cn_10, ⟨cm_10, cv_10, pd_6⟩, ⟨by decide, lw_i7 239 rfl rfl, lw_i8 0 rfl rfl⟩⟩
theorem mk_279 : am_mok TT 279 := ⟨lw_i8 5 rfl rfl, ci_10, rfl, by decide, cn_10, ⟨cm_10, cv_10, pd_6⟩, ⟨by decide, lw_i8 3 rfl rfl, lw_i8 4 rfl rfl⟩⟩
theorem mk_280 : am_mok TT 280 := ⟨lw_i8 13 rfl rfl, ci_10, rfl, by decide, cn_10, ⟨cm_10, cv_10, pd_6⟩, ⟨by decide, lw_i8 12 rfl rfl, lw_ip 89 rfl rfl⟩⟩
theorem mk_281 : am_mok TT 281 := ⟨lw_i8 9 rfl rfl, ci_10, rfl, by decide, cn_10, ⟨cm_10, cv_10, pd_6⟩, ⟨by decide, lw_i8 7 rfl rfl, lw_i8 8 rfl rfl⟩⟩
theorem mk_282 : am_mok TT 282 := ⟨lw_i8 17 rfl rfl, ci_10, rfl, by decide, cn_10, ⟨cm_10, cv_10, pd_6⟩, ⟨by decide, lw_i8 15 rfl rfl, lw_i8 16 rfl rfl⟩⟩
theorem mk_283 : am_mok TT 283 := ⟨lw_i8 25 rfl rfl, ci_10, rfl, by decide, cn_10, ⟨cm_10, cv_10, pd_9⟩, ⟨by decide, lw_i8 24 rfl rfl, lw_ip 90 rfl rfl⟩⟩
theorem mk_284 : am_mok TT 284 := ⟨lw_i8 21 rfl rfl, ci_10, rfl, by decide, cn_10, ⟨cm_10, cv_10, pd_9⟩, ⟨by decide, lw_i8 19 rfl rfl, lw_i8 20 rfl rfl⟩⟩
theorem mk_285 : am_mok TT 285 := ⟨lw_i8 29 rfl rfl, ci_10, rfl, by decide, cn_10, ⟨cm_10, cv_10, pd_6⟩, ⟨by decide, lw_i8 27 rfl rfl, lw_i8 28 rfl rfl⟩⟩
theorem mk_286 : am_mok TT 286 := ⟨lw_i8 41 rfl rfl, ci_10, rfl, by decide, cn_10, ⟨cm_10, cv_10, pd_6⟩, ⟨by decide, lw_i8 40 rfl rfl, lw_ip 92 rfl rfl⟩⟩
theorem mk_287 : am_mok TT 287 := ⟨lw_i8 37 rfl rfl, ci_10, rfl, by decide, cn_10, ⟨cm_10, cv_10, pd_6⟩, ⟨by decide, lw_i8 35 rfl rfl, lw_i8 36 rfl rfl⟩⟩
theorem mk_288 : am_mok TT 288 := ⟨lw_i8 45 rfl rfl, ci_10, rfl, by decide, cn_10, ⟨cm_10, cv_10, pd_6⟩, ⟨by decide, lw_i8 43 rfl rfl, lw_i8 44 rfl rfl⟩⟩
theorem mk_289 : am_mok TT 289 := ⟨lw_i8 53 rfl rfl, ci_10, rfl, by decide, cn_10, ⟨cm_10, cv_10, pd_1⟩, ⟨by decide, lw_i8 52 rfl rfl, lw_ip 93 rfl rfl⟩⟩
theorem mk_290 : am_mok TT 290 := ⟨lw_i8 49 rfl rfl, ci_10, rfl, by decide, cn_10, ⟨cm_10, cv_10, pd_1⟩, ⟨by decide, lw_i8 47 rfl rfl, lw_i8 48 rfl rfl⟩⟩
theorem mk_291 : am_mok TT 291 := ⟨lw_i8 57 rfl rfl, ci_10, rfl, by decide, cn_10, ⟨cm_10, cv_10, pd_1⟩, ⟨by decide, lw_i8 55 rfl rfl, lw_i8 56 rfl rfl⟩⟩
theorem mk_292 : am_mok TT 292 := ⟨lw_i8 61 rfl rfl, ci_10, rfl, by decide, cn_10, ⟨cm_10, cv_10, pd_1⟩, ⟨by decide, lw_i8 59 rfl rfl, lw_i8 60 rfl rfl⟩⟩
theorem mk_293 : am_mok TT 293 := ⟨lw_i8 70 rfl rfl, ci_10, rfl, by decide, cn_10, ⟨cm_10, cv_10, pd_7⟩, ⟨by decide, lw_i8 69 rfl rfl, lw_ip 94 rfl rfl⟩⟩
theorem mk_294 : am_mok TT 294 := ⟨lw_i8 78 rfl rfl, ci_10, rfl, by decide, cn_10, ⟨cm_10, cv_10, pd_7⟩, ⟨by decide, lw_i8 77 rfl rfl, lw_ip 96 rfl rfl⟩⟩
theorem mk_295 : am_mok TT 295 := ⟨lw_i8 74 rfl rfl, ci_10, rfl, by decide, cn_10, ⟨cm_10, cv_10, pd_7⟩, ⟨by decide, lw_i8 73 rfl rfl, lw_ip 95 rfl rfl⟩⟩
theorem mk_296 : am_mok TT 296 := ⟨lw_i8 65 rfl rfl, ci_10, rfl, by decide, cn_10, ⟨cm_10, cv_10, pd_6⟩, ⟨by decide, lw_i8 63 rfl rfl, lw_i8 64 rfl rfl⟩⟩
theorem mk_297 : am_mok TT 297 := ⟨lw_i8 82 rfl rfl, ci_10, rfl, by decide, cn_10, ⟨cm_10, cv_10, pd_6⟩, ⟨by decide, lw_i8 80 rfl rfl, lw_i8 81 rfl rfl⟩⟩
theorem mk_298 : am_mok TT 298 := ⟨lw_i8 86 rfl rfl, ci_10, rfl, by decide, cn_10, ⟨cm_10, cv_10, pd_9⟩, ⟨by decide, lw_i8 84 rfl rfl, lw_i8 85 rfl rfl⟩⟩
theorem mk_299 : am_mok TT 299 := ⟨lw_i8 94 rfl rfl, ci_10, rfl, by decide, cn_10, ⟨cm_10, cv_10, pd_13⟩, ⟨by decide, lw_i8 93 rfl rfl, lw_ip 97 rfl rfl⟩⟩
theorem mk_300 : am_mok TT 300 := ⟨lw_i8 103 rfl rfl, ci_10, rfl, by decide, cn_10, ⟨cm_10, cv_10, pd_17⟩, ⟨by decide, lw_i8 102 rfl rfl, lw_ip 99 rfl rfl⟩⟩
theorem mk_301 : am_mok TT 301 := ⟨lw_i8 99 rfl rfl, ci_10, rfl, by decide, cn_10, ⟨cm_10, cv_10, pd_13⟩, ⟨by decide, lw_i8 98 rfl rfl, lw_ip 98 rfl rfl⟩⟩
theorem mk_302 : am_mok TT 302 := ⟨lw_i8 90 rfl rfl, ci_10, rfl, by decide, cn_10, ⟨cm_10, cv_10, pd_13⟩, ⟨by decide, lw_i8 88 rfl rfl, lw_i8 89 rfl rfl⟩⟩
theorem mk_303 : am_mok TT 303 := ⟨lw_i8 107 rfl rfl, ci_10, rfl, by decide, cn_10, ⟨cm_10, cv_10, pd_16⟩, ⟨by decide, lw_i8 105 rfl rfl, lw_i8 106 rfl rfl⟩⟩
theorem mk_304 : am_mok TT 304 := ⟨lw_i8 111 rfl rfl, ci_10, rfl, by decide, cn_10, ⟨cm_10, cv_10, pd_13⟩, ⟨by decide, lw_i8 109 rfl rfl, lw_i8 110 rfl rfl⟩⟩
theorem mk_305 : am_mok TT 305 := ⟨lw_i8 119 rfl rfl, ci_10, rfl, by decide, cn_10, ⟨cm_10, cv_10, pd_1⟩, ⟨by decide, lw_i8 118 rfl rfl, lw_ip 100 rfl rfl⟩⟩
theorem mk_306 : am_mok TT 306 := ⟨lw_i8 115 rfl rfl, ci_10, rfl, by decide, cn_10, ⟨cm_10, cv_10, pd_1⟩, ⟨by decide, lw_i8 113 rfl rfl, lw_i8 114 rfl rfl⟩⟩
theorem mk_307 : am_mok TT 307 := ⟨lw_i8 123 rfl rfl, ci_10, rfl, by decide, cn_10, ⟨cm_10, cv_10, pd_1⟩, ⟨by decide, lw_i8 121 rfl rfl, lw_i8 122 rfl rfl⟩⟩
theorem mk_308 : am_mok TT 308 := ⟨lw_i8 127 rfl rfl, ci_10, rfl, by decide, cn_10, ⟨cm_10, cv_10, pd_1⟩, ⟨by decide, lw_i8 125 rfl rfl, lw_i8 126 rfl rfl⟩⟩
theorem mk_309 : am_mok TT 309 := ⟨lw_i8 139 rfl rfl, ci_10, rfl, by decide, cn_10, ⟨cm_10, cv_10, pd_25⟩, ⟨by decide, lw_i8 138 rfl rfl, lw_ip 102 rfl rfl⟩⟩
theorem mk_310 : am_mok TT 310 := ⟨lw_i8 135 rfl rfl, ci_10, rfl, by decide, cn_10, ⟨cm_10, cv_10, pd_6⟩, ⟨by decide, lw_i8 134 rfl rfl, lw_ip 101 rfl rfl⟩⟩
theorem mk_311 : am_mok TT 311 := ⟨lw_i8 131 rfl rfl, ci_10, rfl, by decide, cn_10, ⟨cm_10, cv_10, pd_6⟩, ⟨by decide, lw_i8 129 rfl rfl, lw_i8 130 rfl rfl⟩⟩
theorem mk_312 : am_mok TT 312 := ⟨lw_i8 143 rfl rfl, ci_10, rfl, by decide, cn_10, ⟨cm_10, cv_10, pd_6⟩, ⟨by decide, lw_i8 141 rfl rfl, lw_i8 142 rfl rfl⟩⟩
theorem mk_313 : am_mok TT 313 := ⟨lw_i8 147 rfl rfl, ci_10, rfl, by decide, cn_10, ⟨cm_10, cv_10, pd_12⟩, ⟨by decide, lw_i8 145 rfl rfl, lw_i8 146 rfl rfl⟩⟩
theorem mk_314 : am_mok TT 314 := ⟨lw_i8 156 rfl rfl, ci_10, rfl, by decide, cn_10, ⟨cm_10, cv_10, pd_8⟩, ⟨by decide, lw_i8 154 rfl rfl, lw_i8 155 rfl rfl⟩⟩
theorem mk_315 : am_mok TT 315 := ⟨lw_i8 160 rfl rfl, ci_10, rfl, by decide, cn_10, ⟨cm_10, cv_10, pd_6⟩, ⟨by decide, lw_i8 158 rfl rfl, lw_i8 159 rfl rfl⟩⟩
theorem mk_316 : am_mok TT 316 := ⟨lw_i8 181 rfl rfl, ci_10, rfl, by decide, cn_10, ⟨cm_10, cv_10, pd_6⟩, ⟨by decide, lw_i8 180 rfl rfl, lw_ip 107 rfl rfl⟩⟩
theorem mk_317 : am_mok TT 317 := ⟨lw_i8 177 rfl rfl, ci_10, rfl, by decide, cn_10, ⟨cm_10, cv_10, pd_4⟩, ⟨by decide, lw_i8 176 rfl rfl, lw_ip 106 rfl rfl⟩⟩
theorem mk_318 : am_mok TT 318 := ⟨lw_i8 173 rfl rfl, ci_10, rfl, by decide, cn_10, ⟨cm_10, cv_10, pd_8⟩, ⟨by decide, lw_i8 172 rfl rfl, lw_ip 105 rfl rfl⟩⟩
theorem mk_319 : am_mok TT 319 := ⟨lw_i8 186 rfl rfl, ci_10, rfl, by decide, cn_10, ⟨cm_10, cv_10, pd_8⟩, ⟨by decide, lw_i8 185 rfl rfl, lw_ip 108 rfl rfl⟩⟩
theorem mk_320 : am_mok TT 320 := ⟨lw_i8 190 rfl rfl, ci_10, rfl, by decide, cn_10, ⟨cm_10, cv_10, pd_6⟩, ⟨by decide, lw_i8 189 rfl rfl, lw_ip 109 rfl rfl⟩⟩
theorem mk_321 : am_mok TT 321 := ⟨lw_i8 169 rfl rfl, ci_10, rfl, by decide, cn_10, ⟨cm_10, cv_10, pd_7⟩, ⟨by decide, lw_i8 168 rfl rfl, lw_ip 104 rfl rfl⟩⟩
theorem mk_322 : am_mok TT 322 := ⟨lw_i8 164 rfl rfl, ci_10, rfl, by decide, cn_10, ⟨cm_10, cv_10, pd_6⟩, ⟨by decide, lw_i8 162 rfl rfl, lw_i8 163 rfl rfl⟩⟩
theorem mk_323 : am_mok TT 323 := ⟨lw_i8 194 rfl rfl, ci_10, rfl, by decide, cn_10, ⟨cm_10, cv_10, pd_6⟩, ⟨by decide, lw_i8 192 rfl rfl, lw_i8 193 rfl rfl⟩⟩
theorem mk_324 : am_mok TT 324 := ⟨lw_i8 198 rfl rfl, ci_10, rfl, by decide, cn_10, ⟨cm_10, cv_10, pd_12⟩, ⟨by decide, lw_i8 196 rfl rfl, lw_i8 197 rfl rfl⟩⟩
theorem mk_325 : am_mok TT 325 := ⟨lw_i8 206 rfl rfl, ci_10, rfl, by decide, cn_10, ⟨cm_10, cv_10, pd_11⟩, ⟨by decide, lw_i8 205 rfl rfl, lw_ip 110 rfl rfl⟩⟩
theorem mk_326 : am_mok TT 326 := ⟨lw_i8 202 rfl rfl, ci_10, rfl, by decide, cn_10, ⟨cm_10, cv_10, pd_1⟩, ⟨by decide, lw_i8 200 rfl rfl, lw_i8 201 rfl rfl⟩⟩
theorem mk_327 : am_mok TT 327 := ⟨lw_i8 210 rfl rfl, ci_10, rfl, by decide, cn_10, ⟨cm_10, cv_10, pd_1⟩, ⟨by decide, lw_i8 208 rfl rfl, lw_i8 209 rfl rfl⟩⟩
theorem mk_328 : am_mok TT 328 := ⟨lw_i4 77 rfl rfl, ci_12, rfl, by decide, cn_12, ⟨cm_12, cv_12, pd_6⟩, lw_i4 76 rfl rfl⟩
theorem mk_329 : am_mok TT 329 := ⟨lw_i1 216 rfl rfl, ci_14, rfl, by decide, cn_14, ⟨cm_14, cv_14, pd_1⟩, ⟨by decide, lw_i1 214 rfl rfl, lw_i1 215 rfl rfl⟩⟩
theorem mk_330 : am_mok TT 330 := ⟨lw_i1 226 rfl rfl, ci_14, rfl, by decide, cn_14, ⟨cm_14, cv_14, pd_5⟩, ⟨by decide, lw_i1 224 rfl rfl, lw_i1 225 rfl rfl⟩⟩
theorem mk_331 : am_mok TT 331 := ⟨lw_i1 220 rfl rfl, ci_14, rfl, by decide, cn_14, ⟨cm_14, cv_14, pd_0⟩, ⟨by decide, lw_i1 218 rfl rfl, lw_i1 219 rfl rfl⟩⟩
theorem mk_332 : am_mok TT 332 := ⟨lw_i1 230 rfl rfl, ci_14, rfl, by decide, cn_14, ⟨cm_14, cv_14, pd_4⟩, ⟨by decide, lw_i1 228 rfl rfl, lw_i1 229 rfl rfl⟩⟩
theorem mk_333 : am_mok TT 333 := ⟨lw_i1 236 rfl rfl, ci_14, rfl, by decide, cn_14, ⟨cm_14, cv_14, pd_11⟩, lw_i1 235 rfl rfl⟩
theorem mk_334 : am_mok TT 334 := ⟨lw_i1 233 rfl rfl, ci_15, rfl, by decide, cn_15, ⟨cm_15, cv_15, pd_49⟩, lw_i1 232 rfl rfl⟩
theorem mk_335 : am_mok TT 335 := ⟨lw_i2 14 rfl rfl, ci_16, rfl, by decide, cn_16, ⟨cm_16, cv_16, pd_49⟩, lw_i2 13 rfl rfl⟩
theorem mk_336 : am_mok TT 336 := ⟨lw_i2 10 rfl rfl, ci_16, rfl, by decide, cn_16, ⟨cm_16, cv_16, pd_48⟩, lw_i2 9 rfl rfl⟩
theorem mk_337 : am_mok TT 337 := ⟨lw_i2 4 rfl rfl, ci_16, rfl, by decide, cn_16, ⟨cm_16, cv_16, pd_49⟩, lw_i2 3 rfl rfl⟩
theorem mk_338 : am_mok TT 338 := ⟨lw_i2 7 rfl rfl, ci_16, rfl, by decide, cn_16, ⟨cm_16, cv_16, pd_27⟩, lw_i2 6 rfl rfl⟩
theorem mk_339 : am_mok TT 339 := ⟨lw_i2 1 rfl rfl, ci_18, rfl, by decide, cn_18, ⟨cm_18, cv_18, pd_23⟩, lw_i2 0 rfl rfl⟩
theorem mk_341 : am_mok TT 341 := ⟨lw_i5 201 rfl rfl, ci_0, rfl, by decide, cn_0, ⟨cm_0, cv_0, pd_12⟩, ⟨by decide, lw_i5 199 rfl rfl, lw_i5 200 rfl rfl⟩⟩
theorem mkc_0 : ∀ y ∈ ([4, 5, 6, 7, 8, 9, 10, 11, 12, 13, 14, 15] : List Nat), am_mok TT y := List.forall_mem_cons.mpr ⟨mk_4, List.forall_mem_cons.mpr ⟨mk_5, List.forall_mem_cons.mpr ⟨mk_6, List.forall_mem_cons.mpr ⟨mk_7, List.forall_mem_cons.mpr ⟨mk_8, List.forall_mem_cons.mpr ⟨mk_9, List.forall_mem_cons.mpr ⟨mk_10, List.forall_mem_cons.mpr ⟨mk_11, List.forall_mem_cons.mpr ⟨mk_12, List.forall_mem_cons.mpr ⟨mk_13, List.forall_mem_cons.mpr ⟨mk_14, List.forall_mem_cons.mpr ⟨mk_15, fun _ h => absurd h List.not_mem_nil⟩⟩⟩⟩⟩⟩⟩⟩⟩⟩⟩⟩
theorem mkc_1 : ∀ y ∈ ([16, 17, 18, 19, 20, 21, 22, 23, 24, 25, 26, 27, 28, 29, 30, 31] : List Nat), am_mok TT y := List.forall_mem_cons.mpr ⟨mk_16, List.forall_mem_cons.mpr ⟨mk_17, List.forall_mem_cons.mpr ⟨mk_18, List.forall_mem_cons.mpr ⟨mk_19, List.forall_mem_cons.mpr ⟨mk_20, List.forall_mem_cons.mpr ⟨mk_21, List.forall_mem_cons.mpr ⟨mk_22, List.forall_mem_cons.mpr ⟨mk_23, List.forall_mem_cons.mpr ⟨mk_24, List.forall_mem_cons.mpr ⟨mk_25, List.forall_mem_cons.mpr ⟨mk_26, List.forall_mem_cons.mpr ⟨mk_27, List.forall_mem_cons.mpr ⟨mk_28, List.forall_mem_cons.mpr ⟨mk_29, List.forall_mem_cons.mpr ⟨mk_30, List.forall_mem_cons.mpr ⟨mk_31, fun _ h => absurd h List.not_mem_nil⟩⟩⟩⟩⟩⟩⟩⟩⟩⟩⟩⟩⟩⟩⟩⟩
theorem mkc_2 : ∀ y ∈ ([32, 33, 34, 35, 36, 37, 38, 39, 40, 41, 42, 43, 44, 45, 46, 47] : List Nat), am_mok TT y := List.forall_mem_cons.mpr ⟨mk_32, List.forall_mem_cons.mpr ⟨mk_33, List.forall_mem_cons.mpr ⟨mk_34, List.forall_mem_cons.mpr ⟨mk_35, List.forall_mem_cons.mpr ⟨mk_36, List.forall_mem_cons.mpr ⟨mk_37, List.forall_mem_cons.mpr ⟨mk_38, List.forall_mem_cons.mpr ⟨mk_39, List.forall_mem_cons.mpr ⟨mk_40, List.forall_mem_cons.mpr ⟨mk_41, List.forall_mem_cons.mpr ⟨mk_42, List.forall_mem_cons.mpr ⟨mk_43, List.forall_mem_cons.mpr ⟨mk_44, List.forall_mem_cons.mpr ⟨mk_45, List.forall_mem_cons.mpr ⟨mk_46, List.forall_mem_cons.mpr ⟨mk_47, fun _ h => absurd h List.not_mem_nil⟩⟩⟩⟩⟩⟩⟩⟩⟩⟩⟩⟩⟩⟩⟩⟩
theorem mkc_3 : ∀ y ∈ ([48, 49, 50, 51, 52, 53, 54, 55, 56, 57, 58, 59, 60, 61, 62, 63] : List Nat), am_mok TT y := List.forall_mem_cons.mpr ⟨mk_48, List.forall_mem_cons.mpr ⟨mk_49, List.forall_mem_cons.mpr ⟨mk_50, List.forall_mem_cons.mpr ⟨mk_51, List.forall_mem_cons.mpr ⟨mk_52, List.forall_mem_cons.mpr ⟨mk_53, List.forall_mem_cons.mpr ⟨mk_54, List.forall_mem_cons.mpr ⟨mk_55, List.forall_mem_cons.mpr ⟨mk_56, List.forall_mem_cons.mpr ⟨mk_57, List.forall_mem_cons.mpr ⟨mk_58, List.forall_mem_cons.mpr ⟨mk_59, List.forall_mem_cons.mpr ⟨mk_60, List.forall_mem_cons.mpr ⟨mk_61, List.forall_mem_cons.mpr ⟨mk_62, List.forall_mem_cons.mpr ⟨mk_63, fun _ h => absurd h List.not_mem_nil⟩⟩⟩⟩⟩⟩⟩⟩⟩⟩⟩⟩⟩⟩⟩⟩
theorem mkc_4 : ∀ y ∈ ([64, 65, 66, 67, 68, 69, 70, 71, 72, 73, 74, 75, 76, 77, 78, 79] : List Nat), am_mok TT y := List.forall_mem_cons.mpr ⟨mk_64, List.forall_mem_cons.mpr ⟨mk_65, List.forall_mem_cons.mpr ⟨mk_66, List.forall_mem_cons.mpr ⟨mk_67, List.forall_mem_cons.mpr ⟨mk_68, List.forall_mem_cons.mpr ⟨mk_69, List.forall_mem_cons.mpr ⟨mk_70, List.forall_mem_cons.mpr ⟨mk_71, List.forall_mem_cons.mpr ⟨mk_72, List.forall_mem_cons.mpr ⟨mk_73, List.forall_mem_cons.mpr ⟨mk_74, List.forall_mem_cons.mpr ⟨mk_75, List.forall_mem_cons.mpr ⟨mk_76, List.forall_mem_cons.mpr ⟨mk_77, List.forall_mem_cons.mpr ⟨mk_78, List.forall_mem_cons.mpr ⟨mk_79, fun _ h => absurd h List.not_mem_nil⟩⟩⟩⟩⟩⟩⟩⟩⟩⟩⟩⟩⟩⟩⟩⟩
theorem mkc_5 : ∀ y ∈ ([80, 81, 82, 83, 84, 85, 86, 87, 88, 89, 90, 91, 92, 93, 94, 95] : List Nat), am_mok TT y := List.forall_mem_cons.mpr ⟨mk_80, List.forall_mem_cons.mpr ⟨mk_81, List.forall_mem_cons.mpr ⟨mk_82, List.forall_mem_cons.mpr ⟨mk_83, List.forall_mem_cons.mpr ⟨mk_84, List.forall_mem_cons.mpr ⟨mk_85, List.forall_mem_cons.mpr ⟨mk_86, List.forall_mem_cons.mpr ⟨mk_87, List.forall_mem_cons.mpr ⟨mk_88, List.forall_mem_cons.mpr ⟨mk_89, List.forall_mem_cons.mpr ⟨mk_90, List.forall_mem_cons.mpr ⟨mk_91, List.forall_mem_cons.mpr ⟨mk_92, List.forall_mem_cons.mpr ⟨mk_93, List.forall_mem_cons.mpr ⟨mk_94, List.forall_mem_cons.mpr ⟨mk_95, fun _ h => absurd h List.not_mem_nil⟩⟩⟩⟩⟩⟩⟩⟩⟩⟩⟩⟩⟩⟩⟩⟩
theorem mkc_6 : ∀ y ∈ ([96, 97, 98, 99, 100, 101, 102, 103, 104, 105, 106, 107, 108, 109, 110, 111] : List Nat), am_mok TT y := List.forall_mem_cons.mpr ⟨mk_96, List.forall_mem_cons.mpr ⟨mk_97, List.forall_mem_cons.mpr ⟨mk_98, List.forall_mem_cons.mpr ⟨mk_99, List.forall_mem_cons.mpr ⟨mk_100, List.forall_mem_cons.mpr ⟨mk_101, List.forall_mem_cons.mpr ⟨mk_102, List.forall_mem_cons.mpr ⟨mk_103, List.forall_mem_cons.mpr ⟨mk_104, List.forall_mem_cons.mpr ⟨mk_105, List.forall_mem_cons.mpr ⟨mk_106, List.forall_mem_cons.mpr ⟨mk_107, List.forall_mem_cons.mpr ⟨mk_108, List.forall_mem_cons.mpr ⟨mk_109, List.forall_mem_cons.mpr ⟨mk_110, List.forall_mem_cons.mpr ⟨mk_111, fun _ h => absurd h List.not_mem_nil⟩⟩⟩⟩⟩⟩⟩⟩⟩⟩⟩⟩⟩⟩⟩⟩
theorem mkc_7 : ∀ y ∈ ([112, 113, 114, 115, 116, 117, 118, 119, 120, 121, 122, 123, 124, 125, 126, 127] : List Nat), am_mok TT y := List.forall_mem_cons.mpr ⟨mk_112, List.forall_mem_cons.mpr ⟨mk_113, List.forall_mem_cons.mpr ⟨mk_114, List.forall_mem_cons.mpr ⟨mk_115, List.forall_mem_cons.mpr ⟨mk_116, List.forall_mem_cons.mpr ⟨mk_117, List.forall_mem_cons.mpr ⟨mk_118, List.forall_mem_cons.mpr ⟨mk_119, List.forall_mem_cons.mpr ⟨mk_120, List.forall_mem_cons.mpr ⟨mk_121, List.forall_mem_cons.mpr ⟨mk_122, List.forall_mem_cons.mpr ⟨mk_123, List.forall_mem_cons.mpr ⟨mk_124, List.forall_mem_cons.mpr ⟨mk_125, List.forall_mem_cons.mpr ⟨mk_126, List.forall_mem_cons.mpr ⟨mk_127, fun _ h => absurd h List.not_mem_nil⟩⟩⟩⟩⟩⟩⟩⟩⟩⟩⟩⟩⟩⟩⟩⟩
theorem mkc_8 : ∀ y ∈ ([128, 129, 130, 131, 132, 133, 134, 135, 136, 137, 138, 139, 140, 141, 142, 143] : List Nat), am_mok TT y := List.forall_mem_cons.mpr ⟨mk_128, List.forall_mem_cons.mpr ⟨mk_129, List.forall_mem_cons.mpr ⟨mk_130, List.forall_mem_cons.mpr ⟨mk_131, List.forall_mem_cons.mpr ⟨mk_132, List.forall_mem_cons.mpr ⟨mk_133, List.forall_mem_cons.mpr ⟨mk_134, List.forall_mem_cons.mpr ⟨mk_135, List.forall_mem_cons.mpr ⟨mk_136, List.forall_mem_cons.mpr ⟨mk_137, List.forall_mem_cons.mpr ⟨mk_138, List.forall_mem_cons.mpr ⟨mk_139, List.forall_mem_cons.mpr ⟨mk_140, List.forall_mem_cons.mpr ⟨mk_141, List.forall_mem_cons.mpr ⟨mk_142, List.forall_mem_cons.mpr ⟨mk_143, fun _ h => absurd h List.not_mem_nil⟩⟩⟩⟩⟩⟩⟩⟩⟩⟩⟩⟩⟩⟩⟩⟩
theorem mkc_9 : ∀ y ∈ ([144, 145, 146, 147, 148, 149, 150, 151, 152, 153, 154, 155, 156, 157, 158, 159] : List Nat), am_mok TT y := List.forall_mem_cons.mpr ⟨mk_144, List.forall_mem_cons.mpr ⟨mk_145, List.forall_mem_cons.mpr ⟨mk_146, List.forall_mem_cons.mpr ⟨mk_147, List.forall_mem_cons.mpr ⟨mk_148, List.forall_mem_cons.mpr ⟨mk_149, List.forall_mem_cons.mpr ⟨mk_150, List.forall_mem_cons.mpr ⟨mk_151, List.forall_mem_cons.mpr ⟨mk_152, List.forall_mem_cons.mpr ⟨mk_153, List.forall_mem_cons.mpr ⟨mk_154, List.forall_mem_cons.mpr ⟨mk_155, List.forall_mem_cons.mpr ⟨mk_156, List.forall_mem_cons.mpr ⟨mk_157, List.forall_mem_cons.mpr ⟨mk_158, List.forall_mem_cons.mpr ⟨mk_159, fun _ h => absurd h List.not_mem_nil⟩⟩⟩⟩⟩⟩⟩⟩⟩⟩⟩⟩⟩⟩⟩⟩
theorem mkc_10 : ∀ y ∈ ([160, 161, 162, 163, 164, 165, 166, 167, 168, 169, 170, 171, 172, 173, 174, 175] : List Nat), am_mok TT y := List.forall_mem_cons.mpr ⟨mk_160, List.forall_mem_cons.mpr ⟨mk_161, List.forall_mem_cons.mpr ⟨mk_162, List.forall_mem_cons.mpr ⟨mk_163, List.forall_mem_cons.mpr ⟨mk_164, List.forall_mem_cons.mpr ⟨mk_165, List.forall_mem_cons.mpr ⟨mk_166, List.forall_mem_cons.mpr ⟨mk_167, List.forall_mem_cons.mpr ⟨mk_168, List.forall_mem_cons.mpr ⟨mk_169, List.forall_mem_cons.mpr ⟨mk_170, List.forall_mem_cons.mpr ⟨mk_171, List.forall_mem_cons.mpr ⟨mk_172, List.forall_mem_cons.mpr ⟨mk_173, List.forall_mem_cons.mpr ⟨mk_174, List.forall_mem_cons.mpr ⟨mk_175, fun _ h => absurd h List.not_mem_nil⟩⟩⟩⟩⟩⟩⟩⟩⟩⟩⟩⟩⟩⟩⟩⟩
theorem mkc_11 : ∀ y ∈ ([176, 177, 178, 179, 180, 181, 182, 183, 184, 185, 186, 187, 188, 189, 190, 191] : List Nat), am_mok TT y := List.forall_mem_cons.mpr ⟨mk_176, List.forall_mem_cons.mpr ⟨mk_177, List.forall_mem_cons.mpr ⟨mk_178, List.forall_mem_cons.mpr ⟨mk_179, List.forall_mem_cons.mpr ⟨mk_180, List.forall_mem_cons.mpr ⟨mk_181, List.forall_mem_cons.mpr ⟨mk_182, List.forall_mem_cons.mpr ⟨mk_183, List.forall_mem_cons.mpr ⟨mk_184, List.forall_mem_cons.mpr ⟨mk_185, List.forall_mem_cons.mpr ⟨mk_186, List.forall_mem_cons.mpr ⟨mk_187, List.forall_mem_cons.mpr ⟨mk_188, List.forall_mem_cons.mpr ⟨mk_189, List.forall_mem_cons.mpr ⟨mk_190, List.forall_mem_cons.mpr ⟨mk_191, fun _ h => absurd h List.not_mem_nil⟩⟩⟩⟩⟩⟩⟩⟩⟩⟩⟩⟩⟩⟩⟩⟩
theorem mkc_12 : ∀ y ∈ ([192, 193, 194, 195, 196, 197, 198, 199, 200, 201, 202, 203, 204, 205, 206, 207] : List Nat), am_mok TT y := List.forall_mem_cons.mpr ⟨mk_192, List.forall_mem_cons.mpr ⟨mk_193, List.forall_mem_cons.mpr ⟨mk_194, List.forall_mem_cons.mpr ⟨mk_195, List.forall_mem_cons.mpr ⟨mk_196, List.forall_mem_cons.mpr ⟨mk_197, List.forall_mem_cons.mpr ⟨mk_198, List.forall_mem_cons.mpr ⟨mk_199, List.forall_mem_cons.mpr ⟨mk_200, List.forall_mem_cons.mpr ⟨mk_201, List.forall_mem_cons.mpr ⟨mk_202, List.forall_mem_cons.mpr ⟨mk_203, List.forall_mem_cons.mpr ⟨mk_204, List.forall_mem_cons.mpr ⟨mk_205, List.forall_mem_cons.mpr ⟨mk_206, List.forall_mem_cons.mpr ⟨mk_207, fun _ h => absurd h List.not_mem_nil⟩⟩⟩⟩⟩⟩⟩⟩⟩⟩⟩⟩⟩⟩⟩⟩
theorem mkc_13 : ∀ y ∈ ([208, 209, 210, 211, 212, 213, 214, 215, 216, 217, 218, 219, 220, 221, 222, 223] : List Nat), am_mok TT y := List.forall_mem_cons.mpr ⟨mk_208, List.forall_mem_cons.mpr ⟨mk_209, List.forall_mem_cons.mpr ⟨mk_210, List.forall_mem_cons.mpr ⟨mk_211, List.forall_mem_cons.mpr ⟨mk_212, List.forall_mem_cons.mpr ⟨mk_213, List.forall_mem_cons.mpr ⟨mk_214, List.forall_mem_cons.mpr ⟨mk_215, List.forall_mem_cons.mpr ⟨mk_216, List.forall_mem_cons.mpr ⟨mk_217, List.forall_mem_cons.mpr ⟨mk_218, List.forall_mem_cons.mpr ⟨mk_219, List.forall_mem_cons.mpr ⟨mk_220, List.forall_mem_cons.mpr ⟨mk_221, List.forall_mem_cons.mpr ⟨mk_222, List.forall_mem_cons.mpr ⟨mk_223, fun _ h => absurd h List.not_mem_nil⟩⟩⟩⟩⟩⟩⟩⟩⟩⟩⟩⟩⟩⟩⟩⟩
theorem mkc_14 : ∀ y ∈ ([224, 225, 226, 227, 228, 229, 230, 231, 232, 233, 234, 235, 236, 237, 238, 239] : List Nat), am_mok TT y := List.forall_mem_cons.mpr ⟨mk_224, List.forall_mem_cons.mpr ⟨mk_225, List.forall_mem_cons.mpr ⟨mk_226, List.forall_mem_cons.mpr ⟨mk_227, List.forall_mem_cons.mpr ⟨mk_228, List.forall_mem_cons.mpr ⟨mk_229, List.forall_mem_cons.mpr ⟨mk_230, List.forall_mem_cons.mpr ⟨mk_231, List.forall_mem_cons.mpr ⟨mk_232, List.forall_mem_cons.mpr ⟨mk_233, List.forall_mem_cons.mpr ⟨mk_234, List.forall_mem_cons.mpr ⟨mk_235, List.forall_mem_cons.mpr ⟨mk_236, List.forall_mem_cons.mpr ⟨mk_237, List.forall_mem_cons.mpr ⟨mk_238, List.forall_mem_cons.mpr ⟨mk_239, fun _ h => absurd h List.not_mem_nil⟩⟩⟩⟩⟩⟩⟩⟩⟩⟩⟩⟩⟩⟩⟩⟩
theorem mkc_15 : ∀ y ∈ ([240, 241, 242, 243, 244, 245, 246, 247, 248, 249, 250, 251, 252, 253, 254, 255] : List Nat), am_mok TT y := List.forall_mem_cons.mpr ⟨mk_240, List.forall_mem_cons.mpr ⟨mk_241, List.forall_mem_cons.mpr ⟨mk_242, List.forall_mem_cons.mpr ⟨mk_243, List.forall_mem_cons.mpr ⟨mk_244, List.forall_mem_cons.mpr ⟨mk_245, List.forall_mem_cons.mpr ⟨mk_246, List.forall_mem_cons.mpr ⟨mk_247, List.forall_mem_cons.mpr ⟨mk_248, List.forall_mem_cons.mpr ⟨mk_249, List.forall_mem_cons.mpr ⟨mk_250, List.forall_mem_cons.mpr ⟨mk_251, List.forall_mem_cons.mpr ⟨mk_252, List.forall_mem_cons.mpr ⟨mk_253, List.forall_mem_cons.mpr ⟨mk_254, List.forall_mem_cons.mpr ⟨mk_255, fun _ h => absurd h List.not_mem_nil⟩⟩⟩⟩⟩⟩⟩⟩⟩⟩⟩⟩⟩⟩⟩⟩
theorem mkc_16 : ∀ y ∈ ([256, 257, 258, 259, 260, 261, 262, 263, 264, 265, 266, 267, 268, 269, 270, 271] : List Nat), am_mok TT y := List.forall_mem_cons.mpr ⟨mk_256, List.forall_mem_cons.mpr ⟨mk_257, List.forall_mem_cons.mpr ⟨mk_258, List.forall_mem_cons.mpr ⟨mk_259, List.forall_mem_cons.mpr ⟨mk_260, List.forall_mem_cons.mpr ⟨mk_261, List.forall_mem_cons.mpr ⟨mk_262, List.forall_mem_cons.mpr ⟨mk_263, List.forall_mem_cons.mpr ⟨mk_264, List.forall_mem_cons.mpr ⟨mk_265, List.forall_mem_cons.mpr ⟨mk_266, List.forall_mem_cons.mpr ⟨mk_267, List.forall_mem_cons.mpr ⟨mk_268, List.forall_mem_cons.mpr ⟨mk_269, List.forall_mem_cons.mpr ⟨mk_270, List.forall_mem_cons.mpr ⟨mk_271, fun _ h => absurd h List.not_mem_nil⟩⟩⟩⟩⟩⟩⟩⟩⟩⟩⟩⟩⟩⟩⟩⟩
theorem mkc_17 : ∀ y ∈ ([272, 273, 274, 275, 276, 277, 278, 279, 280, 281, 282, 283, 284, 285, 286, 287] : List Nat), am_mok TT y := List.forall_mem_cons.mpr ⟨mk_272, List.forall_mem_cons.mpr ⟨mk_273, List.forall_mem_cons.mpr ⟨mk_274, List.forall_mem_cons.mpr ⟨mk_275, List.forall_mem_cons.mpr ⟨mk_276, List.forall_mem_cons.mpr ⟨mk_277, List.forall_mem_cons.mpr ⟨mk_278, List.forall_mem_cons.mpr ⟨mk_279, List.forall_mem_cons.mpr ⟨mk_280, List.forall_mem_cons.mpr ⟨mk_281, List.forall_mem_cons.mpr ⟨mk_282, List.forall_mem_cons.mpr ⟨mk_283, List.forall_mem_cons.mpr ⟨mk_284, List.forall_mem_cons.mpr ⟨mk_285, List.forall_mem_cons.mpr ⟨mk_286, List.forall_mem_cons.mpr ⟨mk_287, fun _ h => absurd h List.not_mem_nil⟩⟩⟩⟩⟩⟩⟩⟩⟩⟩⟩⟩⟩⟩⟩⟩
theorem mkc_18 : ∀ y ∈ ([288, 289, 290, 291, 292, 293, 294, 295, 296, 297, 298, 299, 300, 301, 302, 303] : List Nat), am_mok TT y := List.forall_mem_cons.mpr ⟨mk_288, List.forall_mem_cons.mpr ⟨mk_289, List.forall_mem_cons.mpr ⟨mk_290, List.forall_mem_cons.mpr ⟨mk_291, List.forall_mem_cons.mpr ⟨mk_292, List.forall_mem_cons.mpr ⟨mk_293, List.forall_mem_cons.mpr ⟨mk_294, List.forall_mem_cons.mpr ⟨mk_295, List.forall_mem_cons.mpr ⟨mk_296, List.forall_mem_cons.mpr ⟨mk_297, List.forall_mem_cons.mpr ⟨mk_298, List.forall_mem_cons.mpr ⟨mk_299, List.forall_mem_cons.mpr ⟨mk_300, List.forall_mem_cons.mpr ⟨mk_301, List.forall_mem_cons.mpr ⟨mk_302, List.forall_mem_cons.mpr ⟨mk_303, fun _ h => absurd h List.not_mem_nil⟩⟩⟩⟩⟩⟩⟩⟩⟩⟩⟩⟩⟩⟩⟩⟩
theorem mkc_19 : ∀ y ∈ ([304, 305, 306, 307, 308, 309, 310, 311, 312, 313, 314, 315, 316, 317, 318, 319] : List Nat), am_mok TT y := List.forall_mem_cons.mpr ⟨mk_304, List.forall_mem_cons.mpr ⟨mk_305, List.forall_mem_cons.mpr ⟨mk_306, List.forall_mem_cons.mpr ⟨mk_307, List.forall_mem_cons.mpr ⟨mk_308, List.forall_mem_cons.mpr ⟨mk_309, List.forall_mem_cons.mpr ⟨mk_310, List.forall_mem_cons.mpr ⟨mk_311, List.forall_mem_cons.mpr ⟨mk_312, List.forall_mem_cons.mpr ⟨mk_313, List.forall_mem_cons.mpr ⟨mk_314, List.forall_mem_cons.mpr ⟨mk_315, List.forall_mem_cons.mpr ⟨mk_316, List.forall_mem_cons.mpr ⟨mk_317, List.forall_mem_cons.mpr ⟨mk_318, List.forall_mem_cons.mpr ⟨mk_319, fun _ h => absurd h List.not_mem_nil⟩⟩⟩⟩⟩⟩⟩⟩⟩⟩⟩⟩⟩⟩⟩⟩
theorem mkc_20 : ∀ y ∈ ([320, 321, 322, 323, 324, 325, 326, 327, 328, 329, 330, 331, 332, 333, 334, 335] : List Nat), am_mok TT y := List.forall_mem_cons.mpr ⟨mk_320, List.forall_mem_cons.mpr ⟨mk_321, List.forall_mem_cons.mpr ⟨mk_322, List.forall_mem_cons.mpr ⟨mk_323, List.forall_mem_cons.mpr ⟨mk_324, List.forall_mem_cons.mpr ⟨mk_325, List.forall_mem_cons.mpr ⟨mk_326, List.forall_mem_cons.mpr ⟨mk_327, List.forall_mem_cons.mpr ⟨mk_328, List.forall_mem_cons.mpr ⟨mk_329, List.forall_mem_cons.mpr ⟨mk_330, List.forall_mem_cons.mpr ⟨mk_331, List.forall_mem_cons.mpr ⟨mk_332, List.forall_mem_cons.mpr ⟨mk_333, List.forall_mem_cons.mpr ⟨mk_334, List.forall_mem_cons.mpr ⟨mk_335, fun _ h => absurd h List.not_mem_nil⟩⟩⟩⟩⟩⟩⟩⟩⟩⟩⟩⟩⟩⟩⟩⟩
theorem mkc_21 : ∀ y ∈ ([336, 337, 338, 339, 341] : List Nat), am_mok TT y := List.forall_mem_cons.mpr ⟨mk_336, List.forall_mem_cons.mpr ⟨mk_337, List.forall_mem_cons.mpr ⟨mk_338, List.forall_mem_cons.mpr ⟨mk_339, List.forall_mem_cons.mpr ⟨mk_341, fun _ h => absurd h List.not_mem_nil⟩⟩⟩⟩⟩
