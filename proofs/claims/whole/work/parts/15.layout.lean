/-! The layout behind both constructors: printed by wip/gen/rowsgen.py. -/
def tb_sh : List am_Shp := [.inl 9, .inr (.int, 900), .inl 6, .inr (.array .long, 4), .inr (.long, 60), .inr (.long, 60), .inr (.long, 60), .inr (.long, 60), .inr (.int, 4), .inr (.int, 4), .inr (.boolean, 4), .inl 2, .inl 0, .inr (.int, 6), .inr (.long, 6), .inr (.int, 8), .inr (.int, 8), .inr (.int, 8), .inr (.int, 8), .inr (.long, 8), .inr (.int, 8), .inl 7, .inr (.int, 60), .inr (.int, 60), .inr (.int, 60), .inr (.int, 60), .inr (.int, 60), .inr (.int, 60), .inl 0, .inr (.int, 6), .inr (.long, 6), .inr (.int, 8), .inr (.int, 8), .inr (.int, 8), .inr (.int, 8), .inr (.long, 8), .inr (.int, 8), .inl 7, .inr (.int, 60), .inr (.int, 60), .inr (.int, 60), .inr (.int, 60), .inr (.int, 60), .inr (.int, 60), .inr (.object "IslandCall$Boat", 3), .inr (.object "IslandCall$Years", 3), .inl 5, .inr (.long, 22), .inl 1, .inl 8, .inr (.int, 3), .inl 3, .inr (.int, 60), .inl 3, .inr (.int, 60), .inl 4, .inr (.int, 64), .inr (.int, 64), .inl 0, .inr (.int, 6), .inr (.long, 6), .inr (.int, 8), .inr (.int, 8), .inr (.int, 8), .inr (.int, 8), .inr (.long, 8), .inr (.int, 8), .inl 7, .inr (.int, 60), .inr (.int, 60), .inr (.int, 60), .inr (.int, 60), .inr (.int, 60), .inr (.int, 60), .inl 0, .inr (.int, 6), .inr (.long, 6), .inr (.int, 8), .inr (.int, 8), .inr (.int, 8), .inr (.int, 8), .inr (.long, 8), .inr (.int, 8), .inl 7, .inr (.int, 60), .inr (.int, 60), .inr (.int, 60), .inr (.int, 60), .inr (.int, 60), .inr (.int, 60), .inl 0, .inr (.int, 6), .inr (.long, 6), .inr (.int, 8), .inr (.int, 8), .inr (.int, 8), .inr (.int, 8), .inr (.long, 8), .inr (.int, 8), .inl 7, .inr (.int, 60), .inr (.int, 60), .inr (.int, 60), .inr (.int, 60), .inr (.int, 60), .inr (.int, 60), .inl 10, .inr (.int, 2592), .inr (.long, 84), .inr (.int, 4), .inr (.int, 4), .inr (.long, 240), .inr (.byte, 900), .inr (.byte, 900), .inr (.int, 3), .inr (.int, 8), .inr (.int, 64), .inr (.int, 64), .inr (.long, 13), .inr (.int, 80), .inr (.int, 5), .inr (.int, 5)]
def tb_rf : List (Nat × List (Nat × Nat)) := [(0, [(3, 1), (4, 2), (5, 11), (6, 12), (7, 21), (8, 28), (9, 37), (10, 44), (11, 45), (12, 46), (13, 48), (14, 49), (15, 51), (16, 53), (17, 55)]), (2, [(0, 3), (1, 8), (2, 9), (3, 10)]), (3, [(0, 4), (1, 5), (2, 6), (3, 7)]), (12, [(8, 13), (9, 14), (10, 15), (11, 16), (12, 17), (13, 18), (14, 19), (15, 20)]), (21, [(3, 22), (4, 23), (5, 24), (6, 25), (7, 26), (8, 27)]), (28, [(8, 29), (9, 30), (10, 31), (11, 32), (12, 33), (13, 34), (14, 35), (15, 36)]), (37, [(3, 38), (4, 39), (5, 40), (6, 41), (7, 42), (8, 43)]), (44, [(0, 58), (1, 74), (2, 90)]), (45, [(0, 67), (1, 83), (2, 99)]), (46, [(0, 1), (1, 47)]), (48, [(0, 46), (1, 28)]), (49, [(0, 46), (1, 37), (2, 12), (3, 50)]), (51, [(8, 52)]), (53, [(8, 54)]), (55, [(0, 12), (1, 56), (2, 57)]), (58, [(8, 59), (9, 60), (10, 61), (11, 62), (12, 63), (13, 64), (14, 65), (15, 66)]), (67, [(3, 68), (4, 69), (5, 70), (6, 71), (7, 72), (8, 73)]), (74, [(8, 75), (9, 76), (10, 77), (11, 78), (12, 79), (13, 80), (14, 81), (15, 82)]), (83, [(3, 84), (4, 85), (5, 86), (6, 87), (7, 88), (8, 89)]), (90, [(8, 91), (9, 92), (10, 93), (11, 94), (12, 95), (13, 96), (14, 97), (15, 98)]), (99, [(3, 100), (4, 101), (5, 102), (6, 103), (7, 104), (8, 105)]), (106, [(0, 107), (1, 108), (5, 109), (6, 110), (7, 111), (8, 112), (9, 113), (21, 114), (24, 115), (26, 116), (27, 117), (29, 118), (32, 119), (33, 120), (34, 121)])]
def tb_ref (a j : Nat) : Option Nat := match am_look tb_rf a with
  | some l => am_look l j
  | none => none
def S0 : List am_Shp × (Nat → Nat → Option Nat) := (tb_sh, tb_ref)
theorem sh_0 : S0.1[0]? = some (.inl 9) := rfl
theorem sh_1 : S0.1[1]? = some (.inr (.int, 900)) := rfl
theorem sh_2 : S0.1[2]? = some (.inl 6) := rfl
theorem sh_3 : S0.1[3]? = some (.inr (.array .long, 4)) := rfl
theorem sh_4 : S0.1[4]? = some (.inr (.long, 60)) := rfl
theorem sh_5 : S0.1[5]? = some (.inr (.long, 60)) := rfl
theorem sh_6 : S0.1[6]? = some (.inr (.long, 60)) := rfl
theorem sh_7 : S0.1[7]? = some (.inr (.long, 60)) := rfl
theorem sh_8 : S0.1[8]? = some (.inr (.int, 4)) := rfl
theorem sh_9 : S0.1[9]? = some (.inr (.int, 4)) := rfl
theorem sh_10 : S0.1[10]? = some (.inr (.boolean, 4)) := rfl
theorem sh_11 : S0.1[11]? = some (.inl 2) := rfl
theorem sh_12 : S0.1[12]? = some (.inl 0) := rfl
theorem sh_13 : S0.1[13]? = some (.inr (.int, 6)) := rfl
theorem sh_14 : S0.1[14]? = some (.inr (.long, 6)) := rfl
theorem sh_15 : S0.1[15]? = some (.inr (.int, 8)) := rfl
theorem sh_16 : S0.1[16]? = some (.inr (.int, 8)) := rfl
theorem sh_17 : S0.1[17]? = some (.inr (.int, 8)) := rfl
theorem sh_18 : S0.1[18]? = some (.inr (.int, 8)) := rfl
theorem sh_19 : S0.1[19]? = some (.inr (.long, 8)) := rfl
theorem sh_20 : S0.1[20]? = some (.inr (.int, 8)) := rfl
theorem sh_21 : S0.1[21]? = some (.inl 7) := rfl
theorem sh_22 : S0.1[22]? = some (.inr (.int, 60)) := rfl
theorem sh_23 : S0.1[23]? = some (.inr (.int, 60)) := rfl
theorem sh_24 : S0.1[24]? = some (.inr (.int, 60)) := rfl
theorem sh_25 : S0.1[25]? = some (.inr (.int, 60)) := rfl
theorem sh_26 : S0.1[26]? = some (.inr (.int, 60)) := rfl
theorem sh_27 : S0.1[27]? = some (.inr (.int, 60)) := rfl
theorem sh_28 : S0.1[28]? = some (.inl 0) := rfl
theorem sh_29 : S0.1[29]? = some (.inr (.int, 6)) := rfl
theorem sh_30 : S0.1[30]? = some (.inr (.long, 6)) := rfl
theorem sh_31 : S0.1[31]? = some (.inr (.int, 8)) := rfl
theorem sh_32 : S0.1[32]? = some (.inr (.int, 8)) := rfl
theorem sh_33 : S0.1[33]? = some (.inr (.int, 8)) := rfl
theorem sh_34 : S0.1[34]? = some (.inr (.int, 8)) := rfl
theorem sh_35 : S0.1[35]? = some (.inr (.long, 8)) := rfl
theorem sh_36 : S0.1[36]? = some (.inr (.int, 8)) := rfl
theorem sh_37 : S0.1[37]? = some (.inl 7) := rfl
theorem sh_38 : S0.1[38]? = some (.inr (.int, 60)) := rfl
theorem sh_39 : S0.1[39]? = some (.inr (.int, 60)) := rfl
theorem sh_40 : S0.1[40]? = some (.inr (.int, 60)) := rfl
theorem sh_41 : S0.1[41]? = some (.inr (.int, 60)) := rfl
theorem sh_42 : S0.1[42]? = some (.inr (.int, 60)) := rfl
theorem sh_43 : S0.1[43]? = some (.inr (.int, 60)) := rfl
theorem sh_44 : S0.1[44]? = some (.inr (.object "IslandCall$Boat", 3)) := rfl
theorem sh_45 : S0.1[45]? = some (.inr (.object "IslandCall$Years", 3)) := rfl
theorem sh_46 : S0.1[46]? = some (.inl 5) := rfl
theorem sh_47 : S0.1[47]? = some (.inr (.long, 22)) := rfl
theorem sh_48 : S0.1[48]? = some (.inl 1) := rfl
theorem sh_49 : S0.1[49]? = some (.inl 8) := rfl
theorem sh_50 : S0.1[50]? = some (.inr (.int, 3)) := rfl
theorem sh_51 : S0.1[51]? = some (.inl 3) := rfl
theorem sh_52 : S0.1[52]? = some (.inr (.int, 60)) := rfl
theorem sh_53 : S0.1[53]? = some (.inl 3) := rfl
theorem sh_54 : S0.1[54]? = some (.inr (.int, 60)) := rfl
theorem sh_55 : S0.1[55]? = some (.inl 4) := rfl
theorem sh_56 : S0.1[56]? = some (.inr (.int, 64)) := rfl
theorem sh_57 : S0.1[57]? = some (.inr (.int, 64)) := rfl
theorem sh_58 : S0.1[58]? = some (.inl 0) := rfl
theorem sh_59 : S0.1[59]? = some (.inr (.int, 6)) := rfl
theorem sh_60 : S0.1[60]? = some (.inr (.long, 6)) := rfl
theorem sh_61 : S0.1[61]? = some (.inr (.int, 8)) := rfl
theorem sh_62 : S0.1[62]? = some (.inr (.int, 8)) := rfl
theorem sh_63 : S0.1[63]? = some (.inr (.int, 8)) := rfl
theorem sh_64 : S0.1[64]? = some (.inr (.int, 8)) := rfl
theorem sh_65 : S0.1[65]? = some (.inr (.long, 8)) := rfl
theorem sh_66 : S0.1[66]? = some (.inr (.int, 8)) := rfl
theorem sh_67 : S0.1[67]? = some (.inl 7) := rfl
theorem sh_68 : S0.1[68]? = some (.inr (.int, 60)) := rfl
theorem sh_69 : S0.1[69]? = some (.inr (.int, 60)) := rfl
theorem sh_70 : S0.1[70]? = some (.inr (.int, 60)) := rfl
theorem sh_71 : S0.1[71]? = some (.inr (.int, 60)) := rfl
theorem sh_72 : S0.1[72]? = some (.inr (.int, 60)) := rfl
theorem sh_73 : S0.1[73]? = some (.inr (.int, 60)) := rfl
theorem sh_74 : S0.1[74]? = some (.inl 0) := rfl
theorem sh_75 : S0.1[75]? = some (.inr (.int, 6)) := rfl
theorem sh_76 : S0.1[76]? = some (.inr (.long, 6)) := rfl
theorem sh_77 : S0.1[77]? = some (.inr (.int, 8)) := rfl
theorem sh_78 : S0.1[78]? = some (.inr (.int, 8)) := rfl
theorem sh_79 : S0.1[79]? = some (.inr (.int, 8)) := rfl
theorem sh_80 : S0.1[80]? = some (.inr (.int, 8)) := rfl
theorem sh_81 : S0.1[81]? = some (.inr (.long, 8)) := rfl
theorem sh_82 : S0.1[82]? = some (.inr (.int, 8)) := rfl
theorem sh_83 : S0.1[83]? = some (.inl 7) := rfl
theorem sh_84 : S0.1[84]? = some (.inr (.int, 60)) := rfl
theorem sh_85 : S0.1[85]? = some (.inr (.int, 60)) := rfl
theorem sh_86 : S0.1[86]? = some (.inr (.int, 60)) := rfl
theorem sh_87 : S0.1[87]? = some (.inr (.int, 60)) := rfl
theorem sh_88 : S0.1[88]? = some (.inr (.int, 60)) := rfl
theorem sh_89 : S0.1[89]? = some (.inr (.int, 60)) := rfl
theorem sh_90 : S0.1[90]? = some (.inl 0) := rfl
theorem sh_91 : S0.1[91]? = some (.inr (.int, 6)) := rfl
theorem sh_92 : S0.1[92]? = some (.inr (.long, 6)) := rfl
theorem sh_93 : S0.1[93]? = some (.inr (.int, 8)) := rfl
theorem sh_94 : S0.1[94]? = some (.inr (.int, 8)) := rfl
theorem sh_95 : S0.1[95]? = some (.inr (.int, 8)) := rfl
theorem sh_96 : S0.1[96]? = some (.inr (.int, 8)) := rfl
theorem sh_97 : S0.1[97]? = some (.inr (.long, 8)) := rfl
theorem sh_98 : S0.1[98]? = some (.inr (.int, 8)) := rfl
theorem sh_99 : S0.1[99]? = some (.inl 7) := rfl
theorem sh_100 : S0.1[100]? = some (.inr (.int, 60)) := rfl
theorem sh_101 : S0.1[101]? = some (.inr (.int, 60)) := rfl
theorem sh_102 : S0.1[102]? = some (.inr (.int, 60)) := rfl
theorem sh_103 : S0.1[103]? = some (.inr (.int, 60)) := rfl
theorem sh_104 : S0.1[104]? = some (.inr (.int, 60)) := rfl
theorem sh_105 : S0.1[105]? = some (.inr (.int, 60)) := rfl
theorem sh_106 : S0.1[106]? = some (.inl 10) := rfl
theorem sh_107 : S0.1[107]? = some (.inr (.int, 2592)) := rfl
theorem sh_108 : S0.1[108]? = some (.inr (.long, 84)) := rfl
theorem sh_109 : S0.1[109]? = some (.inr (.int, 4)) := rfl
theorem sh_110 : S0.1[110]? = some (.inr (.int, 4)) := rfl
theorem sh_111 : S0.1[111]? = some (.inr (.long, 240)) := rfl
theorem sh_112 : S0.1[112]? = some (.inr (.byte, 900)) := rfl
theorem sh_113 : S0.1[113]? = some (.inr (.byte, 900)) := rfl
theorem sh_114 : S0.1[114]? = some (.inr (.int, 3)) := rfl
theorem sh_115 : S0.1[115]? = some (.inr (.int, 8)) := rfl
theorem sh_116 : S0.1[116]? = some (.inr (.int, 64)) := rfl
theorem sh_117 : S0.1[117]? = some (.inr (.int, 64)) := rfl
theorem sh_118 : S0.1[118]? = some (.inr (.long, 13)) := rfl
theorem sh_119 : S0.1[119]? = some (.inr (.int, 80)) := rfl
theorem sh_120 : S0.1[120]? = some (.inr (.int, 5)) := rfl
theorem sh_121 : S0.1[121]? = some (.inr (.int, 5)) := rfl
theorem rf_0_3 : S0.2 0 3 = some 1 := rfl
theorem rf_0_4 : S0.2 0 4 = some 2 := rfl
theorem rf_0_5 : S0.2 0 5 = some 11 := rfl
theorem rf_0_6 : S0.2 0 6 = some 12 := rfl
theorem rf_0_7 : S0.2 0 7 = some 21 := rfl
theorem rf_0_8 : S0.2 0 8 = some 28 := rfl
theorem rf_0_9 : S0.2 0 9 = some 37 := rfl
theorem rf_0_10 : S0.2 0 10 = some 44 := rfl
theorem rf_0_11 : S0.2 0 11 = some 45 := rfl
theorem rf_0_12 : S0.2 0 12 = some 46 := rfl
theorem rf_0_13 : S0.2 0 13 = some 48 := rfl
theorem rf_0_14 : S0.2 0 14 = some 49 := rfl
theorem rf_0_15 : S0.2 0 15 = some 51 := rfl
theorem rf_0_16 : S0.2 0 16 = some 53 := rfl
theorem rf_0_17 : S0.2 0 17 = some 55 := rfl
theorem rf_2_0 : S0.2 2 0 = some 3 := rfl
theorem rf_2_1 : S0.2 2 1 = some 8 := rfl
theorem rf_2_2 : S0.2 2 2 = some 9 := rfl
theorem rf_2_3 : S0.2 2 3 = some 10 := rfl
theorem rf_3_0 : S0.2 3 0 = some 4 := rfl
theorem rf_3_1 : S0.2 3 1 = some 5 := rfl
theorem rf_3_2 : S0.2 3 2 = some 6 := rfl
theorem rf_3_3 : S0.2 3 3 = some 7 := rfl
theorem rf_12_8 : S0.2 12 8 = some 13 := rfl
theorem rf_12_9 : S0.2 12 9 = some 14 := rfl
theorem rf_12_10 : S0.2 12 10 = some 15 := rfl
theorem rf_12_11 : S0.2 12 11 = some 16 := rfl
theorem rf_12_12 : S0.2 12 12 = some 17 := rfl
theorem rf_12_13 : S0.2 12 13 = some 18 := rfl
theorem rf_12_14 : S0.2 12 14 = some 19 := rfl
theorem rf_12_15 : S0.2 12 15 = some 20 := rfl
theorem rf_21_3 : S0.2 21 3 = some 22 := rfl
theorem rf_21_4 : S0.2 21 4 = some 23 := rfl
theorem rf_21_5 : S0.2 21 5 = some 24 := rfl
theorem rf_21_6 : S0.2 21 6 = some 25 := rfl
theorem rf_21_7 : S0.2 21 7 = some 26 := rfl
theorem rf_21_8 : S0.2 21 8 = some 27 := rfl
theorem rf_28_8 : S0.2 28 8 = some 29 := rfl
theorem rf_28_9 : S0.2 28 9 = some 30 := rfl
theorem rf_28_10 : S0.2 28 10 = some 31 := rfl
theorem rf_28_11 : S0.2 28 11 = some 32 := rfl
theorem rf_28_12 : S0.2 28 12 = some 33 := rfl
theorem rf_28_13 : S0.2 28 13 = some 34 := rfl
theorem rf_28_14 : S0.2 28 14 = some 35 := rfl
theorem rf_28_15 : S0.2 28 15 = some 36 := rfl
theorem rf_37_3 : S0.2 37 3 = some 38 := rfl
theorem rf_37_4 : S0.2 37 4 = some 39 := rfl
theorem rf_37_5 : S0.2 37 5 = some 40 := rfl
theorem rf_37_6 : S0.2 37 6 = some 41 := rfl
theorem rf_37_7 : S0.2 37 7 = some 42 := rfl
theorem rf_37_8 : S0.2 37 8 = some 43 := rfl
theorem rf_44_0 : S0.2 44 0 = some 58 := rfl
theorem rf_44_1 : S0.2 44 1 = some 74 := rfl
theorem rf_44_2 : S0.2 44 2 = some 90 := rfl
theorem rf_45_0 : S0.2 45 0 = some 67 := rfl
theorem rf_45_1 : S0.2 45 1 = some 83 := rfl
theorem rf_45_2 : S0.2 45 2 = some 99 := rfl
theorem rf_46_0 : S0.2 46 0 = some 1 := rfl
theorem rf_46_1 : S0.2 46 1 = some 47 := rfl
theorem rf_48_0 : S0.2 48 0 = some 46 := rfl
theorem rf_48_1 : S0.2 48 1 = some 28 := rfl
theorem rf_49_0 : S0.2 49 0 = some 46 := rfl
theorem rf_49_1 : S0.2 49 1 = some 37 := rfl
theorem rf_49_2 : S0.2 49 2 = some 12 := rfl
theorem rf_49_3 : S0.2 49 3 = some 50 := rfl
theorem rf_51_8 : S0.2 51 8 = some 52 := rfl
theorem rf_53_8 : S0.2 53 8 = some 54 := rfl
theorem rf_55_0 : S0.2 55 0 = some 12 := rfl
theorem rf_55_1 : S0.2 55 1 = some 56 := rfl
theorem rf_55_2 : S0.2 55 2 = some 57 := rfl
theorem rf_58_8 : S0.2 58 8 = some 59 := rfl
theorem rf_58_9 : S0.2 58 9 = some 60 := rfl
theorem rf_58_10 : S0.2 58 10 = some 61 := rfl
theorem rf_58_11 : S0.2 58 11 = some 62 := rfl
theorem rf_58_12 : S0.2 58 12 = some 63 := rfl
theorem rf_58_13 : S0.2 58 13 = some 64 := rfl
theorem rf_58_14 : S0.2 58 14 = some 65 := rfl
theorem rf_58_15 : S0.2 58 15 = some 66 := rfl
theorem rf_67_3 : S0.2 67 3 = some 68 := rfl
theorem rf_67_4 : S0.2 67 4 = some 69 := rfl
theorem rf_67_5 : S0.2 67 5 = some 70 := rfl
theorem rf_67_6 : S0.2 67 6 = some 71 := rfl
theorem rf_67_7 : S0.2 67 7 = some 72 := rfl
theorem rf_67_8 : S0.2 67 8 = some 73 := rfl
theorem rf_74_8 : S0.2 74 8 = some 75 := rfl
theorem rf_74_9 : S0.2 74 9 = some 76 := rfl
theorem rf_74_10 : S0.2 74 10 = some 77 := rfl
theorem rf_74_11 : S0.2 74 11 = some 78 := rfl
theorem rf_74_12 : S0.2 74 12 = some 79 := rfl
theorem rf_74_13 : S0.2 74 13 = some 80 := rfl
theorem rf_74_14 : S0.2 74 14 = some 81 := rfl
theorem rf_74_15 : S0.2 74 15 = some 82 := rfl
theorem rf_83_3 : S0.2 83 3 = some 84 := rfl
theorem rf_83_4 : S0.2 83 4 = some 85 := rfl
theorem rf_83_5 : S0.2 83 5 = some 86 := rfl
theorem rf_83_6 : S0.2 83 6 = some 87 := rfl
theorem rf_83_7 : S0.2 83 7 = some 88 := rfl
theorem rf_83_8 : S0.2 83 8 = some 89 := rfl
theorem rf_90_8 : S0.2 90 8 = some 91 := rfl
theorem rf_90_9 : S0.2 90 9 = some 92 := rfl
theorem rf_90_10 : S0.2 90 10 = some 93 := rfl
theorem rf_90_11 : S0.2 90 11 = some 94 := rfl
theorem rf_90_12 : S0.2 90 12 = some 95 := rfl
theorem rf_90_13 : S0.2 90 13 = some 96 := rfl
theorem rf_90_14 : S0.2 90 14 = some 97 := rfl
theorem rf_90_15 : S0.2 90 15 = some 98 := rfl
theorem rf_99_3 : S0.2 99 3 = some 100 := rfl
theorem rf_99_4 : S0.2 99 4 = some 101 := rfl
theorem rf_99_5 : S0.2 99 5 = some 102 := rfl
theorem rf_99_6 : S0.2 99 6 = some 103 := rfl
theorem rf_99_7 : S0.2 99 7 = some 104 := rfl
theorem rf_99_8 : S0.2 99 8 = some 105 := rfl
theorem rf_106_0 : S0.2 106 0 = some 107 := rfl
theorem rf_106_1 : S0.2 106 1 = some 108 := rfl
theorem rf_106_5 : S0.2 106 5 = some 109 := rfl
theorem rf_106_6 : S0.2 106 6 = some 110 := rfl
theorem rf_106_7 : S0.2 106 7 = some 111 := rfl
theorem rf_106_8 : S0.2 106 8 = some 112 := rfl
theorem rf_106_9 : S0.2 106 9 = some 113 := rfl
theorem rf_106_21 : S0.2 106 21 = some 114 := rfl
theorem rf_106_24 : S0.2 106 24 = some 115 := rfl
theorem rf_106_26 : S0.2 106 26 = some 116 := rfl
theorem rf_106_27 : S0.2 106 27 = some 117 := rfl
theorem rf_106_29 : S0.2 106 29 = some 118 := rfl
theorem rf_106_32 : S0.2 106 32 = some 119 := rfl
theorem rf_106_33 : S0.2 106 33 = some 120 := rfl
theorem rf_106_34 : S0.2 106 34 = some 121 := rfl
def bt (b : Nat) : Prop := b = 12 ∨ b = 28 ∨ b = 58 ∨ b = 74 ∨ b = 90
theorem bt_12 : bt 12 := by unfold bt; omega
theorem bt_28 : bt 28 := by unfold bt; omega
theorem bt_58 : bt 58 := by unfold bt; omega
theorem bt_74 : bt 74 := by unfold bt; omega
theorem bt_90 : bt 90 := by unfold bt; omega
theorem bt_sh {b : Nat} (h : bt b) : S0.1[b]? = some (.inl 0) := by rcases h with rfl | rfl | rfl | rfl | rfl <;> rfl
theorem bt_r8 {b : Nat} (h : bt b) : S0.2 b 8 = some (b + 1) := by rcases h with rfl | rfl | rfl | rfl | rfl <;> rfl
theorem bt_a1 {b : Nat} (h : bt b) : S0.1[b + 1]? = some (.inr (.int, 6)) := by rcases h with rfl | rfl | rfl | rfl | rfl <;> rfl
theorem bt_r9 {b : Nat} (h : bt b) : S0.2 b 9 = some (b + 2) := by rcases h with rfl | rfl | rfl | rfl | rfl <;> rfl
theorem bt_a2 {b : Nat} (h : bt b) : S0.1[b + 2]? = some (.inr (.long, 6)) := by rcases h with rfl | rfl | rfl | rfl | rfl <;> rfl
theorem bt_r10 {b : Nat} (h : bt b) : S0.2 b 10 = some (b + 3) := by rcases h with rfl | rfl | rfl | rfl | rfl <;> rfl
theorem bt_a3 {b : Nat} (h : bt b) : S0.1[b + 3]? = some (.inr (.int, 8)) := by rcases h with rfl | rfl | rfl | rfl | rfl <;> rfl
theorem bt_r11 {b : Nat} (h : bt b) : S0.2 b 11 = some (b + 4) := by rcases h with rfl | rfl | rfl | rfl | rfl <;> rfl
theorem bt_a4 {b : Nat} (h : bt b) : S0.1[b + 4]? = some (.inr (.int, 8)) := by rcases h with rfl | rfl | rfl | rfl | rfl <;> rfl
theorem bt_r12 {b : Nat} (h : bt b) : S0.2 b 12 = some (b + 5) := by rcases h with rfl | rfl | rfl | rfl | rfl <;> rfl
theorem bt_a5 {b : Nat} (h : bt b) : S0.1[b + 5]? = some (.inr (.int, 8)) := by rcases h with rfl | rfl | rfl | rfl | rfl <;> rfl
theorem bt_r13 {b : Nat} (h : bt b) : S0.2 b 13 = some (b + 6) := by rcases h with rfl | rfl | rfl | rfl | rfl <;> rfl
theorem bt_a6 {b : Nat} (h : bt b) : S0.1[b + 6]? = some (.inr (.int, 8)) := by rcases h with rfl | rfl | rfl | rfl | rfl <;> rfl
theorem bt_r14 {b : Nat} (h : bt b) : S0.2 b 14 = some (b + 7) := by rcases h with rfl | rfl | rfl | rfl | rfl <;> rfl
theorem bt_a7 {b : Nat} (h : bt b) : S0.1[b + 7]? = some (.inr (.long, 8)) := by rcases h with rfl | rfl | rfl | rfl | rfl <;> rfl
theorem bt_r15 {b : Nat} (h : bt b) : S0.2 b 15 = some (b + 8) := by rcases h with rfl | rfl | rfl | rfl | rfl <;> rfl
theorem bt_a8 {b : Nat} (h : bt b) : S0.1[b + 8]? = some (.inr (.int, 8)) := by rcases h with rfl | rfl | rfl | rfl | rfl <;> rfl
def yr (b : Nat) : Prop := b = 21 ∨ b = 37 ∨ b = 67 ∨ b = 83 ∨ b = 99
theorem yr_21 : yr 21 := by unfold yr; omega
theorem yr_37 : yr 37 := by unfold yr; omega
theorem yr_67 : yr 67 := by unfold yr; omega
theorem yr_83 : yr 83 := by unfold yr; omega
theorem yr_99 : yr 99 := by unfold yr; omega
theorem yr_sh {b : Nat} (h : yr b) : S0.1[b]? = some (.inl 7) := by rcases h with rfl | rfl | rfl | rfl | rfl <;> rfl
theorem yr_r3 {b : Nat} (h : yr b) : S0.2 b 3 = some (b + 1) := by rcases h with rfl | rfl | rfl | rfl | rfl <;> rfl
theorem yr_a1 {b : Nat} (h : yr b) : S0.1[b + 1]? = some (.inr (.int, 60)) := by rcases h with rfl | rfl | rfl | rfl | rfl <;> rfl
theorem yr_r4 {b : Nat} (h : yr b) : S0.2 b 4 = some (b + 2) := by rcases h with rfl | rfl | rfl | rfl | rfl <;> rfl
theorem yr_a2 {b : Nat} (h : yr b) : S0.1[b + 2]? = some (.inr (.int, 60)) := by rcases h with rfl | rfl | rfl | rfl | rfl <;> rfl
theorem yr_r5 {b : Nat} (h : yr b) : S0.2 b 5 = some (b + 3) := by rcases h with rfl | rfl | rfl | rfl | rfl <;> rfl
theorem yr_a3 {b : Nat} (h : yr b) : S0.1[b + 3]? = some (.inr (.int, 60)) := by rcases h with rfl | rfl | rfl | rfl | rfl <;> rfl
theorem yr_r6 {b : Nat} (h : yr b) : S0.2 b 6 = some (b + 4) := by rcases h with rfl | rfl | rfl | rfl | rfl <;> rfl
theorem yr_a4 {b : Nat} (h : yr b) : S0.1[b + 4]? = some (.inr (.int, 60)) := by rcases h with rfl | rfl | rfl | rfl | rfl <;> rfl
theorem yr_r7 {b : Nat} (h : yr b) : S0.2 b 7 = some (b + 5) := by rcases h with rfl | rfl | rfl | rfl | rfl <;> rfl
theorem yr_a5 {b : Nat} (h : yr b) : S0.1[b + 5]? = some (.inr (.int, 60)) := by rcases h with rfl | rfl | rfl | rfl | rfl <;> rfl
theorem yr_r8 {b : Nat} (h : yr b) : S0.2 b 8 = some (b + 6) := by rcases h with rfl | rfl | rfl | rfl | rfl <;> rfl
theorem yr_a6 {b : Nat} (h : yr b) : S0.1[b + 6]? = some (.inr (.int, 60)) := by rcases h with rfl | rfl | rfl | rfl | rfl <;> rfl
def lf (b : Nat) : Prop := b = 51 ∨ b = 53
theorem lf_51 : lf 51 := by unfold lf; omega
theorem lf_53 : lf 53 := by unfold lf; omega
theorem lf_sh {b : Nat} (h : lf b) : S0.1[b]? = some (.inl 3) := by rcases h with rfl | rfl <;> rfl
theorem lf_r8 {b : Nat} (h : lf b) : S0.2 b 8 = some (b + 1) := by rcases h with rfl | rfl <;> rfl
theorem lf_a1 {b : Nat} (h : lf b) : S0.1[b + 1]? = some (.inr (.int, 60)) := by rcases h with rfl | rfl <;> rfl
def tr (b : Nat) : Prop := b = 4 ∨ b = 5 ∨ b = 6 ∨ b = 7
theorem tr_sh {b : Nat} (h : tr b) : S0.1[b]? = some (.inr (.long, 60)) := by rcases h with rfl | rfl | rfl | rfl <;> rfl
