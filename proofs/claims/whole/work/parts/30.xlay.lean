def layX : List wd_E := [
  .inl (11, [(2, 3), (2, 14), (2, 16), (2, 27), (2, 1), (2, 2), (0, 0), (0, 0), (0, 0), (0, 0), (2, 106), (2, 123), (2, 127), (2, 131), (2, 137), (2, 140), (2, 159)]),
  .inr (4, 13, 4, 34),
  .inr (5, 9, 4, 78),
  .inl (2, [(0, 0), (0, 0), (2, 4), (2, 5), (2, 6), (2, 7), (2, 8), (0, 0), (2, 9), (2, 10), (0, 0), (2, 11), (2, 12), (2, 13), (0, 0), (0, 0), (0, 0), (0, 0)]),
  .inr (0, 0, 13, 0),
  .inr (0, 0, 13, 0),
  .inr (0, 0, 13, 0),
  .inr (0, 0, 13, 0),
  .inr (0, 0, 13, 0),
  .inr (0, 0, 10, 0),
  .inr (0, 0, 10, 0),
  .inr (0, 0, 3, 0),
  .inr (0, 0, 3, 0),
  .inr (0, 0, 3, 0),
  .inl (9, [(0, 0), (2, 15), (0, 0), (0, 0), (0, 0), (0, 0), (2, 3)]),
  .inr (0, 0, 400, 0),
  .inl (2, [(0, 0), (0, 0), (2, 17), (2, 18), (2, 19), (2, 20), (2, 21), (0, 0), (2, 22), (2, 23), (0, 0), (2, 24), (2, 25), (2, 26), (0, 0), (0, 0), (0, 0), (0, 0)]),
  .inr (0, 0, 13, 0),
  .inr (0, 0, 13, 0),
  .inr (0, 0, 13, 0),
  .inr (0, 0, 13, 0),
  .inr (0, 0, 13, 0),
  .inr (0, 0, 10, 0),
  .inr (0, 0, 10, 0),
  .inr (0, 0, 3, 0),
  .inr (0, 0, 3, 0),
  .inr (0, 0, 3, 0),
  .inl (6, [(0, 0), (2, 28), (2, 29), (2, 30), (0, 0), (2, 31), (2, 32), (2, 33)]),
  .inr (0, 0, 9, 0),
  .inr (0, 0, 9, 0),
  .inr (0, 0, 9, 0),
  .inr (0, 0, 6, 0),
  .inr (0, 0, 6, 0),
  .inr (0, 0, 6, 0),
  .inl (2, [(0, 0), (0, 0), (2, 35), (2, 36), (2, 37), (2, 38), (2, 39), (0, 0), (2, 40), (2, 41), (0, 0), (2, 42), (2, 43), (2, 44), (0, 0), (0, 0), (0, 0), (0, 0)]),
  .inr (0, 0, 13, 0),
  .inr (0, 0, 13, 0),
  .inr (0, 0, 13, 0),
  .inr (0, 0, 13, 0),
  .inr (0, 0, 13, 0),
  .inr (0, 0, 10, 0),
  .inr (0, 0, 10, 0),
  .inr (0, 0, 3, 0),
  .inr (0, 0, 3, 0),
  .inr (0, 0, 3, 0),
  .inl (2, [(0, 0), (0, 0), (2, 46), (2, 47), (2, 48), (2, 49), (2, 50), (0, 0), (2, 51), (2, 52), (0, 0), (2, 53), (2, 54), (2, 55), (0, 0), (0, 0), (0, 0), (0, 0)]),
  .inr (0, 0, 13, 0),
  .inr (0, 0, 13, 0),
  .inr (0, 0, 13, 0),
  .inr (0, 0, 13, 0),
  .inr (0, 0, 13, 0),
  .inr (0, 0, 10, 0),
  .inr (0, 0, 10, 0),
  .inr (0, 0, 3, 0),
  .inr (0, 0, 3, 0),
  .inr (0, 0, 3, 0),
  .inl (2, [(0, 0), (0, 0), (2, 57), (2, 58), (2, 59), (2, 60), (2, 61), (0, 0), (2, 62), (2, 63), (0, 0), (2, 64), (2, 65), (2, 66), (0, 0), (0, 0), (0, 0), (0, 0)]),
  .inr (0, 0, 13, 0),
  .inr (0, 0, 13, 0),
  .inr (0, 0, 13, 0),
  .inr (0, 0, 13, 0),
  .inr (0, 0, 13, 0),
  .inr (0, 0, 10, 0),
  .inr (0, 0, 10, 0),
  .inr (0, 0, 3, 0),
  .inr (0, 0, 3, 0),
  .inr (0, 0, 3, 0),
  .inl (2, [(0, 0), (0, 0), (2, 68), (2, 69), (2, 70), (2, 71), (2, 72), (0, 0), (2, 73), (2, 74), (0, 0), (2, 75), (2, 76), (2, 77), (0, 0), (0, 0), (0, 0), (0, 0)]),
  .inr (0, 0, 13, 0),
  .inr (0, 0, 13, 0),
  .inr (0, 0, 13, 0),
  .inr (0, 0, 13, 0),
  .inr (0, 0, 13, 0),
  .inr (0, 0, 10, 0),
  .inr (0, 0, 10, 0),
  .inr (0, 0, 3, 0),
  .inr (0, 0, 3, 0),
  .inr (0, 0, 3, 0),
  .inl (6, [(0, 0), (2, 79), (2, 80), (2, 81), (0, 0), (2, 82), (2, 83), (2, 84)]),
  .inr (0, 0, 9, 0),
  .inr (0, 0, 9, 0),
  .inr (0, 0, 9, 0),
  .inr (0, 0, 6, 0),
  .inr (0, 0, 6, 0),
  .inr (0, 0, 6, 0),
  .inl (6, [(0, 0), (2, 86), (2, 87), (2, 88), (0, 0), (2, 89), (2, 90), (2, 91)]),
  .inr (0, 0, 9, 0),
  .inr (0, 0, 9, 0),
  .inr (0, 0, 9, 0),
  .inr (0, 0, 6, 0),
  .inr (0, 0, 6, 0),
  .inr (0, 0, 6, 0),
  .inl (6, [(0, 0), (2, 93), (2, 94), (2, 95), (0, 0), (2, 96), (2, 97), (2, 98)]),
  .inr (0, 0, 9, 0),
  .inr (0, 0, 9, 0),
  .inr (0, 0, 9, 0),
  .inr (0, 0, 6, 0),
  .inr (0, 0, 6, 0),
  .inr (0, 0, 6, 0),
  .inl (6, [(0, 0), (2, 100), (2, 101), (2, 102), (0, 0), (2, 103), (2, 104), (2, 105)]),
  .inr (0, 0, 9, 0),
  .inr (0, 0, 9, 0),
  .inr (0, 0, 9, 0),
  .inr (0, 0, 6, 0),
  .inr (0, 0, 6, 0),
  .inr (0, 0, 6, 0),
  .inl (8, [(2, 111), (2, 117), (0, 0), (0, 0), (3, 107), (3, 108), (3, 109), (3, 110), (2, 120)]),
  .inr (3, 1, 0, 0),
  .inr (3, 1, 0, 0),
  .inr (0, 1, 0, 0),
  .inr (1, 1, 0, 0),
  .inl (7, [(0, 0), (0, 0), (0, 0), (0, 0), (2, 16), (2, 112), (2, 113), (2, 114), (2, 115), (2, 116)]),
  .inr (0, 0, 13, 0),
  .inr (0, 0, 13, 0),
  .inr (0, 0, 13, 0),
  .inr (0, 0, 10, 0),
  .inr (0, 0, 10, 0),
  .inl (10, [(0, 0), (2, 118), (2, 119), (2, 16), (2, 111)]),
  .inr (0, 0, 15, 0),
  .inr (0, 0, 15, 0),
  .inl (10, [(0, 0), (2, 121), (2, 122), (2, 16), (2, 111)]),
  .inr (0, 0, 15, 0),
  .inr (0, 0, 15, 0),
  .inl (3, [(0, 0), (0, 0), (2, 124), (0, 0), (2, 125), (2, 126), (2, 106), (2, 117)]),
  .inr (0, 0, 60, 0),
  .inr (3, 0, 60, 0),
  .inr (3, 0, 60, 0),
  .inl (3, [(0, 0), (0, 0), (2, 128), (0, 0), (2, 129), (2, 130), (2, 106), (2, 117)]),
  .inr (0, 0, 60, 0),
  .inr (3, 0, 60, 0),
  .inr (3, 0, 60, 0),
  .inl (0, [(3, 132), (3, 133), (2, 16), (2, 27), (2, 106), (0, 0), (3, 134), (3, 135), (3, 136)]),
  .inr (3, 1, 0, 0),
  .inr (3, 1, 0, 0),
  .inr (3, 1, 0, 0),
  .inr (3, 1, 0, 0),
  .inr (3, 1, 0, 0),
  .inl (5, [(2, 27), (2, 106), (3, 138), (0, 0), (0, 0), (2, 139)]),
  .inr (1, 1, 0, 0),
  .inr (3, 0, 100, 0),
  .inl (1, [(0, 0), (0, 0), (1, 0), (2, 16), (2, 106), (2, 142), (2, 153), (3, 141)]),
  .inr (1, 1, 0, 0),
  .inl (2, [(0, 0), (0, 0), (2, 143), (2, 144), (2, 145), (2, 146), (2, 147), (0, 0), (2, 148), (2, 149), (0, 0), (2, 150), (2, 151), (2, 152), (0, 0), (0, 0), (0, 0), (0, 0)]),
  .inr (0, 0, 13, 0),
  .inr (0, 0, 13, 0),
  .inr (0, 0, 13, 0),
  .inr (0, 0, 13, 0),
  .inr (0, 0, 13, 0),
  .inr (0, 0, 10, 0),
  .inr (0, 0, 10, 0),
  .inr (0, 0, 3, 0),
  .inr (0, 0, 3, 0),
  .inr (0, 0, 3, 0),
  .inl (7, [(0, 0), (0, 0), (0, 0), (0, 0), (2, 142), (2, 154), (2, 155), (2, 156), (2, 157), (2, 158)]),
  .inr (0, 0, 13, 0),
  .inr (0, 0, 13, 0),
  .inr (0, 0, 13, 0),
  .inr (0, 0, 10, 0),
  .inr (0, 0, 10, 0),
  .inl (4, [(2, 106), (0, 0), (3, 160)]),
  .inr (1, 1, 0, 0)]
theorem layX_0 : layX[0]? = some (.inl (11, [(2, 3), (2, 14), (2, 16), (2, 27), (2, 1), (2, 2), (0, 0), (0, 0), (0, 0), (0, 0), (2, 106), (2, 123), (2, 127), (2, 131), (2, 137), (2, 140), (2, 159)])) := rfl
theorem layX_1 : layX[1]? = some (.inr (4, 13, 4, 34)) := rfl
theorem layX_2 : layX[2]? = some (.inr (5, 9, 4, 78)) := rfl
theorem layX_3 : layX[3]? = some (.inl (2, [(0, 0), (0, 0), (2, 4), (2, 5), (2, 6), (2, 7), (2, 8), (0, 0), (2, 9), (2, 10), (0, 0), (2, 11), (2, 12), (2, 13), (0, 0), (0, 0), (0, 0), (0, 0)])) := rfl
theorem layX_4 : layX[4]? = some (.inr (0, 0, 13, 0)) := rfl
theorem layX_5 : layX[5]? = some (.inr (0, 0, 13, 0)) := rfl
theorem layX_6 : layX[6]? = some (.inr (0, 0, 13, 0)) := rfl
theorem layX_7 : layX[7]? = some (.inr (0, 0, 13, 0)) := rfl
theorem layX_8 : layX[8]? = some (.inr (0, 0, 13, 0)) := rfl
theorem layX_9 : layX[9]? = some (.inr (0, 0, 10, 0)) := rfl
theorem layX_10 : layX[10]? = some (.inr (0, 0, 10, 0)) := rfl
theorem layX_11 : layX[11]? = some (.inr (0, 0, 3, 0)) := rfl
theorem layX_12 : layX[12]? = some (.inr (0, 0, 3, 0)) := rfl
theorem layX_13 : layX[13]? = some (.inr (0, 0, 3, 0)) := rfl
theorem layX_14 : layX[14]? = some (.inl (9, [(0, 0), (2, 15), (0, 0), (0, 0), (0, 0), (0, 0), (2, 3)])) := rfl
theorem layX_15 : layX[15]? = some (.inr (0, 0, 400, 0)) := rfl
theorem layX_16 : layX[16]? = some (.inl (2, [(0, 0), (0, 0), (2, 17), (2, 18), (2, 19), (2, 20), (2, 21), (0, 0), (2, 22), (2, 23), (0, 0), (2, 24), (2, 25), (2, 26), (0, 0), (0, 0), (0, 0), (0, 0)])) := rfl
theorem layX_17 : layX[17]? = some (.inr (0, 0, 13, 0)) := rfl
theorem layX_18 : layX[18]? = some (.inr (0, 0, 13, 0)) := rfl
theorem layX_19 : layX[19]? = some (.inr (0, 0, 13, 0)) := rfl
theorem layX_20 : layX[20]? = some (.inr (0, 0, 13, 0)) := rfl
theorem layX_21 : layX[21]? = some (.inr (0, 0, 13, 0)) := rfl
theorem layX_22 : layX[22]? = some (.inr (0, 0, 10, 0)) := rfl
theorem layX_23 : layX[23]? = some (.inr (0, 0, 10, 0)) := rfl
theorem layX_24 : layX[24]? = some (.inr (0, 0, 3, 0)) := rfl
theorem layX_25 : layX[25]? = some (.inr (0, 0, 3, 0)) := rfl
theorem layX_26 : layX[26]? = some (.inr (0, 0, 3, 0)) := rfl
theorem layX_27 : layX[27]? = some (.inl (6, [(0, 0), (2, 28), (2, 29), (2, 30), (0, 0), (2, 31), (2, 32), (2, 33)])) := rfl
theorem layX_28 : layX[28]? = some (.inr (0, 0, 9, 0)) := rfl
theorem layX_29 : layX[29]? = some (.inr (0, 0, 9, 0)) := rfl
theorem layX_30 : layX[30]? = some (.inr (0, 0, 9, 0)) := rfl
theorem layX_31 : layX[31]? = some (.inr (0, 0, 6, 0)) := rfl
theorem layX_32 : layX[32]? = some (.inr (0, 0, 6, 0)) := rfl
theorem layX_33 : layX[33]? = some (.inr (0, 0, 6, 0)) := rfl
theorem layX_34 : layX[34]? = some (.inl (2, [(0, 0), (0, 0), (2, 35), (2, 36), (2, 37), (2, 38), (2, 39), (0, 0), (2, 40), (2, 41), (0, 0), (2, 42), (2, 43), (2, 44), (0, 0), (0, 0), (0, 0), (0, 0)])) := rfl
theorem layX_35 : layX[35]? = some (.inr (0, 0, 13, 0)) := rfl
theorem layX_36 : layX[36]? = some (.inr (0, 0, 13, 0)) := rfl
theorem layX_37 : layX[37]? = some (.inr (0, 0, 13, 0)) := rfl
theorem layX_38 : layX[38]? = some (.inr (0, 0, 13, 0)) := rfl
theorem layX_39 : layX[39]? = some (.inr (0, 0, 13, 0)) := rfl
theorem layX_40 : layX[40]? = some (.inr (0, 0, 10, 0)) := rfl
theorem layX_41 : layX[41]? = some (.inr (0, 0, 10, 0)) := rfl
theorem layX_42 : layX[42]? = some (.inr (0, 0, 3, 0)) := rfl
theorem layX_43 : layX[43]? = some (.inr (0, 0, 3, 0)) := rfl
theorem layX_44 : layX[44]? = some (.inr (0, 0, 3, 0)) := rfl
theorem layX_45 : layX[45]? = some (.inl (2, [(0, 0), (0, 0), (2, 46), (2, 47), (2, 48), (2, 49), (2, 50), (0, 0), (2, 51), (2, 52), (0, 0), (2, 53), (2, 54), (2, 55), (0, 0), (0, 0), (0, 0), (0, 0)])) := rfl
theorem layX_46 : layX[46]? = some (.inr (0, 0, 13, 0)) := rfl
theorem layX_47 : layX[47]? = some (.inr (0, 0, 13, 0)) := rfl
theorem layX_48 : layX[48]? = some (.inr (0, 0, 13, 0)) := rfl
theorem layX_49 : layX[49]? = some (.inr (0, 0, 13, 0)) := rfl
theorem layX_50 : layX[50]? = some (.inr (0, 0, 13, 0)) := rfl
theorem layX_51 : layX[51]? = some (.inr (0, 0, 10, 0)) := rfl
theorem layX_52 : layX[52]? = some (.inr (0, 0, 10, 0)) := rfl
theorem layX_53 : layX[53]? = some (.inr (0, 0, 3, 0)) := rfl
theorem layX_54 : layX[54]? = some (.inr (0, 0, 3, 0)) := rfl
theorem layX_55 : layX[55]? = some (.inr (0, 0, 3, 0)) := rfl
theorem layX_56 : layX[56]? = some (.inl (2, [(0, 0), (0, 0), (2, 57), (2, 58), (2, 59), (2, 60), (2, 61), (0, 0), (2, 62), (2, 63), (0, 0), (2, 64), (2, 65), (2, 66), (0, 0), (0, 0), (0, 0), (0, 0)])) := rfl
theorem layX_57 : layX[57]? = some (.inr (0, 0, 13, 0)) := rfl
theorem layX_58 : layX[58]? = some (.inr (0, 0, 13, 0)) := rfl
theorem layX_59 : layX[59]? = some (.inr (0, 0, 13, 0)) := rfl
theorem layX_60 : layX[60]? = some (.inr (0, 0, 13, 0)) := rfl
theorem layX_61 : layX[61]? = some (.inr (0, 0, 13, 0)) := rfl
theorem layX_62 : layX[62]? = some (.inr (0, 0, 10, 0)) := rfl
theorem layX_63 : layX[63]? = some (.inr (0, 0, 10, 0)) := rfl
theorem layX_64 : layX[64]? = some (.inr (0, 0, 3, 0)) := rfl
theorem layX_65 : layX[65]? = some (.inr (0, 0, 3, 0)) := rfl
theorem layX_66 : layX[66]? = some (.inr (0, 0, 3, 0)) := rfl
theorem layX_67 : layX[67]? = some (.inl (2, [(0, 0), (0, 0), (2, 68), (2, 69), (2, 70), (2, 71), (2, 72), (0, 0), (2, 73), (2, 74), (0, 0), (2, 75), (2, 76), (2, 77), (0, 0), (0, 0), (0, 0), (0, 0)])) := rfl
theorem layX_68 : layX[68]? = some (.inr (0, 0, 13, 0)) := rfl
theorem layX_69 : layX[69]? = some (.inr (0, 0, 13, 0)) := rfl
theorem layX_70 : layX[70]? = some (.inr (0, 0, 13, 0)) := rfl
theorem layX_71 : layX[71]? = some (.inr (0, 0, 13, 0)) := rfl
theorem layX_72 : layX[72]? = some (.inr (0, 0, 13, 0)) := rfl
theorem layX_73 : layX[73]? = some (.inr (0, 0, 10, 0)) := rfl
theorem layX_74 : layX[74]? = some (.inr (0, 0, 10, 0)) := rfl
theorem layX_75 : layX[75]? = some (.inr (0, 0, 3, 0)) := rfl
theorem layX_76 : layX[76]? = some (.inr (0, 0, 3, 0)) := rfl
theorem layX_77 : layX[77]? = some (.inr (0, 0, 3, 0)) := rfl
theorem layX_78 : layX[78]? = some (.inl (6, [(0, 0), (2, 79), (2, 80), (2, 81), (0, 0), (2, 82), (2, 83), (2, 84)])) := rfl
theorem layX_79 : layX[79]? = some (.inr (0, 0, 9, 0)) := rfl
theorem layX_80 : layX[80]? = some (.inr (0, 0, 9, 0)) := rfl
theorem layX_81 : layX[81]? = some (.inr (0, 0, 9, 0)) := rfl
theorem layX_82 : layX[82]? = some (.inr (0, 0, 6, 0)) := rfl
theorem layX_83 : layX[83]? = some (.inr (0, 0, 6, 0)) := rfl
theorem layX_84 : layX[84]? = some (.inr (0, 0, 6, 0)) := rfl
theorem layX_85 : layX[85]? = some (.inl (6, [(0, 0), (2, 86), (2, 87), (2, 88), (0, 0), (2, 89), (2, 90), (2, 91)])) := rfl
theorem layX_86 : layX[86]? = some (.inr (0, 0, 9, 0)) := rfl
theorem layX_87 : layX[87]? = some (.inr (0, 0, 9, 0)) := rfl
theorem layX_88 : layX[88]? = some (.inr (0, 0, 9, 0)) := rfl
theorem layX_89 : layX[89]? = some (.inr (0, 0, 6, 0)) := rfl
theorem layX_90 : layX[90]? = some (.inr (0, 0, 6, 0)) := rfl
theorem layX_91 : layX[91]? = some (.inr (0, 0, 6, 0)) := rfl
theorem layX_92 : layX[92]? = some (.inl (6, [(0, 0), (2, 93), (2, 94), (2, 95), (0, 0), (2, 96), (2, 97), (2, 98)])) := rfl
theorem layX_93 : layX[93]? = some (.inr (0, 0, 9, 0)) := rfl
theorem layX_94 : layX[94]? = some (.inr (0, 0, 9, 0)) := rfl
theorem layX_95 : layX[95]? = some (.inr (0, 0, 9, 0)) := rfl
theorem layX_96 : layX[96]? = some (.inr (0, 0, 6, 0)) := rfl
theorem layX_97 : layX[97]? = some (.inr (0, 0, 6, 0)) := rfl
theorem layX_98 : layX[98]? = some (.inr (0, 0, 6, 0)) := rfl
theorem layX_99 : layX[99]? = some (.inl (6, [(0, 0), (2, 100), (2, 101), (2, 102), (0, 0), (2, 103), (2, 104), (2, 105)])) := rfl
theorem layX_100 : layX[100]? = some (.inr (0, 0, 9, 0)) := rfl
theorem layX_101 : layX[101]? = some (.inr (0, 0, 9, 0)) := rfl
theorem layX_102 : layX[102]? = some (.inr (0, 0, 9, 0)) := rfl
theorem layX_103 : layX[103]? = some (.inr (0, 0, 6, 0)) := rfl
theorem layX_104 : layX[104]? = some (.inr (0, 0, 6, 0)) := rfl
theorem layX_105 : layX[105]? = some (.inr (0, 0, 6, 0)) := rfl
theorem layX_106 : layX[106]? = some (.inl (8, [(2, 111), (2, 117), (0, 0), (0, 0), (3, 107), (3, 108), (3, 109), (3, 110), (2, 120)])) := rfl
theorem layX_107 : layX[107]? = some (.inr (3, 1, 0, 0)) := rfl
theorem layX_108 : layX[108]? = some (.inr (3, 1, 0, 0)) := rfl
theorem layX_109 : layX[109]? = some (.inr (0, 1, 0, 0)) := rfl
theorem layX_110 : layX[110]? = some (.inr (1, 1, 0, 0)) := rfl
theorem layX_111 : layX[111]? = some (.inl (7, [(0, 0), (0, 0), (0, 0), (0, 0), (2, 16), (2, 112), (2, 113), (2, 114), (2, 115), (2, 116)])) := rfl
theorem layX_112 : layX[112]? = some (.inr (0, 0, 13, 0)) := rfl
theorem layX_113 : layX[113]? = some (.inr (0, 0, 13, 0)) := rfl
theorem layX_114 : layX[114]? = some (.inr (0, 0, 13, 0)) := rfl
theorem layX_115 : layX[115]? = some (.inr (0, 0, 10, 0)) := rfl
theorem layX_116 : layX[116]? = some (.inr (0, 0, 10, 0)) := rfl
theorem layX_117 : layX[117]? = some (.inl (10, [(0, 0), (2, 118), (2, 119), (2, 16), (2, 111)])) := rfl
theorem layX_118 : layX[118]? = some (.inr (0, 0, 15, 0)) := rfl
theorem layX_119 : layX[119]? = some (.inr (0, 0, 15, 0)) := rfl
theorem layX_120 : layX[120]? = some (.inl (10, [(0, 0), (2, 121), (2, 122), (2, 16), (2, 111)])) := rfl
theorem layX_121 : layX[121]? = some (.inr (0, 0, 15, 0)) := rfl
theorem layX_122 : layX[122]? = some (.inr (0, 0, 15, 0)) := rfl
theorem layX_123 : layX[123]? = some (.inl (3, [(0, 0), (0, 0), (2, 124), (0, 0), (2, 125), (2, 126), (2, 106), (2, 117)])) := rfl
theorem layX_124 : layX[124]? = some (.inr (0, 0, 60, 0)) := rfl
theorem layX_125 : layX[125]? = some (.inr (3, 0, 60, 0)) := rfl
theorem layX_126 : layX[126]? = some (.inr (3, 0, 60, 0)) := rfl
theorem layX_127 : layX[127]? = some (.inl (3, [(0, 0), (0, 0), (2, 128), (0, 0), (2, 129), (2, 130), (2, 106), (2, 117)])) := rfl
theorem layX_128 : layX[128]? = some (.inr (0, 0, 60, 0)) := rfl
theorem layX_129 : layX[129]? = some (.inr (3, 0, 60, 0)) := rfl
theorem layX_130 : layX[130]? = some (.inr (3, 0, 60, 0)) := rfl
theorem layX_131 : layX[131]? = some (.inl (0, [(3, 132), (3, 133), (2, 16), (2, 27), (2, 106), (0, 0), (3, 134), (3, 135), (3, 136)])) := rfl
theorem layX_132 : layX[132]? = some (.inr (3, 1, 0, 0)) := rfl
theorem layX_133 : layX[133]? = some (.inr (3, 1, 0, 0)) := rfl
theorem layX_134 : layX[134]? = some (.inr (3, 1, 0, 0)) := rfl
theorem layX_135 : layX[135]? = some (.inr (3, 1, 0, 0)) := rfl
theorem layX_136 : layX[136]? = some (.inr (3, 1, 0, 0)) := rfl
theorem layX_137 : layX[137]? = some (.inl (5, [(2, 27), (2, 106), (3, 138), (0, 0), (0, 0), (2, 139)])) := rfl
theorem layX_138 : layX[138]? = some (.inr (1, 1, 0, 0)) := rfl
theorem layX_139 : layX[139]? = some (.inr (3, 0, 100, 0)) := rfl
theorem layX_140 : layX[140]? = some (.inl (1, [(0, 0), (0, 0), (1, 0), (2, 16), (2, 106), (2, 142), (2, 153), (3, 141)])) := rfl
theorem layX_141 : layX[141]? = some (.inr (1, 1, 0, 0)) := rfl
theorem layX_142 : layX[142]? = some (.inl (2, [(0, 0), (0, 0), (2, 143), (2, 144), (2, 145), (2, 146), (2, 147), (0, 0), (2, 148), (2, 149), (0, 0), (2, 150), (2, 151), (2, 152), (0, 0), (0, 0), (0, 0), (0, 0)])) := rfl
theorem layX_143 : layX[143]? = some (.inr (0, 0, 13, 0)) := rfl
theorem layX_144 : layX[144]? = some (.inr (0, 0, 13, 0)) := rfl
theorem layX_145 : layX[145]? = some (.inr (0, 0, 13, 0)) := rfl
theorem layX_146 : layX[146]? = some (.inr (0, 0, 13, 0)) := rfl
theorem layX_147 : layX[147]? = some (.inr (0, 0, 13, 0)) := rfl
theorem layX_148 : layX[148]? = some (.inr (0, 0, 10, 0)) := rfl
theorem layX_149 : layX[149]? = some (.inr (0, 0, 10, 0)) := rfl
theorem layX_150 : layX[150]? = some (.inr (0, 0, 3, 0)) := rfl
theorem layX_151 : layX[151]? = some (.inr (0, 0, 3, 0)) := rfl
theorem layX_152 : layX[152]? = some (.inr (0, 0, 3, 0)) := rfl
theorem layX_153 : layX[153]? = some (.inl (7, [(0, 0), (0, 0), (0, 0), (0, 0), (2, 142), (2, 154), (2, 155), (2, 156), (2, 157), (2, 158)])) := rfl
theorem layX_154 : layX[154]? = some (.inr (0, 0, 13, 0)) := rfl
theorem layX_155 : layX[155]? = some (.inr (0, 0, 13, 0)) := rfl
theorem layX_156 : layX[156]? = some (.inr (0, 0, 13, 0)) := rfl
theorem layX_157 : layX[157]? = some (.inr (0, 0, 10, 0)) := rfl
theorem layX_158 : layX[158]? = some (.inr (0, 0, 10, 0)) := rfl
theorem layX_159 : layX[159]? = some (.inl (4, [(2, 106), (0, 0), (3, 160)])) := rfl
theorem layX_160 : layX[160]? = some (.inr (1, 1, 0, 0)) := rfl
theorem layX_ok : wd_ok layX = true := by decide +kernel
theorem kb_m33 : (Int8.ofInt (-33)).toInt32 = (-33 : Int32) := by decide
theorem kb_m17 : (Int8.ofInt (-17)).toInt32 = (-17 : Int32) := by decide
theorem kb_m2 : (Int8.ofInt (-2)).toInt32 = (-2 : Int32) := by decide
theorem kb_6 : (Int8.ofInt 6).toInt32 = (6 : Int32) := by decide
theorem kb_8 : (Int8.ofInt 8).toInt32 = (8 : Int32) := by decide
theorem kb_9 : (Int8.ofInt 9).toInt32 = (9 : Int32) := by decide
theorem kb_10 : (Int8.ofInt 10).toInt32 = (10 : Int32) := by decide
theorem kb_12 : (Int8.ofInt 12).toInt32 = (12 : Int32) := by decide
theorem kb_15 : (Int8.ofInt 15).toInt32 = (15 : Int32) := by decide
theorem kb_16 : (Int8.ofInt 16).toInt32 = (16 : Int32) := by decide
theorem kb_20 : (Int8.ofInt 20).toInt32 = (20 : Int32) := by decide
theorem kb_24 : (Int8.ofInt 24).toInt32 = (24 : Int32) := by decide
theorem kb_32 : (Int8.ofInt 32).toInt32 = (32 : Int32) := by decide
theorem kb_48 : (Int8.ofInt 48).toInt32 = (48 : Int32) := by decide
theorem kb_57 : (Int8.ofInt 57).toInt32 = (57 : Int32) := by decide
theorem kb_59 : (Int8.ofInt 59).toInt32 = (59 : Int32) := by decide
theorem kb_60 : (Int8.ofInt 60).toInt32 = (60 : Int32) := by decide
theorem kb_63 : (Int8.ofInt 63).toInt32 = (63 : Int32) := by decide
theorem kb_64 : (Int8.ofInt 64).toInt32 = (64 : Int32) := by decide
theorem kb_97 : (Int8.ofInt 97).toInt32 = (97 : Int32) := by decide
theorem kb_99 : (Int8.ofInt 99).toInt32 = (99 : Int32) := by decide
theorem kb_122 : (Int8.ofInt 122).toInt32 = (122 : Int32) := by decide
theorem ki_m8 : Int32.ofInt (-8) = (-8 : Int32) := by decide
theorem ki_m1 : Int32.ofInt (-1) = (-1 : Int32) := by decide
theorem ki_0 : Int32.ofInt 0 = (0 : Int32) := by decide
theorem ki_1 : Int32.ofInt 1 = (1 : Int32) := by decide
theorem ki_2 : Int32.ofInt 2 = (2 : Int32) := by decide
theorem ki_3 : Int32.ofInt 3 = (3 : Int32) := by decide
theorem ki_4 : Int32.ofInt 4 = (4 : Int32) := by decide
theorem kl_0 : Int64.ofNat ((0 : Fin 2) : Nat) = (0 : Int64) := by decide
theorem kl_1 : Int64.ofNat ((1 : Fin 2) : Nat) = (1 : Int64) := by decide
theorem kn_3 : Int32.ofNat 3 = (3 : Int32) := by decide
theorem kn_6 : Int32.ofNat 6 = (6 : Int32) := by decide
theorem kn_9 : Int32.ofNat 9 = (9 : Int32) := by decide
theorem kn_10 : Int32.ofNat 10 = (10 : Int32) := by decide
theorem kn_13 : Int32.ofNat 13 = (13 : Int32) := by decide
theorem kn_60 : Int32.ofNat 60 = (60 : Int32) := by decide
theorem kn_100 : Int32.ofNat 100 = (100 : Int32) := by decide
theorem kn_400 : Int32.ofNat 400 = (400 : Int32) := by decide
theorem ks_128 : (Int16.ofInt 128).toInt32 = (128 : Int32) := by decide
theorem ks_255 : (Int16.ofInt 255).toInt32 = (255 : Int32) := by decide
theorem ks_256 : (Int16.ofInt 256).toInt32 = (256 : Int32) := by decide
theorem ks_400 : (Int16.ofInt 400).toInt32 = (400 : Int32) := by decide
theorem ks_999 : (Int16.ofInt 999).toInt32 = (999 : Int32) := by decide
theorem ks_1000 : (Int16.ofInt 1000).toInt32 = (1000 : Int32) := by decide
theorem kt_0 : (0 : Int32).toInt = 0 := by decide
theorem kt_1 : (1 : Int32).toInt = 1 := by decide
theorem kt_2 : (2 : Int32).toInt = 2 := by decide
theorem kt_3 : (3 : Int32).toInt = 3 := by decide
theorem kt_4 : (4 : Int32).toInt = 4 := by decide
theorem kt_5 : (5 : Int32).toInt = 5 := by decide
theorem kt_6 : (6 : Int32).toInt = 6 := by decide
theorem kt_7 : (7 : Int32).toInt = 7 := by decide
theorem yd_yJ6_bitCount_0f7a4 : yJ6_bitCount_0f7a4.cls ≠ "java/lang/invoke/MethodHandle" ∧ yJ6_bitCount_0f7a4.cls ≠ "java/lang/invoke/VarHandle" := by decide +kernel
theorem yp_yJ6_bitCount_0f7a4 : (parseMethodDescriptor yJ6_bitCount_0f7a4.desc).map (fun d => d.parameters.length) = some 1 := by decide +kernel
theorem yd_yJ7_fill_53178 : yJ7_fill_53178.cls ≠ "java/lang/invoke/MethodHandle" ∧ yJ7_fill_53178.cls ≠ "java/lang/invoke/VarHandle" := by decide +kernel
theorem yp_yJ7_fill_53178 : (parseMethodDescriptor yJ7_fill_53178.desc).map (fun d => d.parameters.length) = some 2 := by decide +kernel
theorem yd_yJ7_fill_d0a16 : yJ7_fill_d0a16.cls ≠ "java/lang/invoke/MethodHandle" ∧ yJ7_fill_d0a16.cls ≠ "java/lang/invoke/VarHandle" := by decide +kernel
theorem yp_yJ7_fill_d0a16 : (parseMethodDescriptor yJ7_fill_d0a16.desc).map (fun d => d.parameters.length) = some 2 := by decide +kernel
theorem yd_yX0_bestMended : yX0_bestMended.cls ≠ "java/lang/invoke/MethodHandle" ∧ yX0_bestMended.cls ≠ "java/lang/invoke/VarHandle" := by decide +kernel
theorem yp_yX0_bestMended : (parseMethodDescriptor yX0_bestMended.desc).map (fun d => d.parameters.length) = some 1 := by decide +kernel
theorem yd_yX0_buildOrNot : yX0_buildOrNot.cls ≠ "java/lang/invoke/MethodHandle" ∧ yX0_buildOrNot.cls ≠ "java/lang/invoke/VarHandle" := by decide +kernel
theorem yp_yX0_buildOrNot : (parseMethodDescriptor yX0_buildOrNot.desc).map (fun d => d.parameters.length) = some 3 := by decide +kernel
theorem yd_yX0_chanceAfter : yX0_chanceAfter.cls ≠ "java/lang/invoke/MethodHandle" ∧ yX0_chanceAfter.cls ≠ "java/lang/invoke/VarHandle" := by decide +kernel
theorem yp_yX0_chanceAfter : (parseMethodDescriptor yX0_chanceAfter.desc).map (fun d => d.parameters.length) = some 2 := by decide +kernel
theorem yd_yX0_fillBare : yX0_fillBare.cls ≠ "java/lang/invoke/MethodHandle" ∧ yX0_fillBare.cls ≠ "java/lang/invoke/VarHandle" := by decide +kernel
theorem yp_yX0_fillBare : (parseMethodDescriptor yX0_fillBare.desc).map (fun d => d.parameters.length) = some 1 := by decide +kernel
theorem yd_yX0_fold : yX0_fold.cls ≠ "java/lang/invoke/MethodHandle" ∧ yX0_fold.cls ≠ "java/lang/invoke/VarHandle" := by decide +kernel
theorem yp_yX0_fold : (parseMethodDescriptor yX0_fold.desc).map (fun d => d.parameters.length) = some 5 := by decide +kernel
theorem yd_yX0_foldUntouched : yX0_foldUntouched.cls ≠ "java/lang/invoke/MethodHandle" ∧ yX0_foldUntouched.cls ≠ "java/lang/invoke/VarHandle" := by decide +kernel
theorem yp_yX0_foldUntouched : (parseMethodDescriptor yX0_foldUntouched.desc).map (fun d => d.parameters.length) = some 1 := by decide +kernel
theorem yd_yX0_lengthOf : yX0_lengthOf.cls ≠ "java/lang/invoke/MethodHandle" ∧ yX0_lengthOf.cls ≠ "java/lang/invoke/VarHandle" := by decide +kernel
theorem yp_yX0_lengthOf : (parseMethodDescriptor yX0_lengthOf.desc).map (fun d => d.parameters.length) = some 1 := by decide +kernel
theorem yd_yX0_mendAll : yX0_mendAll.cls ≠ "java/lang/invoke/MethodHandle" ∧ yX0_mendAll.cls ≠ "java/lang/invoke/VarHandle" := by decide +kernel
theorem yp_yX0_mendAll : (parseMethodDescriptor yX0_mendAll.desc).map (fun d => d.parameters.length) = some 0 := by decide +kernel
theorem yd_yX0_shortest : yX0_shortest.cls ≠ "java/lang/invoke/MethodHandle" ∧ yX0_shortest.cls ≠ "java/lang/invoke/VarHandle" := by decide +kernel
theorem yp_yX0_shortest : (parseMethodDescriptor yX0_shortest.desc).map (fun d => d.parameters.length) = some 1 := by decide +kernel
theorem yd_yX0_workOut : yX0_workOut.cls ≠ "java/lang/invoke/MethodHandle" ∧ yX0_workOut.cls ≠ "java/lang/invoke/VarHandle" := by decide +kernel
theorem yp_yX0_workOut : (parseMethodDescriptor yX0_workOut.desc).map (fun d => d.parameters.length) = some 0 := by decide +kernel
theorem yd_yX10_harmIn : yX10_harmIn.cls ≠ "java/lang/invoke/MethodHandle" ∧ yX10_harmIn.cls ≠ "java/lang/invoke/VarHandle" := by decide +kernel
theorem yp_yX10_harmIn : (parseMethodDescriptor yX10_harmIn.desc).map (fun d => d.parameters.length) = some 1 := by decide +kernel
theorem yd_yX10_product : yX10_product.cls ≠ "java/lang/invoke/MethodHandle" ∧ yX10_product.cls ≠ "java/lang/invoke/VarHandle" := by decide +kernel
theorem yp_yX10_product : (parseMethodDescriptor yX10_product.desc).map (fun d => d.parameters.length) = some 2 := by decide +kernel
theorem yd_yX10_put : yX10_put.cls ≠ "java/lang/invoke/MethodHandle" ∧ yX10_put.cls ≠ "java/lang/invoke/VarHandle" := by decide +kernel
theorem yp_yX10_put : (parseMethodDescriptor yX10_put.desc).map (fun d => d.parameters.length) = some 3 := by decide +kernel
theorem yd_yX10_putApart : yX10_putApart.cls ≠ "java/lang/invoke/MethodHandle" ∧ yX10_putApart.cls ≠ "java/lang/invoke/VarHandle" := by decide +kernel
theorem yp_yX10_putApart : (parseMethodDescriptor yX10_putApart.desc).map (fun d => d.parameters.length) = some 3 := by decide +kernel
theorem yd_yX10_take : yX10_take.cls ≠ "java/lang/invoke/MethodHandle" ∧ yX10_take.cls ≠ "java/lang/invoke/VarHandle" := by decide +kernel
theorem yp_yX10_take : (parseMethodDescriptor yX10_take.desc).map (fun d => d.parameters.length) = some 1 := by decide +kernel
theorem yd_yX11_forget : yX11_forget.cls ≠ "java/lang/invoke/MethodHandle" ∧ yX11_forget.cls ≠ "java/lang/invoke/VarHandle" := by decide +kernel
theorem yp_yX11_forget : (parseMethodDescriptor yX11_forget.desc).map (fun d => d.parameters.length) = some 0 := by decide +kernel
theorem yd_yX11_isNew : yX11_isNew.cls ≠ "java/lang/invoke/MethodHandle" ∧ yX11_isNew.cls ≠ "java/lang/invoke/VarHandle" := by decide +kernel
theorem yp_yX11_isNew : (parseMethodDescriptor yX11_isNew.desc).map (fun d => d.parameters.length) = some 1 := by decide +kernel
theorem yd_yX11_isPair : yX11_isPair.cls ≠ "java/lang/invoke/MethodHandle" ∧ yX11_isPair.cls ≠ "java/lang/invoke/VarHandle" := by decide +kernel
theorem yp_yX11_isPair : (parseMethodDescriptor yX11_isPair.desc).map (fun d => d.parameters.length) = some 2 := by decide +kernel
theorem yd_yX11_isThing : yX11_isThing.cls ≠ "java/lang/invoke/MethodHandle" ∧ yX11_isThing.cls ≠ "java/lang/invoke/VarHandle" := by decide +kernel
theorem yp_yX11_isThing : (parseMethodDescriptor yX11_isThing.desc).map (fun d => d.parameters.length) = some 1 := by decide +kernel
theorem yd_yX11_know : yX11_know.cls ≠ "java/lang/invoke/MethodHandle" ∧ yX11_know.cls ≠ "java/lang/invoke/VarHandle" := by decide +kernel
theorem yp_yX11_know : (parseMethodDescriptor yX11_know.desc).map (fun d => d.parameters.length) = some 1 := by decide +kernel
theorem yd_yX11_knownDays : yX11_knownDays.cls ≠ "java/lang/invoke/MethodHandle" ∧ yX11_knownDays.cls ≠ "java/lang/invoke/VarHandle" := by decide +kernel
theorem yp_yX11_knownDays : (parseMethodDescriptor yX11_knownDays.desc).map (fun d => d.parameters.length) = some 2 := by decide +kernel
theorem yd_yX11_knownLeast : yX11_knownLeast.cls ≠ "java/lang/invoke/MethodHandle" ∧ yX11_knownLeast.cls ≠ "java/lang/invoke/VarHandle" := by decide +kernel
theorem yp_yX11_knownLeast : (parseMethodDescriptor yX11_knownLeast.desc).map (fun d => d.parameters.length) = some 1 := by decide +kernel
theorem yd_yX11_knownMail : yX11_knownMail.cls ≠ "java/lang/invoke/MethodHandle" ∧ yX11_knownMail.cls ≠ "java/lang/invoke/VarHandle" := by decide +kernel
theorem yp_yX11_knownMail : (parseMethodDescriptor yX11_knownMail.desc).map (fun d => d.parameters.length) = some 0 := by decide +kernel
theorem yd_yX11_knownSets : yX11_knownSets.cls ≠ "java/lang/invoke/MethodHandle" ∧ yX11_knownSets.cls ≠ "java/lang/invoke/VarHandle" := by decide +kernel
theorem yp_yX11_knownSets : (parseMethodDescriptor yX11_knownSets.desc).map (fun d => d.parameters.length) = some 0 := by decide +kernel
theorem yd_yX11_lacks : yX11_lacks.cls ≠ "java/lang/invoke/MethodHandle" ∧ yX11_lacks.cls ≠ "java/lang/invoke/VarHandle" := by decide +kernel
theorem yp_yX11_lacks : (parseMethodDescriptor yX11_lacks.desc).map (fun d => d.parameters.length) = some 2 := by decide +kernel
theorem yd_yX1_chanceWith : yX1_chanceWith.cls ≠ "java/lang/invoke/MethodHandle" ∧ yX1_chanceWith.cls ≠ "java/lang/invoke/VarHandle" := by decide +kernel
theorem yp_yX1_chanceWith : (parseMethodDescriptor yX1_chanceWith.desc).map (fun d => d.parameters.length) = some 2 := by decide +kernel
theorem yd_yX1_isThroughWith : yX1_isThroughWith.cls ≠ "java/lang/invoke/MethodHandle" ∧ yX1_isThroughWith.cls ≠ "java/lang/invoke/VarHandle" := by decide +kernel
theorem yp_yX1_isThroughWith : (parseMethodDescriptor yX1_isThroughWith.desc).map (fun d => d.parameters.length) = some 2 := by decide +kernel
theorem yd_yX1_tryAll : yX1_tryAll.cls ≠ "java/lang/invoke/MethodHandle" ∧ yX1_tryAll.cls ≠ "java/lang/invoke/VarHandle" := by decide +kernel
theorem yp_yX1_tryAll : (parseMethodDescriptor yX1_tryAll.desc).map (fun d => d.parameters.length) = some 0 := by decide +kernel
theorem yd_yX2_addCause : yX2_addCause.cls ≠ "java/lang/invoke/MethodHandle" ∧ yX2_addCause.cls ≠ "java/lang/invoke/VarHandle" := by decide +kernel
theorem yp_yX2_addCause : (parseMethodDescriptor yX2_addCause.desc).map (fun d => d.parameters.length) = some 3 := by decide +kernel
theorem yd_yX2_addKeeper : yX2_addKeeper.cls ≠ "java/lang/invoke/MethodHandle" ∧ yX2_addKeeper.cls ≠ "java/lang/invoke/VarHandle" := by decide +kernel
theorem yp_yX2_addKeeper : (parseMethodDescriptor yX2_addKeeper.desc).map (fun d => d.parameters.length) = some 2 := by decide +kernel
theorem yd_yX2_addLine : yX2_addLine.cls ≠ "java/lang/invoke/MethodHandle" ∧ yX2_addLine.cls ≠ "java/lang/invoke/VarHandle" := by decide +kernel
theorem yp_yX2_addLine : (parseMethodDescriptor yX2_addLine.desc).map (fun d => d.parameters.length) = some 5 := by decide +kernel
theorem yd_yX2_causesNaming : yX2_causesNaming.cls ≠ "java/lang/invoke/MethodHandle" ∧ yX2_causesNaming.cls ≠ "java/lang/invoke/VarHandle" := by decide +kernel
theorem yp_yX2_causesNaming : (parseMethodDescriptor yX2_causesNaming.desc).map (fun d => d.parameters.length) = some 2 := by decide +kernel
theorem yd_yX2_chanceOf : yX2_chanceOf.cls ≠ "java/lang/invoke/MethodHandle" ∧ yX2_chanceOf.cls ≠ "java/lang/invoke/VarHandle" := by decide +kernel
theorem yp_yX2_chanceOf : (parseMethodDescriptor yX2_chanceOf.desc).map (fun d => d.parameters.length) = some 1 := by decide +kernel
theorem yd_yX2_clear : yX2_clear.cls ≠ "java/lang/invoke/MethodHandle" ∧ yX2_clear.cls ≠ "java/lang/invoke/VarHandle" := by decide +kernel
theorem yp_yX2_clear : (parseMethodDescriptor yX2_clear.desc).map (fun d => d.parameters.length) = some 0 := by decide +kernel
theorem yd_yX2_copyOf : yX2_copyOf.cls ≠ "java/lang/invoke/MethodHandle" ∧ yX2_copyOf.cls ≠ "java/lang/invoke/VarHandle" := by decide +kernel
theorem yp_yX2_copyOf : (parseMethodDescriptor yX2_copyOf.desc).map (fun d => d.parameters.length) = some 1 := by decide +kernel
theorem yd_yX2_copyRow : yX2_copyRow.cls ≠ "java/lang/invoke/MethodHandle" ∧ yX2_copyRow.cls ≠ "java/lang/invoke/VarHandle" := by decide +kernel
theorem yp_yX2_copyRow : (parseMethodDescriptor yX2_copyRow.desc).map (fun d => d.parameters.length) = some 2 := by decide +kernel
theorem yd_yX2_countBy : yX2_countBy.cls ≠ "java/lang/invoke/MethodHandle" ∧ yX2_countBy.cls ≠ "java/lang/invoke/VarHandle" := by decide +kernel
theorem yp_yX2_countBy : (parseMethodDescriptor yX2_countBy.desc).map (fun d => d.parameters.length) = some 4 := by decide +kernel
theorem yd_yX2_keeperOf : yX2_keeperOf.cls ≠ "java/lang/invoke/MethodHandle" ∧ yX2_keeperOf.cls ≠ "java/lang/invoke/VarHandle" := by decide +kernel
theorem yp_yX2_keeperOf : (parseMethodDescriptor yX2_keeperOf.desc).map (fun d => d.parameters.length) = some 1 := by decide +kernel
theorem yd_yX2_things : yX2_things.cls ≠ "java/lang/invoke/MethodHandle" ∧ yX2_things.cls ≠ "java/lang/invoke/VarHandle" := by decide +kernel
theorem yp_yX2_things : (parseMethodDescriptor yX2_things.desc).map (fun d => d.parameters.length) = some 0 := by decide +kernel
theorem yd_yX2_thingsApart : yX2_thingsApart.cls ≠ "java/lang/invoke/MethodHandle" ∧ yX2_thingsApart.cls ≠ "java/lang/invoke/VarHandle" := by decide +kernel
theorem yp_yX2_thingsApart : (parseMethodDescriptor yX2_thingsApart.desc).map (fun d => d.parameters.length) = some 0 := by decide +kernel
theorem yd_yX3_find : yX3_find.cls ≠ "java/lang/invoke/MethodHandle" ∧ yX3_find.cls ≠ "java/lang/invoke/VarHandle" := by decide +kernel
theorem yp_yX3_find : (parseMethodDescriptor yX3_find.desc).map (fun d => d.parameters.length) = some 0 := by decide +kernel
theorem yd_yX3_firstIn : yX3_firstIn.cls ≠ "java/lang/invoke/MethodHandle" ∧ yX3_firstIn.cls ≠ "java/lang/invoke/VarHandle" := by decide +kernel
theorem yp_yX3_firstIn : (parseMethodDescriptor yX3_firstIn.desc).map (fun d => d.parameters.length) = some 1 := by decide +kernel
theorem yd_yX3_holding : yX3_holding.cls ≠ "java/lang/invoke/MethodHandle" ∧ yX3_holding.cls ≠ "java/lang/invoke/VarHandle" := by decide +kernel
theorem yp_yX3_holding : (parseMethodDescriptor yX3_holding.desc).map (fun d => d.parameters.length) = some 1 := by decide +kernel
theorem yd_yX3_isLeast : yX3_isLeast.cls ≠ "java/lang/invoke/MethodHandle" ∧ yX3_isLeast.cls ≠ "java/lang/invoke/VarHandle" := by decide +kernel
theorem yp_yX3_isLeast : (parseMethodDescriptor yX3_isLeast.desc).map (fun d => d.parameters.length) = some 1 := by decide +kernel
theorem yd_yX3_shareOut : yX3_shareOut.cls ≠ "java/lang/invoke/MethodHandle" ∧ yX3_shareOut.cls ≠ "java/lang/invoke/VarHandle" := by decide +kernel
theorem yp_yX3_shareOut : (parseMethodDescriptor yX3_shareOut.desc).map (fun d => d.parameters.length) = some 0 := by decide +kernel
theorem yd_yX3_someOfFirst : yX3_someOfFirst.cls ≠ "java/lang/invoke/MethodHandle" ∧ yX3_someOfFirst.cls ≠ "java/lang/invoke/VarHandle" := by decide +kernel
theorem yp_yX3_someOfFirst : (parseMethodDescriptor yX3_someOfFirst.desc).map (fun d => d.parameters.length) = some 1 := by decide +kernel
theorem yd_yX3_tell : yX3_tell.cls ≠ "java/lang/invoke/MethodHandle" ∧ yX3_tell.cls ≠ "java/lang/invoke/VarHandle" := by decide +kernel
theorem yp_yX3_tell : (parseMethodDescriptor yX3_tell.desc).map (fun d => d.parameters.length) = some 2 := by decide +kernel
theorem yd_yX3_valueOf : yX3_valueOf.cls ≠ "java/lang/invoke/MethodHandle" ∧ yX3_valueOf.cls ≠ "java/lang/invoke/VarHandle" := by decide +kernel
theorem yp_yX3_valueOf : (parseMethodDescriptor yX3_valueOf.desc).map (fun d => d.parameters.length) = some 1 := by decide +kernel
theorem yd_yX4_fewest : yX4_fewest.cls ≠ "java/lang/invoke/MethodHandle" ∧ yX4_fewest.cls ≠ "java/lang/invoke/VarHandle" := by decide +kernel
theorem yp_yX4_fewest : (parseMethodDescriptor yX4_fewest.desc).map (fun d => d.parameters.length) = some 0 := by decide +kernel
theorem yd_yX4_firstThing : yX4_firstThing.cls ≠ "java/lang/invoke/MethodHandle" ∧ yX4_firstThing.cls ≠ "java/lang/invoke/VarHandle" := by decide +kernel
theorem yp_yX4_firstThing : (parseMethodDescriptor yX4_firstThing.desc).map (fun d => d.parameters.length) = some 0 := by decide +kernel
theorem yd_yX4_isSure : yX4_isSure.cls ≠ "java/lang/invoke/MethodHandle" ∧ yX4_isSure.cls ≠ "java/lang/invoke/VarHandle" := by decide +kernel
theorem yp_yX4_isSure : (parseMethodDescriptor yX4_isSure.desc).map (fun d => d.parameters.length) = some 1 := by decide +kernel
theorem yd_yX4_leastFrom : yX4_leastFrom.cls ≠ "java/lang/invoke/MethodHandle" ∧ yX4_leastFrom.cls ≠ "java/lang/invoke/VarHandle" := by decide +kernel
theorem yp_yX4_leastFrom : (parseMethodDescriptor yX4_leastFrom.desc).map (fun d => d.parameters.length) = some 1 := by decide +kernel
theorem yd_yX4_neededBy : yX4_neededBy.cls ≠ "java/lang/invoke/MethodHandle" ∧ yX4_neededBy.cls ≠ "java/lang/invoke/VarHandle" := by decide +kernel
theorem yp_yX4_neededBy : (parseMethodDescriptor yX4_neededBy.desc).map (fun d => d.parameters.length) = some 2 := by decide +kernel
theorem yd_yX4_workOut : yX4_workOut.cls ≠ "java/lang/invoke/MethodHandle" ∧ yX4_workOut.cls ≠ "java/lang/invoke/VarHandle" := by decide +kernel
theorem yp_yX4_workOut : (parseMethodDescriptor yX4_workOut.desc).map (fun d => d.parameters.length) = some 0 := by decide +kernel
theorem yd_yX5_agreeing : yX5_agreeing.cls ≠ "java/lang/invoke/MethodHandle" ∧ yX5_agreeing.cls ≠ "java/lang/invoke/VarHandle" := by decide +kernel
theorem yp_yX5_agreeing : (parseMethodDescriptor yX5_agreeing.desc).map (fun d => d.parameters.length) = some 1 := by decide +kernel
theorem yd_yX5_cameWithin : yX5_cameWithin.cls ≠ "java/lang/invoke/MethodHandle" ∧ yX5_cameWithin.cls ≠ "java/lang/invoke/VarHandle" := by decide +kernel
theorem yp_yX5_cameWithin : (parseMethodDescriptor yX5_cameWithin.desc).map (fun d => d.parameters.length) = some 1 := by decide +kernel
theorem yd_yX5_compare : yX5_compare.cls ≠ "java/lang/invoke/MethodHandle" ∧ yX5_compare.cls ≠ "java/lang/invoke/VarHandle" := by decide +kernel
theorem yp_yX5_compare : (parseMethodDescriptor yX5_compare.desc).map (fun d => d.parameters.length) = some 0 := by decide +kernel
theorem yd_yX5_daysTogether : yX5_daysTogether.cls ≠ "java/lang/invoke/MethodHandle" ∧ yX5_daysTogether.cls ≠ "java/lang/invoke/VarHandle" := by decide +kernel
theorem yp_yX5_daysTogether : (parseMethodDescriptor yX5_daysTogether.desc).map (fun d => d.parameters.length) = some 0 := by decide +kernel
theorem yd_yX5_isAsTold : yX5_isAsTold.cls ≠ "java/lang/invoke/MethodHandle" ∧ yX5_isAsTold.cls ≠ "java/lang/invoke/VarHandle" := by decide +kernel
theorem yp_yX5_isAsTold : (parseMethodDescriptor yX5_isAsTold.desc).map (fun d => d.parameters.length) = some 1 := by decide +kernel
theorem yd_yX5_isFor : yX5_isFor.cls ≠ "java/lang/invoke/MethodHandle" ∧ yX5_isFor.cls ≠ "java/lang/invoke/VarHandle" := by decide +kernel
theorem yp_yX5_isFor : (parseMethodDescriptor yX5_isFor.desc).map (fun d => d.parameters.length) = some 2 := by decide +kernel
theorem yd_yX5_lookFirst : yX5_lookFirst.cls ≠ "java/lang/invoke/MethodHandle" ∧ yX5_lookFirst.cls ≠ "java/lang/invoke/VarHandle" := by decide +kernel
theorem yp_yX5_lookFirst : (parseMethodDescriptor yX5_lookFirst.desc).map (fun d => d.parameters.length) = some 0 := by decide +kernel
theorem yd_yX5_travel : yX5_travel.cls ≠ "java/lang/invoke/MethodHandle" ∧ yX5_travel.cls ≠ "java/lang/invoke/VarHandle" := by decide +kernel
theorem yp_yX5_travel : (parseMethodDescriptor yX5_travel.desc).map (fun d => d.parameters.length) = some 2 := by decide +kernel
theorem yd_yX6_addLetter : yX6_addLetter.cls ≠ "java/lang/invoke/MethodHandle" ∧ yX6_addLetter.cls ≠ "java/lang/invoke/VarHandle" := by decide +kernel
theorem yp_yX6_addLetter : (parseMethodDescriptor yX6_addLetter.desc).map (fun d => d.parameters.length) = some 3 := by decide +kernel
theorem yd_yX6_addMending : yX6_addMending.cls ≠ "java/lang/invoke/MethodHandle" ∧ yX6_addMending.cls ≠ "java/lang/invoke/VarHandle" := by decide +kernel
theorem yp_yX6_addMending : (parseMethodDescriptor yX6_addMending.desc).map (fun d => d.parameters.length) = some 3 := by decide +kernel
theorem yd_yX6_chanceAfter : yX6_chanceAfter.cls ≠ "java/lang/invoke/MethodHandle" ∧ yX6_chanceAfter.cls ≠ "java/lang/invoke/VarHandle" := by decide +kernel
theorem yp_yX6_chanceAfter : (parseMethodDescriptor yX6_chanceAfter.desc).map (fun d => d.parameters.length) = some 3 := by decide +kernel
theorem yd_yX6_clear : yX6_clear.cls ≠ "java/lang/invoke/MethodHandle" ∧ yX6_clear.cls ≠ "java/lang/invoke/VarHandle" := by decide +kernel
theorem yp_yX6_clear : (parseMethodDescriptor yX6_clear.desc).map (fun d => d.parameters.length) = some 0 := by decide +kernel
theorem yd_yX6_coinsOf : yX6_coinsOf.cls ≠ "java/lang/invoke/MethodHandle" ∧ yX6_coinsOf.cls ≠ "java/lang/invoke/VarHandle" := by decide +kernel
theorem yp_yX6_coinsOf : (parseMethodDescriptor yX6_coinsOf.desc).map (fun d => d.parameters.length) = some 1 := by decide +kernel
theorem yd_yX6_copyOf : yX6_copyOf.cls ≠ "java/lang/invoke/MethodHandle" ∧ yX6_copyOf.cls ≠ "java/lang/invoke/VarHandle" := by decide +kernel
theorem yp_yX6_copyOf : (parseMethodDescriptor yX6_copyOf.desc).map (fun d => d.parameters.length) = some 1 := by decide +kernel
theorem yd_yX6_linesMended : yX6_linesMended.cls ≠ "java/lang/invoke/MethodHandle" ∧ yX6_linesMended.cls ≠ "java/lang/invoke/VarHandle" := by decide +kernel
theorem yp_yX6_linesMended : (parseMethodDescriptor yX6_linesMended.desc).map (fun d => d.parameters.length) = some 0 := by decide +kernel
theorem yd_yX7_carries : yX7_carries.cls ≠ "java/lang/invoke/MethodHandle" ∧ yX7_carries.cls ≠ "java/lang/invoke/VarHandle" := by decide +kernel
theorem yp_yX7_carries : (parseMethodDescriptor yX7_carries.desc).map (fun d => d.parameters.length) = some 1 := by decide +kernel
theorem yd_yX7_daysBetween : yX7_daysBetween.cls ≠ "java/lang/invoke/MethodHandle" ∧ yX7_daysBetween.cls ≠ "java/lang/invoke/VarHandle" := by decide +kernel
theorem yp_yX7_daysBetween : (parseMethodDescriptor yX7_daysBetween.desc).map (fun d => d.parameters.length) = some 3 := by decide +kernel
theorem yd_yX7_follow : yX7_follow.cls ≠ "java/lang/invoke/MethodHandle" ∧ yX7_follow.cls ≠ "java/lang/invoke/VarHandle" := by decide +kernel
theorem yp_yX7_follow : (parseMethodDescriptor yX7_follow.desc).map (fun d => d.parameters.length) = some 0 := by decide +kernel
theorem yd_yX7_goAlong : yX7_goAlong.cls ≠ "java/lang/invoke/MethodHandle" ∧ yX7_goAlong.cls ≠ "java/lang/invoke/VarHandle" := by decide +kernel
theorem yp_yX7_goAlong : (parseMethodDescriptor yX7_goAlong.desc).map (fun d => d.parameters.length) = some 1 := by decide +kernel
theorem yd_yX7_joinAt : yX7_joinAt.cls ≠ "java/lang/invoke/MethodHandle" ∧ yX7_joinAt.cls ≠ "java/lang/invoke/VarHandle" := by decide +kernel
theorem yp_yX7_joinAt : (parseMethodDescriptor yX7_joinAt.desc).map (fun d => d.parameters.length) = some 1 := by decide +kernel
theorem yd_yX7_joinedFor : yX7_joinedFor.cls ≠ "java/lang/invoke/MethodHandle" ∧ yX7_joinedFor.cls ≠ "java/lang/invoke/VarHandle" := by decide +kernel
theorem yp_yX7_joinedFor : (parseMethodDescriptor yX7_joinedFor.desc).map (fun d => d.parameters.length) = some 2 := by decide +kernel
theorem yd_yX7_joiningTrees : yX7_joiningTrees.cls ≠ "java/lang/invoke/MethodHandle" ∧ yX7_joiningTrees.cls ≠ "java/lang/invoke/VarHandle" := by decide +kernel
theorem yp_yX7_joiningTrees : (parseMethodDescriptor yX7_joiningTrees.desc).map (fun d => d.parameters.length) = some 0 := by decide +kernel
theorem yd_yX7_leads : yX7_leads.cls ≠ "java/lang/invoke/MethodHandle" ∧ yX7_leads.cls ≠ "java/lang/invoke/VarHandle" := by decide +kernel
theorem yp_yX7_leads : (parseMethodDescriptor yX7_leads.desc).map (fun d => d.parameters.length) = some 3 := by decide +kernel
theorem yd_yX7_leadsWithoutAny : yX7_leadsWithoutAny.cls ≠ "java/lang/invoke/MethodHandle" ∧ yX7_leadsWithoutAny.cls ≠ "java/lang/invoke/VarHandle" := by decide +kernel
theorem yp_yX7_leadsWithoutAny : (parseMethodDescriptor yX7_leadsWithoutAny.desc).map (fun d => d.parameters.length) = some 3 := by decide +kernel
theorem yd_yX7_neededPlaces : yX7_neededPlaces.cls ≠ "java/lang/invoke/MethodHandle" ∧ yX7_neededPlaces.cls ≠ "java/lang/invoke/VarHandle" := by decide +kernel
theorem yp_yX7_neededPlaces : (parseMethodDescriptor yX7_neededPlaces.desc).map (fun d => d.parameters.length) = some 0 := by decide +kernel
theorem yd_yX7_reached : yX7_reached.cls ≠ "java/lang/invoke/MethodHandle" ∧ yX7_reached.cls ≠ "java/lang/invoke/VarHandle" := by decide +kernel
theorem yp_yX7_reached : (parseMethodDescriptor yX7_reached.desc).map (fun d => d.parameters.length) = some 3 := by decide +kernel
theorem yd_yX8_decidesIn : yX8_decidesIn.cls ≠ "java/lang/invoke/MethodHandle" ∧ yX8_decidesIn.cls ≠ "java/lang/invoke/VarHandle" := by decide +kernel
theorem yp_yX8_decidesIn : (parseMethodDescriptor yX8_decidesIn.desc).map (fun d => d.parameters.length) = some 1 := by decide +kernel
theorem yd_yX8_drawn : yX8_drawn.cls ≠ "java/lang/invoke/MethodHandle" ∧ yX8_drawn.cls ≠ "java/lang/invoke/VarHandle" := by decide +kernel
theorem yp_yX8_drawn : (parseMethodDescriptor yX8_drawn.desc).map (fun d => d.parameters.length) = some 2 := by decide +kernel
theorem yd_yX8_given : yX8_given.cls ≠ "java/lang/invoke/MethodHandle" ∧ yX8_given.cls ≠ "java/lang/invoke/VarHandle" := by decide +kernel
theorem yp_yX8_given : (parseMethodDescriptor yX8_given.desc).map (fun d => d.parameters.length) = some 2 := by decide +kernel
theorem yd_yX8_isSixteenths : yX8_isSixteenths.cls ≠ "java/lang/invoke/MethodHandle" ∧ yX8_isSixteenths.cls ≠ "java/lang/invoke/VarHandle" := by decide +kernel
theorem yp_yX8_isSixteenths : (parseMethodDescriptor yX8_isSixteenths.desc).map (fun d => d.parameters.length) = some 3 := by decide +kernel
theorem yd_yX8_isThrough : yX8_isThrough.cls ≠ "java/lang/invoke/MethodHandle" ∧ yX8_isThrough.cls ≠ "java/lang/invoke/VarHandle" := by decide +kernel
theorem yp_yX8_isThrough : (parseMethodDescriptor yX8_isThrough.desc).map (fun d => d.parameters.length) = some 1 := by decide +kernel
theorem yd_yX8_isThroughAfter : yX8_isThroughAfter.cls ≠ "java/lang/invoke/MethodHandle" ∧ yX8_isThroughAfter.cls ≠ "java/lang/invoke/VarHandle" := by decide +kernel
theorem yp_yX8_isThroughAfter : (parseMethodDescriptor yX8_isThroughAfter.desc).map (fun d => d.parameters.length) = some 1 := by decide +kernel
theorem yd_yX8_lineSetsOf : yX8_lineSetsOf.cls ≠ "java/lang/invoke/MethodHandle" ∧ yX8_lineSetsOf.cls ≠ "java/lang/invoke/VarHandle" := by decide +kernel
theorem yp_yX8_lineSetsOf : (parseMethodDescriptor yX8_lineSetsOf.desc).map (fun d => d.parameters.length) = some 1 := by decide +kernel
theorem yd_yX8_makeRoom : yX8_makeRoom.cls ≠ "java/lang/invoke/MethodHandle" ∧ yX8_makeRoom.cls ≠ "java/lang/invoke/VarHandle" := by decide +kernel
theorem yp_yX8_makeRoom : (parseMethodDescriptor yX8_makeRoom.desc).map (fun d => d.parameters.length) = some 2 := by decide +kernel
theorem yd_yX8_openIn : yX8_openIn.cls ≠ "java/lang/invoke/MethodHandle" ∧ yX8_openIn.cls ≠ "java/lang/invoke/VarHandle" := by decide +kernel
theorem yp_yX8_openIn : (parseMethodDescriptor yX8_openIn.desc).map (fun d => d.parameters.length) = some 1 := by decide +kernel
theorem yd_yX8_power : yX8_power.cls ≠ "java/lang/invoke/MethodHandle" ∧ yX8_power.cls ≠ "java/lang/invoke/VarHandle" := by decide +kernel
theorem yp_yX8_power : (parseMethodDescriptor yX8_power.desc).map (fun d => d.parameters.length) = some 1 := by decide +kernel
theorem yd_yX8_spread : yX8_spread.cls ≠ "java/lang/invoke/MethodHandle" ∧ yX8_spread.cls ≠ "java/lang/invoke/VarHandle" := by decide +kernel
theorem yp_yX8_spread : (parseMethodDescriptor yX8_spread.desc).map (fun d => d.parameters.length) = some 0 := by decide +kernel
theorem yd_yX8_stand : yX8_stand.cls ≠ "java/lang/invoke/MethodHandle" ∧ yX8_stand.cls ≠ "java/lang/invoke/VarHandle" := by decide +kernel
theorem yp_yX8_stand : (parseMethodDescriptor yX8_stand.desc).map (fun d => d.parameters.length) = some 2 := by decide +kernel
theorem yd_yX8_throughApart : yX8_throughApart.cls ≠ "java/lang/invoke/MethodHandle" ∧ yX8_throughApart.cls ≠ "java/lang/invoke/VarHandle" := by decide +kernel
theorem yp_yX8_throughApart : (parseMethodDescriptor yX8_throughApart.desc).map (fun d => d.parameters.length) = some 0 := by decide +kernel
theorem yd_yX8_throughIn : yX8_throughIn.cls ≠ "java/lang/invoke/MethodHandle" ∧ yX8_throughIn.cls ≠ "java/lang/invoke/VarHandle" := by decide +kernel
theorem yp_yX8_throughIn : (parseMethodDescriptor yX8_throughIn.desc).map (fun d => d.parameters.length) = some 2 := by decide +kernel
theorem yd_yX8_times : yX8_times.cls ≠ "java/lang/invoke/MethodHandle" ∧ yX8_times.cls ≠ "java/lang/invoke/VarHandle" := by decide +kernel
theorem yp_yX8_times : (parseMethodDescriptor yX8_times.desc).map (fun d => d.parameters.length) = some 2 := by decide +kernel
theorem yd_yX8_weightOf : yX8_weightOf.cls ≠ "java/lang/invoke/MethodHandle" ∧ yX8_weightOf.cls ≠ "java/lang/invoke/VarHandle" := by decide +kernel
theorem yp_yX8_weightOf : (parseMethodDescriptor yX8_weightOf.desc).map (fun d => d.parameters.length) = some 1 := by decide +kernel
theorem yd_yX8_workOut : yX8_workOut.cls ≠ "java/lang/invoke/MethodHandle" ∧ yX8_workOut.cls ≠ "java/lang/invoke/VarHandle" := by decide +kernel
theorem yp_yX8_workOut : (parseMethodDescriptor yX8_workOut.desc).map (fun d => d.parameters.length) = some 0 := by decide +kernel
theorem yd_yX9_blame : yX9_blame.cls ≠ "java/lang/invoke/MethodHandle" ∧ yX9_blame.cls ≠ "java/lang/invoke/VarHandle" := by decide +kernel
theorem yp_yX9_blame : (parseMethodDescriptor yX9_blame.desc).map (fun d => d.parameters.length) = some 2 := by decide +kernel
theorem yd_yX9_clauseGoesOn : yX9_clauseGoesOn.cls ≠ "java/lang/invoke/MethodHandle" ∧ yX9_clauseGoesOn.cls ≠ "java/lang/invoke/VarHandle" := by decide +kernel
theorem yp_yX9_clauseGoesOn : (parseMethodDescriptor yX9_clauseGoesOn.desc).map (fun d => d.parameters.length) = some 0 := by decide +kernel
theorem yd_yX9_hasMore : yX9_hasMore.cls ≠ "java/lang/invoke/MethodHandle" ∧ yX9_hasMore.cls ≠ "java/lang/invoke/VarHandle" := by decide +kernel
theorem yp_yX9_hasMore : (parseMethodDescriptor yX9_hasMore.desc).map (fun d => d.parameters.length) = some 0 := by decide +kernel
theorem yd_yX9_hasRoom : yX9_hasRoom.cls ≠ "java/lang/invoke/MethodHandle" ∧ yX9_hasRoom.cls ≠ "java/lang/invoke/VarHandle" := by decide +kernel
theorem yp_yX9_hasRoom : (parseMethodDescriptor yX9_hasRoom.desc).map (fun d => d.parameters.length) = some 1 := by decide +kernel
theorem yd_yX9_isWord : yX9_isWord.cls ≠ "java/lang/invoke/MethodHandle" ∧ yX9_isWord.cls ≠ "java/lang/invoke/VarHandle" := by decide +kernel
theorem yp_yX9_isWord : (parseMethodDescriptor yX9_isWord.desc).map (fun d => d.parameters.length) = some 1 := by decide +kernel
theorem yd_yX9_put : yX9_put.cls ≠ "java/lang/invoke/MethodHandle" ∧ yX9_put.cls ≠ "java/lang/invoke/VarHandle" := by decide +kernel
theorem yp_yX9_put : (parseMethodDescriptor yX9_put.desc).map (fun d => d.parameters.length) = some 1 := by decide +kernel
theorem yd_yX9_readCause : yX9_readCause.cls ≠ "java/lang/invoke/MethodHandle" ∧ yX9_readCause.cls ≠ "java/lang/invoke/VarHandle" := by decide +kernel
theorem yp_yX9_readCause : (parseMethodDescriptor yX9_readCause.desc).map (fun d => d.parameters.length) = some 0 := by decide +kernel
theorem yd_yX9_readClause : yX9_readClause.cls ≠ "java/lang/invoke/MethodHandle" ∧ yX9_readClause.cls ≠ "java/lang/invoke/VarHandle" := by decide +kernel
theorem yp_yX9_readClause : (parseMethodDescriptor yX9_readClause.desc).map (fun d => d.parameters.length) = some 0 := by decide +kernel
theorem yd_yX9_readKeeper : yX9_readKeeper.cls ≠ "java/lang/invoke/MethodHandle" ∧ yX9_readKeeper.cls ≠ "java/lang/invoke/VarHandle" := by decide +kernel
theorem yp_yX9_readKeeper : (parseMethodDescriptor yX9_readKeeper.desc).map (fun d => d.parameters.length) = some 0 := by decide +kernel
theorem yd_yX9_readLand : yX9_readLand.cls ≠ "java/lang/invoke/MethodHandle" ∧ yX9_readLand.cls ≠ "java/lang/invoke/VarHandle" := by decide +kernel
theorem yp_yX9_readLand : (parseMethodDescriptor yX9_readLand.desc).map (fun d => d.parameters.length) = some 0 := by decide +kernel
theorem yd_yX9_readLine : yX9_readLine.cls ≠ "java/lang/invoke/MethodHandle" ∧ yX9_readLine.cls ≠ "java/lang/invoke/VarHandle" := by decide +kernel
theorem yp_yX9_readLine : (parseMethodDescriptor yX9_readLine.desc).map (fun d => d.parameters.length) = some 0 := by decide +kernel
theorem yd_yX9_readNumber : yX9_readNumber.cls ≠ "java/lang/invoke/MethodHandle" ∧ yX9_readNumber.cls ≠ "java/lang/invoke/VarHandle" := by decide +kernel
theorem yp_yX9_readNumber : (parseMethodDescriptor yX9_readNumber.desc).map (fun d => d.parameters.length) = some 2 := by decide +kernel
theorem yd_yX9_readPlace : yX9_readPlace.cls ≠ "java/lang/invoke/MethodHandle" ∧ yX9_readPlace.cls ≠ "java/lang/invoke/VarHandle" := by decide +kernel
theorem yp_yX9_readPlace : (parseMethodDescriptor yX9_readPlace.desc).map (fun d => d.parameters.length) = some 1 := by decide +kernel
theorem yd_yX9_readPlaces : yX9_readPlaces.cls ≠ "java/lang/invoke/MethodHandle" ∧ yX9_readPlaces.cls ≠ "java/lang/invoke/VarHandle" := by decide +kernel
theorem yp_yX9_readPlaces : (parseMethodDescriptor yX9_readPlaces.desc).map (fun d => d.parameters.length) = some 0 := by decide +kernel
theorem yd_yX9_readThrough : yX9_readThrough.cls ≠ "java/lang/invoke/MethodHandle" ∧ yX9_readThrough.cls ≠ "java/lang/invoke/VarHandle" := by decide +kernel
theorem yp_yX9_readThrough : (parseMethodDescriptor yX9_readThrough.desc).map (fun d => d.parameters.length) = some 0 := by decide +kernel
theorem yd_yX9_readWhat : yX9_readWhat.cls ≠ "java/lang/invoke/MethodHandle" ∧ yX9_readWhat.cls ≠ "java/lang/invoke/VarHandle" := by decide +kernel
theorem yp_yX9_readWhat : (parseMethodDescriptor yX9_readWhat.desc).map (fun d => d.parameters.length) = some 0 := by decide +kernel
theorem yd_yX9_readWord : yX9_readWord.cls ≠ "java/lang/invoke/MethodHandle" ∧ yX9_readWord.cls ≠ "java/lang/invoke/VarHandle" := by decide +kernel
theorem yp_yX9_readWord : (parseMethodDescriptor yX9_readWord.desc).map (fun d => d.parameters.length) = some 0 := by decide +kernel
theorem yd_yX9_refuseIf : yX9_refuseIf.cls ≠ "java/lang/invoke/MethodHandle" ∧ yX9_refuseIf.cls ≠ "java/lang/invoke/VarHandle" := by decide +kernel
theorem yp_yX9_refuseIf : (parseMethodDescriptor yX9_refuseIf.desc).map (fun d => d.parameters.length) = some 1 := by decide +kernel
theorem yd_yX9_skipBlanks : yX9_skipBlanks.cls ≠ "java/lang/invoke/MethodHandle" ∧ yX9_skipBlanks.cls ≠ "java/lang/invoke/VarHandle" := by decide +kernel
theorem yp_yX9_skipBlanks : (parseMethodDescriptor yX9_skipBlanks.desc).map (fun d => d.parameters.length) = some 0 := by decide +kernel
