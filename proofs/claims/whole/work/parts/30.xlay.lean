def layX : List wd_E := [
  .inl (11, [(2, 3), (2, 14), (2, 16), (2, 27), (2, 1), (2, 2), (0, 0), (0, 0), (0, 0), (0, 0), (2, 106), (2, 123), (2, 127), (2, 131), (2, 137), (2, 140), (2, 159)]),
  .inr (4, 13, 4, 34),
  .inr (5, 9, 4, 78),
  .inl (2, [(0, 0), (0, 0), (2, 4), (2, 5), (2, 6), (2, 7), (2, 8), (0, 0), (2, 9), (2, 10), (0, 0), (2, 11), (2, 12), (2, 13), (0, 0), (0, 0), (0, 0), (0, 0)]),
  .inr (0, 0, 13, 0),
  .inr (0, 0, 13, 0),
  .inr (0, 0, 13, 0),
  .inr (0, 0, 13, 0),
  .inr (0, 0, 13, 0),
  .inr (0, 0, 10, 0),
  .inr (0, 0, 10, 0),
  .inr (0, 0, 3, 0),
  .inr (0, 0, 3, 0),
  .inr (0, 0, 3, 0),
  .inl (9, [(0, 0), (2, 15), (0, 0), (0, 0), (0, 0), (0, 0), (2, 3)]),
  .inr (0, 0, 400, 0),
  .inl (2, [(0, 0), (0, 0), (2, 17), (2, 18), (2, 19), (2, 20), (2, 21), (0, 0), (2, 22), (2, 23), (0, 0), (2, 24), (2, 25), (2, 26), (0, 0), (0, 0), (0, 0), (0, 0)]),
  .inr (0, 0, 13, 0),
  .inr (0, 0, 13, 0),
  .inr (0, 0, 13, 0),
  .inr (0, 0, 13, 0),
  .inr (0, 0, 13, 0),
  .inr (0, 0, 10, 0),
  .inr (0, 0, 10, 0),
  .inr (0, 0, 3, 0),
  .inr (0, 0, 3, 0),
  .inr (0, 0, 3, 0),
  .inl (6, [(0, 0), (2, 28), (2, 29), (2, 30), (0, 0), (2, 31), (2, 32), (2, 33)]),
  .inr (0, 0, 9, 0),
  .inr (0, 0, 9, 0),
  .inr (0, 0, 9, 0),
  .inr (0, 0, 6, 0),
  .inr (0, 0, 6, 0),
  .inr (0, 0, 6, 0),
  .inl (2, [(0, 0), (0, 0), (2, 35), (2, 36), (2, 37), (2, 38), (2, 39), (0, 0), (2, 40), (2, 41), (0, 0), (2, 42), (2, 43), (2, 44), (0, 0), (0, 0), (0, 0), (0, 0)]),
  .inr (0, 0, 13, 0),
  .inr (0, 0, 13, 0),
  .inr (0, 0, 13, 0),
  .inr (0, 0, 13, 0),
  .inr (0, 0, 13, 0),
  .inr (0, 0, 10, 0),
  .inr (0, 0, 10, 0),
  .inr (0, 0, 3, 0),
  .inr (0, 0, 3, 0),
  .inr (0, 0, 3, 0),
  .inl (2, [(0, 0), (0, 0), (2, 46), (2, 47), (2, 48), (2, 49), (2, 50), (0, 0), (2, 51), (2, 52), (0, 0), (2, 53), (2, 54), (2, 55), (0, 0), (0, 0), (0, 0), (0, 0)]),
  .inr (0, 0, 13, 0),
  .inr (0, 0, 13, 0),
  .inr (0, 0, 13, 0),
  .inr (0, 0, 13, 0),
  .inr (0, 0, 13, 0),
  .inr (0, 0, 10, 0),
  .inr (0, 0, 10, 0),
  .inr (0, 0, 3, 0),
  .inr (0, 0, 3, 0),
  .inr (0, 0, 3, 0),
  .inl (2, [(0, 0), (0, 0), (2, 57), (2, 58), (2, 59), (2, 60), (2, 61), (0, 0), (2, 62), (2, 63), (0, 0), (2, 64), (2, 65), (2, 66), (0, 0), (0, 0), (0, 0), (0, 0)]),
  .inr (0, 0, 13, 0),
  .inr (0, 0, 13, 0),
  .inr (0, 0, 13, 0),
  .inr (0, 0, 13, 0),
  .inr (0, 0, 13, 0),
  .inr (0, 0, 10, 0),
  .inr (0, 0, 10, 0),
  .inr (0, 0, 3, 0),
  .inr (0, 0, 3, 0),
  .inr (0, 0, 3, 0),
  .inl (2, [(0, 0), (0, 0), (2, 68), (2, 69), (2, 70), (2, 71), (2, 72), (0, 0), (2, 73), (2, 74), (0, 0), (2, 75), (2, 76), (2, 77), (0, 0), (0, 0), (0, 0), (0, 0)]),
  .inr (0, 0, 13, 0),
  .inr (0, 0, 13, 0),
  .inr (0, 0, 13, 0),
  .inr (0, 0, 13, 0),
  .inr (0, 0, 13, 0),
  .inr (0, 0, 10, 0),
  .inr (0, 0, 10, 0),
  .inr (0, 0, 3, 0),
  .inr (0, 0, 3, 0),
  .inr (0, 0, 3, 0),
  .inl (6, [(0, 0), (2, 79), (2, 80), (2, 81), (0, 0), (2, 82), (2, 83), (2, 84)]),
  .inr (0, 0, 9, 0),
  .inr (0, 0, 9, 0),
  .inr (0, 0, 9, 0),
  .inr (0, 0, 6, 0),
  .inr (0, 0, 6, 0),
  .inr (0, 0, 6, 0),
  .inl (6, [(0, 0), (2, 86), (2, 87), (2, 88), (0, 0), (2, 89), (2, 90), (2, 91)]),
  .inr (0, 0, 9, 0),
  .inr (0, 0, 9, 0),
  .inr (0, 0, 9, 0),
  .inr (0, 0, 6, 0),
  .inr (0, 0, 6, 0),
  .inr (0, 0, 6, 0),
  .inl (6, [(0, 0), (2, 93), (2, 94), (2, 95), (0, 0), (2, 96), (2, 97), (2, 98)]),
  .inr (0, 0, 9, 0),
  .inr (0, 0, 9, 0),
  .inr (0, 0, 9, 0),
  .inr (0, 0, 6, 0),
  .inr (0, 0, 6, 0),
  .inr (0, 0, 6, 0),
  .inl (6, [(0, 0), (2, 100), (2, 101), (2, 102), (0, 0), (2, 103), (2, 104), (2, 105)]),
  .inr (0, 0, 9, 0),
  .inr (0, 0, 9, 0),
  .inr (0, 0, 9, 0),
  .inr (0, 0, 6, 0),
  .inr (0, 0, 6, 0),
  .inr (0, 0, 6, 0),
  .inl (8, [(2, 111), (2, 117), (0, 0), (0, 0), (3, 107), (3, 108), (3, 109), (3, 110), (2, 120)]),
  .inr (3, 1, 0, 0),
  .inr (3, 1, 0, 0),
  .inr (0, 1, 0, 0),
  .inr (1, 1, 0, 0),
  .inl (7, [(0, 0), (0, 0), (0, 0), (0, 0), (2, 16), (2, 112), (2, 113), (2, 114), (2, 115), (2, 116)]),
  .inr (0, 0, 13, 0),
  .inr (0, 0, 13, 0),
  .inr (0, 0, 13, 0),
  .inr (0, 0, 10, 0),
  .inr (0, 0, 10, 0),
  .inl (10, [(0, 0), (2, 118), (2, 119), (2, 16), (2, 111)]),
  .inr (0, 0, 15, 0),
  .inr (0, 0, 15, 0),
  .inl (10, [(0, 0), (2, 121), (2, 122), (2, 16), (2, 111)]),
  .inr (0, 0, 15, 0),
  .inr (0, 0, 15, 0),
  .inl (3, [(0, 0), (0, 0), (2, 124), (0, 0), (2, 125), (2, 126), (2, 106), (2, 117)]),
  .inr (0, 0, 60, 0),
  .inr (3, 0, 60, 0),
  .inr (3, 0, 60, 0),
  .inl (3, [(0, 0), (0, 0), (2, 128), (0, 0), (2, 129), (2, 130), (2, 106), (2, 117)]),
  .inr (0, 0, 60, 0),
  .inr (3, 0, 60, 0),
  .inr (3, 0, 60, 0),
  .inl (0, [(3, 132), (3, 133), (2, 16), (2, 27), (2, 106), (0, 0), (3, 134), (3, 135), (3, 136)]),
  .inr (3, 1, 0, 0),
  .inr (3, 1, 0, 0),
  .inr (3, 1, 0, 0),
  .inr (3, 1, 0, 0),
  .inr (3, 1, 0, 0),
  .inl (5, [(2, 27), (2, 106), (3, 138), (0, 0), (0, 0), (2, 139)]),
  .inr (1, 1, 0, 0),
  .inr (3, 0, 100, 0),
  .inl (1, [(0, 0), (0, 0), (1, 0), (2, 16), (2, 106), (2, 142), (2, 153), (3, 141)]),
  .inr (1, 1, 0, 0),
  .inl (2, [(0, 0), (0, 0), (2, 143), (2, 144), (2, 145), (2, 146), (2, 147), (0, 0), (2, 148), (2, 149), (0, 0), (2, 150), (2, 151), (2, 152), (0, 0), (0, 0), (0, 0), (0, 0)]),
  .inr (0, 0, 13, 0),
  .inr (0, 0, 13, 0),
  .inr (0, 0, 13, 0),
  .inr (0, 0, 13, 0),
  .inr (0, 0, 13, 0),
  .inr (0, 0, 10, 0),
  .inr (0, 0, 10, 0),
  .inr (0, 0, 3, 0),
  .inr (0, 0, 3, 0),
  .inr (0, 0, 3, 0),
  .inl (7, [(0, 0), (0, 0), (0, 0), (0, 0), (2, 142), (2, 154), (2, 155), (2, 156), (2, 157), (2, 158)]),
  .inr (0, 0, 13, 0),
  .inr (0, 0, 13, 0),
  .inr (0, 0, 13, 0),
  .inr (0, 0, 10, 0),
  .inr (0, 0, 10, 0),
  .inl (4, [(2, 106), (0, 0), (3, 160)]),
  .inr (1, 1, 0, 0)]
theorem layX_0 : layX[0]? = some (.inl (11, [(2, 3), (2, 14), (2, 16), (2, 27), (2, 1), (2, 2), (0, 0), (0, 0), (0, 0), (0, 0), (2, 106), (2, 123), (2, 127), (2, 131), (2, 137), (2, 140), (2, 159)])) := rfl
theorem layX_1 : layX[1]? = some (.inr (4, 13, 4, 34)) := rfl
theorem layX_2 : layX[2]? = some (.inr (5, 9, 4, 78)) := rfl
theorem layX_3 : layX[3]? = some (.inl (2, [(0, 0), (0, 0), (2, 4), (2, 5), (2, 6), (2, 7), (2, 8), (0, 0), (2, 9), (2, 10), (0, 0), (2, 11), (2, 12), (2, 13), (0, 0), (0, 0), (0, 0), (0, 0)])) := rfl
theorem layX_4 : layX[4]? = some (.inr (0, 0, 13, 0)) := rfl
theorem layX_5 : layX[5]? = some (.inr (0, 0, 13, 0)) := rfl
theorem layX_6 : layX[6]? = some (.inr (0, 0, 13, 0)) := rfl
theorem layX_7 : layX[7]? = some (.inr (0, 0, 13, 0)) := rfl
theorem layX_8 : layX[8]? = some (.inr (0, 0, 13, 0)) := rfl
theorem layX_9 : layX[9]? = some (.inr (0, 0, 10, 0)) := rfl
theorem layX_10 : layX[10]? = some (.inr (0, 0, 10, 0)) := rfl
theorem layX_11 : layX[11]? = some (.inr (0, 0, 3, 0)) := rfl
theorem layX_12 : layX[12]? = some (.inr (0, 0, 3, 0)) := rfl
theorem layX_13 : layX[13]? = some (.inr (0, 0, 3, 0)) := rfl
theorem layX_14 : layX[14]? = some (.inl (9, [(0, 0), (2, 15), (0, 0), (0, 0), (0, 0), (0, 0), (2, 3)])) := rfl
theorem layX_15 : layX[15]? = some (.inr (0, 0, 400, 0)) := rfl
theorem layX_16 : layX[16]? = some (.inl (2, [(0, 0), (0, 0), (2, 17), (2, 18), (2, 19), (2, 20), (2, 21), (0, 0), (2, 22), (2, 23), (0, 0), (2, 24), (2, 25), (2, 26), (0, 0), (0, 0), (0, 0), (0, 0)])) := rfl
theorem layX_17 : layX[17]? = some (.inr (0, 0, 13, 0)) := rfl
theorem layX_18 : layX[18]? = some (.inr (0, 0, 13, 0)) := rfl
theorem layX_19 : layX[19]? = some (.inr (0, 0, 13, 0)) := rfl
theorem layX_20 : layX[20]? = some (.inr (0, 0, 13, 0)) := rfl
theorem layX_21 : layX[21]? = some (.inr (0, 0, 13, 0)) := rfl
theorem layX_22 : layX[22]? = some (.inr (0, 0, 10, 0)) := rfl
theorem layX_23 : layX[23]? = some (.inr (0, 0, 10, 0)) := rfl
theorem layX_24 : layX[24]? = some (.inr (0, 0, 3, 0)) := rfl
theorem layX_25 : layX[25]? = some (.inr (0, 0, 3, 0)) := rfl
theorem layX_26 : layX[26]? = some (.inr (0, 0, 3, 0)) := rfl
theorem layX_27 : layX[27]? = some (.inl (6, [(0, 0), (2, 28), (2, 29), (2, 30), (0, 0), (2, 31), (2, 32), (2, 33)])) := rfl
theorem layX_28 : layX[28]? = some (.inr (0, 0, 9, 0)) := rfl
theorem layX_29 : layX[29]? = some (.inr (0, 0, 9, 0)) := rfl
theorem layX_30 : layX[30]? = some (.inr (0, 0, 9, 0)) := rfl
theorem layX_31 : layX[31]? = some (.inr (0, 0, 6, 0)) := rfl
theorem layX_32 : layX[32]? = some (.inr (0, 0, 6, 0)) := rfl
theorem layX_33 : layX[33]? = some (.inr (0, 0, 6, 0)) := rfl
theorem layX_34 : layX[34]? = some (.inl (2, [(0, 0), (0, 0), (2, 35), (2, 36), (2, 37), (2, 38), (2, 39), (0, 0), (2, 40), (2, 41), (0, 0), (2, 42), (2, 43), (2, 44), (0, 0), (0, 0), (0, 0), (0, 0)])) := rfl
theorem layX_35 : layX[35]? = some (.inr (0, 0, 13, 0)) := rfl
theorem layX_36 : layX[36]? = some (.inr (0, 0, 13, 0)) := rfl
theorem layX_37 : layX[37]? = some (.inr (0, 0, 13, 0)) := rfl
theorem layX_38 : layX[38]? = some (.inr (0, 0, 13, 0)) := rfl
theorem layX_39 : layX[39]? = some (.inr (0, 0, 13, 0)) := rfl
theorem layX_40 : layX[40]? = some (.inr (0, 0, 10, 0)) := rfl
theorem layX_41 : layX[41]? = some (.inr (0, 0, 10, 0)) := rfl
theorem layX_42 : layX[42]? = some (.inr (0, 0, 3, 0)) := rfl
theorem layX_43 : layX[43]? = some (.inr (0, 0, 3, 0)) := rfl
theorem layX_44 : layX[44]? = some (.inr (0, 0, 3, 0)) := rfl
theorem layX_45 : layX[45]? = some (.inl (2, [(0, 0), (0, 0), (2, 46), (2, 47), (2, 48), (2, 49), (2, 50), (0, 0), (2, 51), (2, 52), (0, 0), (2, 53), (2, 54), (2, 55), (0, 0), (0, 0), (0, 0), (0, 0)])) := rfl
theorem layX_46 : layX[46]? = some (.inr (0, 0, 13, 0)) := rfl
theorem layX_47 : layX[47]? = some (.inr (0, 0, 13, 0)) := rfl
theorem layX_48 : layX[48]? = some (.inr (0, 0, 13, 0)) := rfl
theorem layX_49 : layX[49]? = some (.inr (0, 0, 13, 0)) := rfl
theorem layX_50 : layX[50]? = some (.inr (0, 0, 13, 0)) := rfl
theorem layX_51 : layX[51]? = some (.inr (0, 0, 10, 0)) := rfl
theorem layX_52 : layX[52]? = some (.inr (0, 0, 10, 0)) := rfl
theorem layX_53 : layX[53]? = some (.inr (0, 0, 3, 0)) := rfl
theorem layX_54 : layX[54]? = some (.inr (0, 0, 3, 0)) := rfl
theorem layX_55 : layX[55]? = some (.inr (0, 0, 3, 0)) := rfl
theorem layX_56 : layX[56]? = some (.inl (2, [(0, 0), (0, 0), (2, 57), (2, 58), (2, 59), (2, 60), (2, 61), (0, 0), (2, 62), (2, 63), (0, 0), (2, 64), (2, 65), (2, 66), (0, 0), (0, 0), (0, 0), (0, 0)])) := rfl
theorem layX_57 : layX[57]? = some (.inr (0, 0, 13, 0)) := rfl
theorem layX_58 : layX[58]? = some (.inr (0, 0, 13, 0)) := rfl
theorem layX_59 : layX[59]? = some (.inr (0, 0, 13, 0)) := rfl
theorem layX_60 : layX[60]? = some (.inr (0, 0, 13, 0)) := rfl
theorem layX_61 : layX[61]? = some (.inr (0, 0, 13, 0)) := rfl
theorem layX_62 : layX[62]? = some (.inr (0, 0, 10, 0)) := rfl
theorem layX_63 : layX[63]? = some (.inr (0, 0, 10, 0)) := rfl
theorem layX_64 : layX[64]? = some (.inr (0, 0, 3, 0)) := rfl
theorem layX_65 : layX[65]? = some (.inr (0, 0, 3, 0)) := rfl
theorem layX_66 : layX[66]? = some (.inr (0, 0, 3, 0)) := rfl
theorem layX_67 : layX[67]? = some (.inl (2, [(0, 0), (0, 0), (2, 68), (2, 69), (2, 70), (2, 71), (2, 72), (0, 0), (2, 73), (2, 74), (0, 0), (2, 75), (2, 76), (2, 77), (0, 0), (0, 0), (0, 0), (0, 0)])) := rfl
theorem layX_68 : layX[68]? = some (.inr (0, 0, 13, 0)) := rfl
theorem layX_69 : layX[69]? = some (.inr (0, 0, 13, 0)) := rfl
theorem layX_70 : layX[70]? = some (.inr (0, 0, 13, 0)) := rfl
theorem layX_71 : layX[71]? = some (.inr (0, 0, 13, 0)) := rfl
theorem layX_72 : layX[72]? = some (.inr (0, 0, 13, 0)) := rfl
theorem layX_73 : layX[73]? = some (.inr (0, 0, 10, 0)) := rfl
theorem layX_74 : layX[74]? = some (.inr (0, 0, 10, 0)) := rfl
theorem layX_75 : layX[75]? = some (.inr (0, 0, 3, 0)) := rfl
theorem layX_76 : layX[76]? = some (.inr (0, 0, 3, 0)) := rfl
theorem layX_77 : layX[77]? = some (.inr (0, 0, 3, 0)) := rfl
theorem layX_78 : layX[78]? = some (.inl (6, [(0, 0), (2, 79), (2, 80), (2, 81), (0, 0), (2, 82), (2, 83), (2, 84)])) := rfl
theorem layX_79 : layX[79]? = some (.inr (0, 0, 9, 0)) := rfl
theorem layX_80 : layX[80]? = some (.inr (0, 0, 9, 0)) := rfl
theorem layX_81 : layX[81]? = some (.inr (0, 0, 9, 0)) := rfl
theorem layX_82 : layX[82]? = some (.inr (0, 0, 6, 0)) := rfl
theorem layX_83 : layX[83]? = some (.inr (0, 0, 6, 0)) := rfl
theorem layX_84 : layX[84]? = some (.inr (0, 0, 6, 0)) := rfl
theorem layX_85 : layX[85]? = some (.inl (6, [(0, 0), (2, 86), (2, 87), (2, 88), (0, 0), (2, 89), (2, 90), (2, 91)])) := rfl
theorem layX_86 : layX[86]? = some (.inr (0, 0, 9, 0)) := rfl
theorem layX_87 : layX[87]? = some (.inr (0, 0, 9, 0)) := rfl
theorem layX_88 : layX[88]? = some (.inr (0, 0, 9, 0)) := rfl
theorem layX_89 : layX[89]? = some (.inr (0, 0, 6, 0)) := rfl
theorem layX_90 : layX[90]? = some (.inr (0, 0, 6, 0)) := rfl
theorem layX_91 : layX[91]? = some (.inr (0, 0, 6, 0)) := rfl
theorem layX_92 : layX[92]? = some (.inl (6, [(0, 0), (2, 93), (2, 94), (2, 95), (0, 0), (2, 96), (2, 97), (2, 98)])) := rfl
theorem layX_93 : layX[93]? = some (.inr (0, 0, 9, 0)) := rfl
theorem layX_94 : layX[94]? = some (.inr (0, 0, 9, 0)) := rfl
theorem layX_95 : layX[95]? = some (.inr (0, 0, 9, 0)) := rfl
theorem layX_96 : layX[96]? = some (.inr (0, 0, 6, 0)) := rfl
theorem layX_97 : layX[97]? = some (.inr (0, 0, 6, 0)) := rfl
theorem layX_98 : layX[98]? = some (.inr (0, 0, 6, 0)) := rfl
theorem layX_99 : layX[99]? = some (.inl (6, [(0, 0), (2, 100), (2, 101), (2, 102), (0, 0), (2, 103), (2, 104), (2, 105)])) := rfl
theorem layX_100 : layX[100]? = some (.inr (0, 0, 9, 0)) := rfl
theorem layX_101 : layX[101]? = some (.inr (0, 0, 9, 0)) := rfl
theorem layX_102 : layX[102]? = some (.inr (0, 0, 9, 0)) := rfl
theorem layX_103 : layX[103]? = some (.inr (0, 0, 6, 0)) := rfl
theorem layX_104 : layX[104]? = some (.inr (0, 0, 6, 0)) := rfl
theorem layX_105 : layX[105]? = some (.inr (0, 0, 6, 0)) := rfl
theorem layX_106 : layX[106]? = some (.inl (8, [(2, 111), (2, 117), (0, 0), (0, 0), (3, 107), (3, 108), (3, 109), (3, 110), (2, 120)])) := rfl
theorem layX_107 : layX[107]? = some (.inr (3, 1, 0, 0)) := rfl
theorem layX_108 : layX[108]? = some (.inr (3, 1, 0, 0)) := rfl
theorem layX_109 : layX[109]? = some (.inr (0, 1, 0, 0)) := rfl
theorem layX_110 : layX[110]? = some (.inr (1, 1, 0, 0)) := rfl
theorem layX_111 : layX[111]? = some (.inl (7, [(0, 0), (0, 0), (0, 0), (0, 0), (2, 16), (2, 112), (2, 113), (2, 114), (2, 115), (2, 116)])) := rfl
theorem layX_112 : layX[112]? = some (.inr (0, 0, 13, 0)) := rfl
theorem layX_113 : layX[113]? = some (.inr (0, 0, 13, 0)) := rfl
theorem layX_114 : layX[114]? = some (.inr (0, 0, 13, 0)) := rfl
theorem layX_115 : layX[115]? = some (.inr (0, 0, 10, 0)) := rfl
theorem layX_116 : layX[116]? = some (.inr (0, 0, 10, 0)) := rfl
theorem layX_117 : layX[117]? = some (.inl (10, [(0, 0), (2, 118), (2, 119), (2, 16), (2, 111)])) := rfl
theorem layX_118 : layX[118]? = some (.inr (0, 0, 15, 0)) := rfl
theorem layX_119 : layX[119]? = some (.inr (0, 0, 15, 0)) := rfl
theorem layX_120 : layX[120]? = some (.inl (10, [(0, 0), (2, 121), (2, 122), (2, 16), (2, 111)])) := rfl
theorem layX_121 : layX[121]? = some (.inr (0, 0, 15, 0)) := rfl
theorem layX_122 : layX[122]? = some (.inr (0, 0, 15, 0)) := rfl
theorem layX_123 : layX[123]? = some (.inl (3, [(0, 0), (0, 0), (2, 124), (0, 0), (2, 125), (2, 126), (2, 106), (2, 117)])) := rfl
theorem layX_124 : layX[124]? = some (.inr (0, 0, 60, 0)) := rfl
theorem layX_125 : layX[125]? = some (.inr (3, 0, 60, 0)) := rfl
theorem layX_126 : layX[126]? = some (.inr (3, 0, 60, 0)) := rfl
theorem layX_127 : layX[127]? = some (.inl (3, [(0, 0), (0, 0), (2, 128), (0, 0), (2, 129), (2, 130), (2, 106), (2, 117)])) := rfl
theorem layX_128 : layX[128]? = some (.inr (0, 0, 60, 0)) := rfl
theorem layX_129 : layX[129]? = some (.inr (3, 0, 60, 0)) := rfl
theorem layX_130 : layX[130]? = some (.inr (3, 0, 60, 0)) := rfl
theorem layX_131 : layX[131]? = some (.inl (0, [(3, 132), (3, 133), (2, 16), (2, 27), (2, 106), (0, 0), (3, 134), (3, 135), (3, 136)])) := rfl
theorem layX_132 : layX[132]? = some (.inr (3, 1, 0, 0)) := rfl
theorem layX_133 : layX[133]? = some (.inr (3, 1, 0, 0)) := rfl
theorem layX_134 : layX[134]? = some (.inr (3, 1, 0, 0)) := rfl
theorem layX_135 : layX[135]? = some (.inr (3, 1, 0, 0)) := rfl
theorem layX_136 : layX[136]? = some (.inr (3, 1, 0, 0)) := rfl
theorem layX_137 : layX[137]? = some (.inl (5, [(2, 27), (2, 106), (3, 138), (0, 0), (0, 0), (2, 139)])) := rfl
theorem layX_138 : layX[138]? = some (.inr (1, 1, 0, 0)) := rfl
theorem layX_139 : layX[139]? = some (.inr (3, 0, 100, 0)) := rfl
theorem layX_140 : layX[140]? = some (.inl (1, [(0, 0), (0, 0), (1, 0), (2, 16), (2, 106), (2, 142), (2, 153), (3, 141)])) := rfl
theorem layX_141 : layX[141]? = some (.inr (1, 1, 0, 0)) := rfl
theorem layX_142 : layX[142]? = some (.inl (2, [(0, 0), (0, 0), (2, 143), (2, 144), (2, 145), (2, 146), (2, 147), (0, 0), (2, 148), (2, 149), (0, 0), (2, 150), (2, 151), (2, 152), (0, 0), (0, 0), (0, 0), (0, 0)])) := rfl
theorem layX_143 : layX[143]? = some (.inr (0, 0, 13, 0)) := rfl
theorem layX_144 : layX[144]? = some (.inr (0, 0, 13, 0)) := rfl
theorem layX_145 : layX[145]? = some (.inr (0, 0, 13, 0)) := rfl
theorem layX_146 : layX[146]? = some (.inr (0, 0, 13, 0)) := rfl
theorem layX_147 : layX[147]? = some (.inr (0, 0, 13, 0)) := rfl
theorem layX_148 : layX[148]? = some (.inr (0, 0, 10, 0)) := rfl
theorem layX_149 : layX[149]? = some (.inr (0, 0, 10, 0)) := rfl
theorem layX_150 : layX[150]? = some (.inr (0, 0, 3, 0)) := rfl
theorem layX_151 : layX[151]? = some (.inr (0, 0, 3, 0)) := rfl
theorem layX_152 : layX[152]? = some (.inr (0, 0, 3, 0)) := rfl
theorem layX_153 : layX[153]? = some (.inl (7, [(0, 0), (0, 0), (0, 0), (0, 0), (2, 142), (2, 154), (2, 155), (2, 156), (2, 157), (2, 158)])) := rfl
theorem layX_154 : layX[154]? = some (.inr (0, 0, 13, 0)) := rfl
theorem layX_155 : layX[155]? = some (.inr (0, 0, 13, 0)) := rfl
theorem layX_156 : layX[156]? = some (.inr (0, 0, 13, 0)) := rfl
theorem layX_157 : layX[157]? = some (.inr (0, 0, 10, 0)) := rfl
theorem layX_158 : layX[158]? = some (.inr (0, 0, 10, 0)) := rfl
theorem layX_159 : layX[159]? = some (.inl (4, [(2, 106), (0, 0), (3, 160)])) := rfl
theorem layX_160 : layX[160]? = some (.inr (1, 1, 0, 0)) := rfl
theorem layX_ok : wd_ok layX = true := by decide +kernel
