def layM : List wd_E := [
  .inl (12, [(2, 1), (0, 0), (2, 2), (0, 0), (2, 3), (2, 4), (0, 0), (2, 5), (2, 6), (2, 7), (0, 0), (0, 0), (0, 0), (0, 0), (0, 0), (0, 0), (0, 0), (0, 0), (0, 0), (0, 0), (0, 0), (0, 0), (2, 8), (2, 9), (2, 10), (2, 11), (2, 12), (2, 13), (2, 14), (2, 15), (0, 0), (0, 0), (0, 0), (2, 16), (0, 0), (0, 0), (0, 0), (0, 0), (0, 0), (0, 0), (2, 17), (2, 18), (2, 19), (2, 20), (0, 0), (2, 21), (2, 22), (2, 23), (2, 24), (2, 25), (2, 26), (0, 0), (2, 27), (2, 28), (2, 29), (0, 0), (0, 0), (0, 0), (2, 30), (2, 31), (0, 0), (2, 32), (2, 33), (2, 34), (1, 0), (2, 35), (2, 36), (0, 0), (2, 37), (2, 38), (2, 39), (2, 40), (0, 0), (2, 41), (2, 42), (2, 43), (2, 44), (2, 45), (2, 46), (2, 47), (0, 0)]),
  .inr (1, 0, 400, 0),
  .inr (0, 0, 60, 0),
  .inr (0, 0, 10, 0),
  .inr (0, 0, 10, 0),
  .inr (0, 0, 3, 0),
  .inr (0, 0, 3, 0),
  .inr (0, 0, 3, 0),
  .inr (0, 0, 13, 0),
  .inr (0, 0, 13, 0),
  .inr (0, 0, 13, 0),
  .inr (2, 0, 13, 0),
  .inr (0, 0, 13, 0),
  .inr (0, 0, 13, 0),
  .inr (0, 0, 10, 0),
  .inr (0, 0, 10, 0),
  .inr (0, 0, 15, 0),
  .inr (0, 0, 10, 0),
  .inr (0, 0, 10, 0),
  .inr (0, 0, 13, 0),
  .inr (2, 0, 32768, 0),
  .inr (3, 0, 32768, 0),
  .inr (0, 0, 15, 0),
  .inr (0, 0, 15, 0),
  .inr (0, 0, 120, 0),
  .inr (0, 0, 2, 0),
  .inr (0, 0, 2, 0),
  .inr (0, 0, 9, 0),
  .inr (0, 0, 9, 0),
  .inr (0, 0, 9, 0),
  .inr (3, 0, 3, 0),
  .inr (0, 0, 32768, 0),
  .inr (0, 0, 6, 0),
  .inr (0, 0, 6, 0),
  .inr (2, 0, 6, 0),
  .inr (3, 0, 15, 0),
  .inr (3, 0, 100, 0),
  .inr (0, 0, 12, 0),
  .inr (0, 0, 12, 0),
  .inr (0, 0, 12, 0),
  .inr (0, 0, 10, 0),
  .inr (0, 0, 15, 0),
  .inr (0, 0, 19683, 0),
  .inr (0, 0, 19683, 0),
  .inr (0, 0, 19683, 0),
  .inr (0, 0, 10, 0),
  .inr (0, 0, 800, 0),
  .inr (2, 0, 4, 0)]
theorem layM_0 : layM[0]? = some (.inl (12, [(2, 1), (0, 0), (2, 2), (0, 0), (2, 3), (2, 4), (0, 0), (2, 5), (2, 6), (2, 7), (0, 0), (0, 0), (0, 0), (0, 0), (0, 0), (0, 0), (0, 0), (0, 0), (0, 0), (0, 0), (0, 0), (0, 0), (2, 8), (2, 9), (2, 10), (2, 11), (2, 12), (2, 13), (2, 14), (2, 15), (0, 0), (0, 0), (0, 0), (2, 16), (0, 0), (0, 0), (0, 0), (0, 0), (0, 0), (0, 0), (2, 17), (2, 18), (2, 19), (2, 20), (0, 0), (2, 21), (2, 22), (2, 23), (2, 24), (2, 25), (2, 26), (0, 0), (2, 27), (2, 28), (2, 29), (0, 0), (0, 0), (0, 0), (2, 30), (2, 31), (0, 0), (2, 32), (2, 33), (2, 34), (1, 0), (2, 35), (2, 36), (0, 0), (2, 37), (2, 38), (2, 39), (2, 40), (0, 0), (2, 41), (2, 42), (2, 43), (2, 44), (2, 45), (2, 46), (2, 47), (0, 0)])) := rfl
theorem layM_1 : layM[1]? = some (.inr (1, 0, 400, 0)) := rfl
theorem layM_2 : layM[2]? = some (.inr (0, 0, 60, 0)) := rfl
theorem layM_3 : layM[3]? = some (.inr (0, 0, 10, 0)) := rfl
theorem layM_4 : layM[4]? = some (.inr (0, 0, 10, 0)) := rfl
theorem layM_5 : layM[5]? = some (.inr (0, 0, 3, 0)) := rfl
theorem layM_6 : layM[6]? = some (.inr (0, 0, 3, 0)) := rfl
theorem layM_7 : layM[7]? = some (.inr (0, 0, 3, 0)) := rfl
theorem layM_8 : layM[8]? = some (.inr (0, 0, 13, 0)) := rfl
theorem layM_9 : layM[9]? = some (.inr (0, 0, 13, 0)) := rfl
theorem layM_10 : layM[10]? = some (.inr (0, 0, 13, 0)) := rfl
theorem layM_11 : layM[11]? = some (.inr (2, 0, 13, 0)) := rfl
theorem layM_12 : layM[12]? = some (.inr (0, 0, 13, 0)) := rfl
theorem layM_13 : layM[13]? = some (.inr (0, 0, 13, 0)) := rfl
theorem layM_14 : layM[14]? = some (.inr (0, 0, 10, 0)) := rfl
theorem layM_15 : layM[15]? = some (.inr (0, 0, 10, 0)) := rfl
theorem layM_16 : layM[16]? = some (.inr (0, 0, 15, 0)) := rfl
theorem layM_17 : layM[17]? = some (.inr (0, 0, 10, 0)) := rfl
theorem layM_18 : layM[18]? = some (.inr (0, 0, 10, 0)) := rfl
theorem layM_19 : layM[19]? = some (.inr (0, 0, 13, 0)) := rfl
theorem layM_20 : layM[20]? = some (.inr (2, 0, 32768, 0)) := rfl
theorem layM_21 : layM[21]? = some (.inr (3, 0, 32768, 0)) := rfl
theorem layM_22 : layM[22]? = some (.inr (0, 0, 15, 0)) := rfl
theorem layM_23 : layM[23]? = some (.inr (0, 0, 15, 0)) := rfl
theorem layM_24 : layM[24]? = some (.inr (0, 0, 120, 0)) := rfl
theorem layM_25 : layM[25]? = some (.inr (0, 0, 2, 0)) := rfl
theorem layM_26 : layM[26]? = some (.inr (0, 0, 2, 0)) := rfl
theorem layM_27 : layM[27]? = some (.inr (0, 0, 9, 0)) := rfl
theorem layM_28 : layM[28]? = some (.inr (0, 0, 9, 0)) := rfl
theorem layM_29 : layM[29]? = some (.inr (0, 0, 9, 0)) := rfl
theorem layM_30 : layM[30]? = some (.inr (3, 0, 3, 0)) := rfl
theorem layM_31 : layM[31]? = some (.inr (0, 0, 32768, 0)) := rfl
theorem layM_32 : layM[32]? = some (.inr (0, 0, 6, 0)) := rfl
theorem layM_33 : layM[33]? = some (.inr (0, 0, 6, 0)) := rfl
theorem layM_34 : layM[34]? = some (.inr (2, 0, 6, 0)) := rfl
theorem layM_35 : layM[35]? = some (.inr (3, 0, 15, 0)) := rfl
theorem layM_36 : layM[36]? = some (.inr (3, 0, 100, 0)) := rfl
theorem layM_37 : layM[37]? = some (.inr (0, 0, 12, 0)) := rfl
theorem layM_38 : layM[38]? = some (.inr (0, 0, 12, 0)) := rfl
theorem layM_39 : layM[39]? = some (.inr (0, 0, 12, 0)) := rfl
theorem layM_40 : layM[40]? = some (.inr (0, 0, 10, 0)) := rfl
theorem layM_41 : layM[41]? = some (.inr (0, 0, 15, 0)) := rfl
theorem layM_42 : layM[42]? = some (.inr (0, 0, 19683, 0)) := rfl
theorem layM_43 : layM[43]? = some (.inr (0, 0, 19683, 0)) := rfl
theorem layM_44 : layM[44]? = some (.inr (0, 0, 19683, 0)) := rfl
theorem layM_45 : layM[45]? = some (.inr (0, 0, 10, 0)) := rfl
theorem layM_46 : layM[46]? = some (.inr (0, 0, 800, 0)) := rfl
theorem layM_47 : layM[47]? = some (.inr (2, 0, 4, 0)) := rfl
theorem layM_ok : wd_ok layM = true := by decide +kernel
