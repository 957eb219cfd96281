/-! the cells of both systems, kinds of objects, names of numbers -/
def wC : qWo := ([.inr (11, [.inr 1, .inr 42, .inr 43, .inr 44, .inr 68, .inr 73, .inr 77, .inr 86, .inr 87, .inr 88, .inl 0, .inl 0, .inl 0, .inl 0]),
  .inr (2, [.inr 2, .inr 15, .inr 18, .inr 19, .inr 21, .inr 23, .inr 25, .inr 27, .inr 29, .inr 31, .inr 33, .inr 35]),
  .inl (.object RX1, 2, [3, 9]),
  .inr (1, [.inr 4, .inr 6, .inr 7, .inr 8, .inl 0]),
  .inr (8, [.inl 0, .inl 0, .inr 5, .inl 0]),
  .inl (.int, 18, []),
  .inl (.int, 24, []),
  .inl (.int, 24, []),
  .inl (.int, 24, []),
  .inr (1, [.inr 10, .inr 12, .inr 13, .inr 14, .inl 0]),
  .inr (8, [.inl 0, .inl 0, .inr 11, .inl 0]),
  .inl (.int, 18, []),
  .inl (.int, 24, []),
  .inl (.int, 24, []),
  .inl (.int, 24, []),
  .inr (10, [.inr 16, .inr 17, .inl 0]),
  .inl (.int, 30, []),
  .inl (.int, 10, []),
  .inl (.int, 6, []),
  .inr (8, [.inl 0, .inl 0, .inr 20, .inl 0]),
  .inl (.int, 72, []),
  .inr (8, [.inl 0, .inl 0, .inr 22, .inl 0]),
  .inl (.int, 36, []),
  .inr (8, [.inl 0, .inl 0, .inr 24, .inl 0]),
  .inl (.int, 40, []),
  .inr (8, [.inl 0, .inl 0, .inr 26, .inl 0]),
  .inl (.int, 30, []),
  .inr (8, [.inl 0, .inl 0, .inr 28, .inl 0]),
  .inl (.int, 32, []),
  .inr (8, [.inl 0, .inl 0, .inr 30, .inl 0]),
  .inl (.int, 16, []),
  .inr (8, [.inl 0, .inl 0, .inr 32, .inl 0]),
  .inl (.int, 6, []),
  .inr (8, [.inl 0, .inl 0, .inr 34, .inl 0]),
  .inl (.int, 12, []),
  .inr (5, [.inr 36, .inr 38, .inr 39, .inr 40, .inr 41, .inl 0, .inl 0]),
  .inr (8, [.inl 0, .inl 0, .inr 37, .inl 0]),
  .inl (.int, 48, []),
  .inl (.int, 400, []),
  .inl (.int, 400, []),
  .inl (.int, 5, []),
  .inl (.long, 64, []),
  .inl (.object RX2, 2, [89, 130]),
  .inl (.boolean, 2, []),
  .inr (3, [.inr 1, .inr 45, .inr 50, .inr 57, .inr 60, .inr 61, .inr 62, .inr 63, .inr 64, .inr 65, .inr 66, .inr 67, .inl 0, .inl 0, .inl 0, .inl 0, .inl 0, .inl 0]),
  .inl (.object RX8, 2, [46, 48]),
  .inr (8, [.inl 0, .inl 0, .inr 47, .inl 0]),
  .inl (.int, 108, []),
  .inr (8, [.inl 0, .inl 0, .inr 49, .inl 0]),
  .inl (.int, 108, []),
  .inl (.object RX7, 2, [51, 54]),
  .inr (7, [.inr 52, .inr 53]),
  .inl (.boolean, 201, []),
  .inl (.int, 401, []),
  .inr (7, [.inr 55, .inr 56]),
  .inl (.boolean, 201, []),
  .inl (.int, 401, []),
  .inr (7, [.inr 58, .inr 59]),
  .inl (.boolean, 201, []),
  .inl (.int, 401, []),
  .inl (.int, 201, []),
  .inl (.int, 1568, []),
  .inr (0, [.inl 0, .inl 0, .inl 0, .inl 0]),
  .inl (.int, 7, []),
  .inl (.int, 7, []),
  .inl (.int, 7, []),
  .inl (.int, 81, []),
  .inl (.int, 6, []),
  .inr (9, [.inr 1, .inr 44, .inr 69, .inr 70, .inr 71, .inr 72, .inl 0, .inl 0, .inl 0]),
  .inl (.int, 42, []),
  .inl (.int, 42, []),
  .inl (.int, 42, []),
  .inl (.int, 64, []),
  .inr (4, [.inr 1, .inr 74, .inr 75, .inr 76, .inl 0, .inl 0, .inl 0]),
  .inl (.int, 24, []),
  .inl (.int, 24, []),
  .inl (.int, 24, []),
  .inr (6, [.inr 78, .inl 2, .inl 0, .inl 0, .inl 0, .inl 0, .inl 0]),
  .inr (5, [.inr 79, .inr 81, .inr 82, .inr 83, .inr 84, .inl 0, .inl 0]),
  .inr (8, [.inl 0, .inl 0, .inr 80, .inl 0]),
  .inl (.int, 48, []),
  .inl (.int, 400, []),
  .inl (.int, 400, []),
  .inl (.int, 5, []),
  .inl (.long, 64, []),
  .inl (.int, 0, []),
  .inl (.int, 400, []),
  .inl (.int, 5, []),
  .inl (.int, 6, []),
  .inr (2, [.inr 90, .inr 103, .inr 106, .inr 107, .inr 109, .inr 111, .inr 113, .inr 115, .inr 117, .inr 119, .inr 121, .inr 123]),
  .inl (.object RX1, 2, [91, 97]),
  .inr (1, [.inr 92, .inr 94, .inr 95, .inr 96, .inl 0]),
  .inr (8, [.inl 0, .inl 0, .inr 93, .inl 0]),
  .inl (.int, 18, []),
  .inl (.int, 24, []),
  .inl (.int, 24, []),
  .inl (.int, 24, []),
  .inr (1, [.inr 98, .inr 100, .inr 101, .inr 102, .inl 0]),
  .inr (8, [.inl 0, .inl 0, .inr 99, .inl 0]),
  .inl (.int, 18, []),
  .inl (.int, 24, []),
  .inl (.int, 24, []),
  .inl (.int, 24, []),
  .inr (10, [.inr 104, .inr 105, .inl 0]),
  .inl (.int, 30, []),
  .inl (.int, 10, []),
  .inl (.int, 6, []),
  .inr (8, [.inl 0, .inl 0, .inr 108, .inl 0]),
  .inl (.int, 72, []),
  .inr (8, [.inl 0, .inl 0, .inr 110, .inl 0]),
  .inl (.int, 36, []),
  .inr (8, [.inl 0, .inl 0, .inr 112, .inl 0]),
  .inl (.int, 40, []),
  .inr (8, [.inl 0, .inl 0, .inr 114, .inl 0]),
  .inl (.int, 30, []),
  .inr (8, [.inl 0, .inl 0, .inr 116, .inl 0]),
  .inl (.int, 32, []),
  .inr (8, [.inl 0, .inl 0, .inr 118, .inl 0]),
  .inl (.int, 16, []),
  .inr (8, [.inl 0, .inl 0, .inr 120, .inl 0]),
  .inl (.int, 6, []),
  .inr (8, [.inl 0, .inl 0, .inr 122, .inl 0]),
  .inl (.int, 12, []),
  .inr (5, [.inr 124, .inr 126, .inr 127, .inr 128, .inr 129, .inl 0, .inl 0]),
  .inr (8, [.inl 0, .inl 0, .inr 125, .inl 0]),
  .inl (.int, 48, []),
  .inl (.int, 400, []),
  .inl (.int, 400, []),
  .inl (.int, 5, []),
  .inl (.long, 64, []),
  .inr (2, [.inr 131, .inr 144, .inr 147, .inr 148, .inr 150, .inr 152, .inr 154, .inr 156, .inr 158, .inr 160, .inr 162, .inr 164]),
  .inl (.object RX1, 2, [132, 138]),
  .inr (1, [.inr 133, .inr 135, .inr 136, .inr 137, .inl 0]),
  .inr (8, [.inl 0, .inl 0, .inr 134, .inl 0]),
  .inl (.int, 18, []),
  .inl (.int, 24, []),
  .inl (.int, 24, []),
  .inl (.int, 24, []),
  .inr (1, [.inr 139, .inr 141, .inr 142, .inr 143, .inl 0]),
  .inr (8, [.inl 0, .inl 0, .inr 140, .inl 0]),
  .inl (.int, 18, []),
  .inl (.int, 24, []),
  .inl (.int, 24, []),
  .inl (.int, 24, []),
  .inr (10, [.inr 145, .inr 146, .inl 0]),
  .inl (.int, 30, []),
  .inl (.int, 10, []),
  .inl (.int, 6, []),
  .inr (8, [.inl 0, .inl 0, .inr 149, .inl 0]),
  .inl (.int, 72, []),
  .inr (8, [.inl 0, .inl 0, .inr 151, .inl 0]),
  .inl (.int, 36, []),
  .inr (8, [.inl 0, .inl 0, .inr 153, .inl 0]),
  .inl (.int, 40, []),
  .inr (8, [.inl 0, .inl 0, .inr 155, .inl 0]),
  .inl (.int, 30, []),
  .inr (8, [.inl 0, .inl 0, .inr 157, .inl 0]),
  .inl (.int, 32, []),
  .inr (8, [.inl 0, .inl 0, .inr 159, .inl 0]),
  .inl (.int, 16, []),
  .inr (8, [.inl 0, .inl 0, .inr 161, .inl 0]),
  .inl (.int, 6, []),
  .inr (8, [.inl 0, .inl 0, .inr 163, .inl 0]),
  .inl (.int, 12, []),
  .inr (5, [.inr 165, .inr 167, .inr 168, .inr 169, .inr 170, .inl 0, .inl 0]),
  .inr (8, [.inl 0, .inl 0, .inr 166, .inl 0]),
  .inl (.int, 48, []),
  .inl (.int, 400, []),
  .inl (.int, 400, []),
  .inl (.int, 5, []),
  .inl (.long, 64, [])], true)
def wM : qWo := ([.inr (12, [.inl 0, .inr 1, .inl 0, .inr 2, .inr 3, .inr 4, .inr 5, .inl 0, .inl 0, .inr 6, .inl 0, .inr 7, .inl 0, .inl 0, .inr 8, .inl 0, .inr 9, .inr 10, .inr 11, .inr 12, .inl 0, .inr 13, .inr 14, .inr 15, .inr 16, .inr 17, .inr 18, .inr 19, .inl 0, .inl 0, .inr 20, .inr 21, .inr 22, .inl 0, .inl 0, .inl 0, .inl 0, .inl 0, .inl 0, .inl 0, .inr 23, .inr 24, .inr 25, .inr 26, .inl 1]),
  .inl (.int, 7, []),
  .inl (.int, 1112, []),
  .inl (.int, 2224, []),
  .inl (.boolean, 2, []),
  .inl (.boolean, 20100, []),
  .inl (.int, 144, []),
  .inl (.boolean, 50176, []),
  .inl (.byte, 50176, []),
  .inl (.int, 81, []),
  .inl (.int, 24, []),
  .inl (.int, 24, []),
  .inl (.int, 24, []),
  .inl (.int, 24, []),
  .inl (.int, 6, []),
  .inl (.int, 36, []),
  .inl (.int, 6, []),
  .inl (.byte, 57, []),
  .inl (.byte, 400, []),
  .inl (.int, 5, []),
  .inl (.int, 401, []),
  .inl (.int, 401, []),
  .inl (.int, 401, []),
  .inl (.int, 5, []),
  .inl (.boolean, 201, []),
  .inl (.int, 6, []),
  .inl (.int, 6, [])], false)
theorem zC_0 : wC.1[0]? = some (.inr (11, [.inr 1, .inr 42, .inr 43, .inr 44, .inr 68, .inr 73, .inr 77, .inr 86, .inr 87, .inr 88, .inl 0, .inl 0, .inl 0, .inl 0])) := rfl
theorem zC_1 : wC.1[1]? = some (.inr (2, [.inr 2, .inr 15, .inr 18, .inr 19, .inr 21, .inr 23, .inr 25, .inr 27, .inr 29, .inr 31, .inr 33, .inr 35])) := rfl
theorem zC_2 : wC.1[2]? = some (.inl (.object RX1, 2, [3, 9])) := rfl
theorem zC_3 : wC.1[3]? = some (.inr (1, [.inr 4, .inr 6, .inr 7, .inr 8, .inl 0])) := rfl
theorem zC_4 : wC.1[4]? = some (.inr (8, [.inl 0, .inl 0, .inr 5, .inl 0])) := rfl
theorem zC_5 : wC.1[5]? = some (.inl (.int, 18, [])) := rfl
theorem zC_6 : wC.1[6]? = some (.inl (.int, 24, [])) := rfl
theorem zC_7 : wC.1[7]? = some (.inl (.int, 24, [])) := rfl
theorem zC_8 : wC.1[8]? = some (.inl (.int, 24, [])) := rfl
theorem zC_9 : wC.1[9]? = some (.inr (1, [.inr 10, .inr 12, .inr 13, .inr 14, .inl 0])) := rfl
theorem zC_10 : wC.1[10]? = some (.inr (8, [.inl 0, .inl 0, .inr 11, .inl 0])) := rfl
theorem zC_11 : wC.1[11]? = some (.inl (.int, 18, [])) := rfl
theorem zC_12 : wC.1[12]? = some (.inl (.int, 24, [])) := rfl
theorem zC_13 : wC.1[13]? = some (.inl (.int, 24, [])) := rfl
theorem zC_14 : wC.1[14]? = some (.inl (.int, 24, [])) := rfl
theorem zC_15 : wC.1[15]? = some (.inr (10, [.inr 16, .inr 17, .inl 0])) := rfl
theorem zC_16 : wC.1[16]? = some (.inl (.int, 30, [])) := rfl
theorem zC_17 : wC.1[17]? = some (.inl (.int, 10, [])) := rfl
theorem zC_18 : wC.1[18]? = some (.inl (.int, 6, [])) := rfl
theorem zC_19 : wC.1[19]? = some (.inr (8, [.inl 0, .inl 0, .inr 20, .inl 0])) := rfl
theorem zC_20 : wC.1[20]? = some (.inl (.int, 72, [])) := rfl
theorem zC_21 : wC.1[21]? = some (.inr (8, [.inl 0, .inl 0, .inr 22, .inl 0])) := rfl
theorem zC_22 : wC.1[22]? = some (.inl (.int, 36, [])) := rfl
theorem zC_23 : wC.1[23]? = some (.inr (8, [.inl 0, .inl 0, .inr 24, .inl 0])) := rfl
theorem zC_24 : wC.1[24]? = some (.inl (.int, 40, [])) := rfl
theorem zC_25 : wC.1[25]? = some (.inr (8, [.inl 0, .inl 0, .inr 26, .inl 0])) := rfl
theorem zC_26 : wC.1[26]? = some (.inl (.int, 30, [])) := rfl
theorem zC_27 : wC.1[27]? = some (.inr (8, [.inl 0, .inl 0, .inr 28, .inl 0])) := rfl
theorem zC_28 : wC.1[28]? = some (.inl (.int, 32, [])) := rfl
theorem zC_29 : wC.1[29]? = some (.inr (8, [.inl 0, .inl 0, .inr 30, .inl 0])) := rfl
theorem zC_30 : wC.1[30]? = some (.inl (.int, 16, [])) := rfl
theorem zC_31 : wC.1[31]? = some (.inr (8, [.inl 0, .inl 0, .inr 32, .inl 0])) := rfl
theorem zC_32 : wC.1[32]? = some (.inl (.int, 6, [])) := rfl
theorem zC_33 : wC.1[33]? = some (.inr (8, [.inl 0, .inl 0, .inr 34, .inl 0])) := rfl
theorem zC_34 : wC.1[34]? = some (.inl (.int, 12, [])) := rfl
theorem zC_35 : wC.1[35]? = some (.inr (5, [.inr 36, .inr 38, .inr 39, .inr 40, .inr 41, .inl 0, .inl 0])) := rfl
theorem zC_36 : wC.1[36]? = some (.inr (8, [.inl 0, .inl 0, .inr 37, .inl 0])) := rfl
theorem zC_37 : wC.1[37]? = some (.inl (.int, 48, [])) := rfl
theorem zC_38 : wC.1[38]? = some (.inl (.int, 400, [])) := rfl
theorem zC_39 : wC.1[39]? = some (.inl (.int, 400, [])) := rfl
theorem zC_40 : wC.1[40]? = some (.inl (.int, 5, [])) := rfl
theorem zC_41 : wC.1[41]? = some (.inl (.long, 64, [])) := rfl
theorem zC_42 : wC.1[42]? = some (.inl (.object RX2, 2, [89, 130])) := rfl
theorem zC_43 : wC.1[43]? = some (.inl (.boolean, 2, [])) := rfl
theorem zC_44 : wC.1[44]? = some (.inr (3, [.inr 1, .inr 45, .inr 50, .inr 57, .inr 60, .inr 61, .inr 62, .inr 63, .inr 64, .inr 65, .inr 66, .inr 67, .inl 0, .inl 0, .inl 0, .inl 0, .inl 0, .inl 0])) := rfl
theorem zC_45 : wC.1[45]? = some (.inl (.object RX8, 2, [46, 48])) := rfl
theorem zC_46 : wC.1[46]? = some (.inr (8, [.inl 0, .inl 0, .inr 47, .inl 0])) := rfl
theorem zC_47 : wC.1[47]? = some (.inl (.int, 108, [])) := rfl
theorem zC_48 : wC.1[48]? = some (.inr (8, [.inl 0, .inl 0, .inr 49, .inl 0])) := rfl
theorem zC_49 : wC.1[49]? = some (.inl (.int, 108, [])) := rfl
theorem zC_50 : wC.1[50]? = some (.inl (.object RX7, 2, [51, 54])) := rfl
theorem zC_51 : wC.1[51]? = some (.inr (7, [.inr 52, .inr 53])) := rfl
theorem zC_52 : wC.1[52]? = some (.inl (.boolean, 201, [])) := rfl
theorem zC_53 : wC.1[53]? = some (.inl (.int, 401, [])) := rfl
theorem zC_54 : wC.1[54]? = some (.inr (7, [.inr 55, .inr 56])) := rfl
theorem zC_55 : wC.1[55]? = some (.inl (.boolean, 201, [])) := rfl
theorem zC_56 : wC.1[56]? = some (.inl (.int, 401, [])) := rfl
theorem zC_57 : wC.1[57]? = some (.inr (7, [.inr 58, .inr 59])) := rfl
theorem zC_58 : wC.1[58]? = some (.inl (.boolean, 201, [])) := rfl
theorem zC_59 : wC.1[59]? = some (.inl (.int, 401, [])) := rfl
theorem zC_60 : wC.1[60]? = some (.inl (.int, 201, [])) := rfl
theorem zC_61 : wC.1[61]? = some (.inl (.int, 1568, [])) := rfl
theorem zC_62 : wC.1[62]? = some (.inr (0, [.inl 0, .inl 0, .inl 0, .inl 0])) := rfl
theorem zC_63 : wC.1[63]? = some (.inl (.int, 7, [])) := rfl
theorem zC_64 : wC.1[64]? = some (.inl (.int, 7, [])) := rfl
theorem zC_65 : wC.1[65]? = some (.inl (.int, 7, [])) := rfl
theorem zC_66 : wC.1[66]? = some (.inl (.int, 81, [])) := rfl
theorem zC_67 : wC.1[67]? = some (.inl (.int, 6, [])) := rfl
theorem zC_68 : wC.1[68]? = some (.inr (9, [.inr 1, .inr 44, .inr 69, .inr 70, .inr 71, .inr 72, .inl 0, .inl 0, .inl 0])) := rfl
theorem zC_69 : wC.1[69]? = some (.inl (.int, 42, [])) := rfl
theorem zC_70 : wC.1[70]? = some (.inl (.int, 42, [])) := rfl
theorem zC_71 : wC.1[71]? = some (.inl (.int, 42, [])) := rfl
theorem zC_72 : wC.1[72]? = some (.inl (.int, 64, [])) := rfl
theorem zC_73 : wC.1[73]? = some (.inr (4, [.inr 1, .inr 74, .inr 75, .inr 76, .inl 0, .inl 0, .inl 0])) := rfl
theorem zC_74 : wC.1[74]? = some (.inl (.int, 24, [])) := rfl
theorem zC_75 : wC.1[75]? = some (.inl (.int, 24, [])) := rfl
theorem zC_76 : wC.1[76]? = some (.inl (.int, 24, [])) := rfl
theorem zC_77 : wC.1[77]? = some (.inr (6, [.inr 78, .inl 2, .inl 0, .inl 0, .inl 0, .inl 0, .inl 0])) := rfl
theorem zC_78 : wC.1[78]? = some (.inr (5, [.inr 79, .inr 81, .inr 82, .inr 83, .inr 84, .inl 0, .inl 0])) := rfl
theorem zC_79 : wC.1[79]? = some (.inr (8, [.inl 0, .inl 0, .inr 80, .inl 0])) := rfl
theorem zC_80 : wC.1[80]? = some (.inl (.int, 48, [])) := rfl
theorem zC_81 : wC.1[81]? = some (.inl (.int, 400, [])) := rfl
theorem zC_82 : wC.1[82]? = some (.inl (.int, 400, [])) := rfl
theorem zC_83 : wC.1[83]? = some (.inl (.int, 5, [])) := rfl
theorem zC_84 : wC.1[84]? = some (.inl (.long, 64, [])) := rfl
theorem zC_85 : wC.1[85]? = some (.inl (.int, 0, [])) := rfl
theorem zC_86 : wC.1[86]? = some (.inl (.int, 400, [])) := rfl
theorem zC_87 : wC.1[87]? = some (.inl (.int, 5, [])) := rfl
theorem zC_88 : wC.1[88]? = some (.inl (.int, 6, [])) := rfl
theorem zC_89 : wC.1[89]? = some (.inr (2, [.inr 90, .inr 103, .inr 106, .inr 107, .inr 109, .inr 111, .inr 113, .inr 115, .inr 117, .inr 119, .inr 121, .inr 123])) := rfl
theorem zC_90 : wC.1[90]? = some (.inl (.object RX1, 2, [91, 97])) := rfl
theorem zC_91 : wC.1[91]? = some (.inr (1, [.inr 92, .inr 94, .inr 95, .inr 96, .inl 0])) := rfl
theorem zC_92 : wC.1[92]? = some (.inr (8, [.inl 0, .inl 0, .inr 93, .inl 0])) := rfl
theorem zC_93 : wC.1[93]? = some (.inl (.int, 18, [])) := rfl
theorem zC_94 : wC.1[94]? = some (.inl (.int, 24, [])) := rfl
theorem zC_95 : wC.1[95]? = some (.inl (.int, 24, [])) := rfl
theorem zC_96 : wC.1[96]? = some (.inl (.int, 24, [])) := rfl
theorem zC_97 : wC.1[97]? = some (.inr (1, [.inr 98, .inr 100, .inr 101, .inr 102, .inl 0])) := rfl
theorem zC_98 : wC.1[98]? = some (.inr (8, [.inl 0, .inl 0, .inr 99, .inl 0])) := rfl
theorem zC_99 : wC.1[99]? = some (.inl (.int, 18, [])) := rfl
theorem zC_100 : wC.1[100]? = some (.inl (.int, 24, [])) := rfl
theorem zC_101 : wC.1[101]? = some (.inl (.int, 24, [])) := rfl
theorem zC_102 : wC.1[102]? = some (.inl (.int, 24, [])) := rfl
theorem zC_103 : wC.1[103]? = some (.inr (10, [.inr 104, .inr 105, .inl 0])) := rfl
theorem zC_104 : wC.1[104]? = some (.inl (.int, 30, [])) := rfl
theorem zC_105 : wC.1[105]? = some (.inl (.int, 10, [])) := rfl
theorem zC_106 : wC.1[106]? = some (.inl (.int, 6, [])) := rfl
theorem zC_107 : wC.1[107]? = some (.inr (8, [.inl 0, .inl 0, .inr 108, .inl 0])) := rfl
theorem zC_108 : wC.1[108]? = some (.inl (.int, 72, [])) := rfl
theorem zC_109 : wC.1[109]? = some (.inr (8, [.inl 0, .inl 0, .inr 110, .inl 0])) := rfl
theorem zC_110 : wC.1[110]? = some (.inl (.int, 36, [])) := rfl
theorem zC_111 : wC.1[111]? = some (.inr (8, [.inl 0, .inl 0, .inr 112, .inl 0])) := rfl
theorem zC_112 : wC.1[112]? = some (.inl (.int, 40, [])) := rfl
theorem zC_113 : wC.1[113]? = some (.inr (8, [.inl 0, .inl 0, .inr 114, .inl 0])) := rfl
theorem zC_114 : wC.1[114]? = some (.inl (.int, 30, [])) := rfl
theorem zC_115 : wC.1[115]? = some (.inr (8, [.inl 0, .inl 0, .inr 116, .inl 0])) := rfl
theorem zC_116 : wC.1[116]? = some (.inl (.int, 32, [])) := rfl
theorem zC_117 : wC.1[117]? = some (.inr (8, [.inl 0, .inl 0, .inr 118, .inl 0])) := rfl
theorem zC_118 : wC.1[118]? = some (.inl (.int, 16, [])) := rfl
theorem zC_119 : wC.1[119]? = some (.inr (8, [.inl 0, .inl 0, .inr 120, .inl 0])) := rfl
theorem zC_120 : wC.1[120]? = some (.inl (.int, 6, [])) := rfl
theorem zC_121 : wC.1[121]? = some (.inr (8, [.inl 0, .inl 0, .inr 122, .inl 0])) := rfl
theorem zC_122 : wC.1[122]? = some (.inl (.int, 12, [])) := rfl
theorem zC_123 : wC.1[123]? = some (.inr (5, [.inr 124, .inr 126, .inr 127, .inr 128, .inr 129, .inl 0, .inl 0])) := rfl
theorem zC_124 : wC.1[124]? = some (.inr (8, [.inl 0, .inl 0, .inr 125, .inl 0])) := rfl
theorem zC_125 : wC.1[125]? = some (.inl (.int, 48, [])) := rfl
theorem zC_126 : wC.1[126]? = some (.inl (.int, 400, [])) := rfl
theorem zC_127 : wC.1[127]? = some (.inl (.int, 400, [])) := rfl
theorem zC_128 : wC.1[128]? = some (.inl (.int, 5, [])) := rfl
theorem zC_129 : wC.1[129]? = some (.inl (.long, 64, [])) := rfl
theorem zC_130 : wC.1[130]? = some (.inr (2, [.inr 131, .inr 144, .inr 147, .inr 148, .inr 150, .inr 152, .inr 154, .inr 156, .inr 158, .inr 160, .inr 162, .inr 164])) := rfl
theorem zC_131 : wC.1[131]? = some (.inl (.object RX1, 2, [132, 138])) := rfl
theorem zC_132 : wC.1[132]? = some (.inr (1, [.inr 133, .inr 135, .inr 136, .inr 137, .inl 0])) := rfl
theorem zC_133 : wC.1[133]? = some (.inr (8, [.inl 0, .inl 0, .inr 134, .inl 0])) := rfl
theorem zC_134 : wC.1[134]? = some (.inl (.int, 18, [])) := rfl
theorem zC_135 : wC.1[135]? = some (.inl (.int, 24, [])) := rfl
theorem zC_136 : wC.1[136]? = some (.inl (.int, 24, [])) := rfl
theorem zC_137 : wC.1[137]? = some (.inl (.int, 24, [])) := rfl
theorem zC_138 : wC.1[138]? = some (.inr (1, [.inr 139, .inr 141, .inr 142, .inr 143, .inl 0])) := rfl
theorem zC_139 : wC.1[139]? = some (.inr (8, [.inl 0, .inl 0, .inr 140, .inl 0])) := rfl
theorem zC_140 : wC.1[140]? = some (.inl (.int, 18, [])) := rfl
theorem zC_141 : wC.1[141]? = some (.inl (.int, 24, [])) := rfl
theorem zC_142 : wC.1[142]? = some (.inl (.int, 24, [])) := rfl
theorem zC_143 : wC.1[143]? = some (.inl (.int, 24, [])) := rfl
theorem zC_144 : wC.1[144]? = some (.inr (10, [.inr 145, .inr 146, .inl 0])) := rfl
theorem zC_145 : wC.1[145]? = some (.inl (.int, 30, [])) := rfl
theorem zC_146 : wC.1[146]? = some (.inl (.int, 10, [])) := rfl
theorem zC_147 : wC.1[147]? = some (.inl (.int, 6, [])) := rfl
theorem zC_148 : wC.1[148]? = some (.inr (8, [.inl 0, .inl 0, .inr 149, .inl 0])) := rfl
theorem zC_149 : wC.1[149]? = some (.inl (.int, 72, [])) := rfl
theorem zC_150 : wC.1[150]? = some (.inr (8, [.inl 0, .inl 0, .inr 151, .inl 0])) := rfl
theorem zC_151 : wC.1[151]? = some (.inl (.int, 36, [])) := rfl
theorem zC_152 : wC.1[152]? = some (.inr (8, [.inl 0, .inl 0, .inr 153, .inl 0])) := rfl
theorem zC_153 : wC.1[153]? = some (.inl (.int, 40, [])) := rfl
theorem zC_154 : wC.1[154]? = some (.inr (8, [.inl 0, .inl 0, .inr 155, .inl 0])) := rfl
theorem zC_155 : wC.1[155]? = some (.inl (.int, 30, [])) := rfl
theorem zC_156 : wC.1[156]? = some (.inr (8, [.inl 0, .inl 0, .inr 157, .inl 0])) := rfl
theorem zC_157 : wC.1[157]? = some (.inl (.int, 32, [])) := rfl
theorem zC_158 : wC.1[158]? = some (.inr (8, [.inl 0, .inl 0, .inr 159, .inl 0])) := rfl
theorem zC_159 : wC.1[159]? = some (.inl (.int, 16, [])) := rfl
theorem zC_160 : wC.1[160]? = some (.inr (8, [.inl 0, .inl 0, .inr 161, .inl 0])) := rfl
theorem zC_161 : wC.1[161]? = some (.inl (.int, 6, [])) := rfl
theorem zC_162 : wC.1[162]? = some (.inr (8, [.inl 0, .inl 0, .inr 163, .inl 0])) := rfl
theorem zC_163 : wC.1[163]? = some (.inl (.int, 12, [])) := rfl
theorem zC_164 : wC.1[164]? = some (.inr (5, [.inr 165, .inr 167, .inr 168, .inr 169, .inr 170, .inl 0, .inl 0])) := rfl
theorem zC_165 : wC.1[165]? = some (.inr (8, [.inl 0, .inl 0, .inr 166, .inl 0])) := rfl
theorem zC_166 : wC.1[166]? = some (.inl (.int, 48, [])) := rfl
theorem zC_167 : wC.1[167]? = some (.inl (.int, 400, [])) := rfl
theorem zC_168 : wC.1[168]? = some (.inl (.int, 400, [])) := rfl
theorem zC_169 : wC.1[169]? = some (.inl (.int, 5, [])) := rfl
theorem zC_170 : wC.1[170]? = some (.inl (.long, 64, [])) := rfl
theorem zM_0 : wM.1[0]? = some (.inr (12, [.inl 0, .inr 1, .inl 0, .inr 2, .inr 3, .inr 4, .inr 5, .inl 0, .inl 0, .inr 6, .inl 0, .inr 7, .inl 0, .inl 0, .inr 8, .inl 0, .inr 9, .inr 10, .inr 11, .inr 12, .inl 0, .inr 13, .inr 14, .inr 15, .inr 16, .inr 17, .inr 18, .inr 19, .inl 0, .inl 0, .inr 20, .inr 21, .inr 22, .inl 0, .inl 0, .inl 0, .inl 0, .inl 0, .inl 0, .inl 0, .inr 23, .inr 24, .inr 25, .inr 26, .inl 1])) := rfl
theorem zM_1 : wM.1[1]? = some (.inl (.int, 7, [])) := rfl
theorem zM_2 : wM.1[2]? = some (.inl (.int, 1112, [])) := rfl
theorem zM_3 : wM.1[3]? = some (.inl (.int, 2224, [])) := rfl
theorem zM_4 : wM.1[4]? = some (.inl (.boolean, 2, [])) := rfl
theorem zM_5 : wM.1[5]? = some (.inl (.boolean, 20100, [])) := rfl
theorem zM_6 : wM.1[6]? = some (.inl (.int, 144, [])) := rfl
theorem zM_7 : wM.1[7]? = some (.inl (.boolean, 50176, [])) := rfl
theorem zM_8 : wM.1[8]? = some (.inl (.byte, 50176, [])) := rfl
theorem zM_9 : wM.1[9]? = some (.inl (.int, 81, [])) := rfl
theorem zM_10 : wM.1[10]? = some (.inl (.int, 24, [])) := rfl
theorem zM_11 : wM.1[11]? = some (.inl (.int, 24, [])) := rfl
theorem zM_12 : wM.1[12]? = some (.inl (.int, 24, [])) := rfl
theorem zM_13 : wM.1[13]? = some (.inl (.int, 24, [])) := rfl
theorem zM_14 : wM.1[14]? = some (.inl (.int, 6, [])) := rfl
theorem zM_15 : wM.1[15]? = some (.inl (.int, 36, [])) := rfl
theorem zM_16 : wM.1[16]? = some (.inl (.int, 6, [])) := rfl
theorem zM_17 : wM.1[17]? = some (.inl (.byte, 57, [])) := rfl
theorem zM_18 : wM.1[18]? = some (.inl (.byte, 400, [])) := rfl
theorem zM_19 : wM.1[19]? = some (.inl (.int, 5, [])) := rfl
theorem zM_20 : wM.1[20]? = some (.inl (.int, 401, [])) := rfl
theorem zM_21 : wM.1[21]? = some (.inl (.int, 401, [])) := rfl
theorem zM_22 : wM.1[22]? = some (.inl (.int, 401, [])) := rfl
theorem zM_23 : wM.1[23]? = some (.inl (.int, 5, [])) := rfl
theorem zM_24 : wM.1[24]? = some (.inl (.boolean, 201, [])) := rfl
theorem zM_25 : wM.1[25]? = some (.inl (.int, 6, [])) := rfl
theorem zM_26 : wM.1[26]? = some (.inl (.int, 6, [])) := rfl
def iRows (k n : Nat) : Prop := wC.1[k]? = some (.inr (8, [.inl 0, .inl 0, .inr (k + 1), .inl 0])) ∧ wC.1[(k + 1)]? = some (.inl (.int, n, []))
def iBoat (k : Nat) : Prop := wC.1[k]? = some (.inr (1, [.inr (k + 1), .inr (k + 3), .inr (k + 4), .inr (k + 5), .inl 0])) ∧ iRows (k + 1) 18 ∧ wC.1[(k + 3)]? = some (.inl (.int, 24, [])) ∧ wC.1[(k + 4)]? = some (.inl (.int, 24, [])) ∧ wC.1[(k + 5)]? = some (.inl (.int, 24, []))
def iWater (k : Nat) : Prop := wC.1[k]? = some (.inr (10, [.inr (k + 1), .inr (k + 2), .inl 0])) ∧ wC.1[(k + 1)]? = some (.inl (.int, 30, [])) ∧ wC.1[(k + 2)]? = some (.inl (.int, 10, []))
def iLaw (k : Nat) : Prop := wC.1[k]? = some (.inr (5, [.inr (k + 1), .inr (k + 3), .inr (k + 4), .inr (k + 5), .inr (k + 6), .inl 0, .inl 0])) ∧ iRows (k + 1) 48 ∧ wC.1[(k + 3)]? = some (.inl (.int, 400, [])) ∧ wC.1[(k + 4)]? = some (.inl (.int, 400, [])) ∧ wC.1[(k + 5)]? = some (.inl (.int, 5, [])) ∧ wC.1[(k + 6)]? = some (.inl (.long, 64, []))
def iRings (k : Nat) : Prop := wC.1[k]? = some (.inr (7, [.inr (k + 1), .inr (k + 2)])) ∧ wC.1[(k + 1)]? = some (.inl (.boolean, 201, [])) ∧ wC.1[(k + 2)]? = some (.inl (.int, 401, []))
def iBook (k : Nat) : Prop := wC.1[k]? = some (.inr (2, [.inr (k + 1), .inr (k + 14), .inr (k + 17), .inr (k + 18), .inr (k + 20), .inr (k + 22), .inr (k + 24), .inr (k + 26), .inr (k + 28), .inr (k + 30), .inr (k + 32), .inr (k + 34)])) ∧ wC.1[(k + 1)]? = some (.inl (.object RX1, 2, [(k + 2), (k + 8)])) ∧ iBoat (k + 2) ∧ iBoat (k + 8) ∧ iWater (k + 14) ∧ wC.1[(k + 17)]? = some (.inl (.int, 6, [])) ∧ iRows (k + 18) 72 ∧ iRows (k + 20) 36 ∧ iRows (k + 22) 40 ∧ iRows (k + 24) 30 ∧ iRows (k + 26) 32 ∧ iRows (k + 28) 16 ∧ iRows (k + 30) 6 ∧ iRows (k + 32) 12 ∧ iLaw (k + 34)
theorem pC_1 : iBook 1 := ⟨zC_1, zC_2, ⟨zC_3, ⟨zC_4, zC_5⟩, zC_6, zC_7, zC_8⟩, ⟨zC_9, ⟨zC_10, zC_11⟩, zC_12, zC_13, zC_14⟩, ⟨zC_15, zC_16, zC_17⟩, zC_18, ⟨zC_19, zC_20⟩, ⟨zC_21, zC_22⟩, ⟨zC_23, zC_24⟩, ⟨zC_25, zC_26⟩, ⟨zC_27, zC_28⟩, ⟨zC_29, zC_30⟩, ⟨zC_31, zC_32⟩, ⟨zC_33, zC_34⟩, ⟨zC_35, ⟨zC_36, zC_37⟩, zC_38, zC_39, zC_40, zC_41⟩⟩
theorem pC_3 : iBoat 3 := ⟨zC_3, ⟨zC_4, zC_5⟩, zC_6, zC_7, zC_8⟩
theorem pC_4 : iRows 4 18 := ⟨zC_4, zC_5⟩
theorem pC_9 : iBoat 9 := ⟨zC_9, ⟨zC_10, zC_11⟩, zC_12, zC_13, zC_14⟩
theorem pC_10 : iRows 10 18 := ⟨zC_10, zC_11⟩
theorem pC_15 : iWater 15 := ⟨zC_15, zC_16, zC_17⟩
theorem pC_19 : iRows 19 72 := ⟨zC_19, zC_20⟩
theorem pC_21 : iRows 21 36 := ⟨zC_21, zC_22⟩
theorem pC_23 : iRows 23 40 := ⟨zC_23, zC_24⟩
theorem pC_25 : iRows 25 30 := ⟨zC_25, zC_26⟩
theorem pC_27 : iRows 27 32 := ⟨zC_27, zC_28⟩
theorem pC_29 : iRows 29 16 := ⟨zC_29, zC_30⟩
theorem pC_31 : iRows 31 6 := ⟨zC_31, zC_32⟩
theorem pC_33 : iRows 33 12 := ⟨zC_33, zC_34⟩
theorem pC_35 : iLaw 35 := ⟨zC_35, ⟨zC_36, zC_37⟩, zC_38, zC_39, zC_40, zC_41⟩
theorem pC_36 : iRows 36 48 := ⟨zC_36, zC_37⟩
theorem pC_46 : iRows 46 108 := ⟨zC_46, zC_47⟩
theorem pC_48 : iRows 48 108 := ⟨zC_48, zC_49⟩
theorem pC_51 : iRings 51 := ⟨zC_51, zC_52, zC_53⟩
theorem pC_54 : iRings 54 := ⟨zC_54, zC_55, zC_56⟩
theorem pC_57 : iRings 57 := ⟨zC_57, zC_58, zC_59⟩
theorem pC_78 : iLaw 78 := ⟨zC_78, ⟨zC_79, zC_80⟩, zC_81, zC_82, zC_83, zC_84⟩
theorem pC_79 : iRows 79 48 := ⟨zC_79, zC_80⟩
theorem pC_89 : iBook 89 := ⟨zC_89, zC_90, ⟨zC_91, ⟨zC_92, zC_93⟩, zC_94, zC_95, zC_96⟩, ⟨zC_97, ⟨zC_98, zC_99⟩, zC_100, zC_101, zC_102⟩, ⟨zC_103, zC_104, zC_105⟩, zC_106, ⟨zC_107, zC_108⟩, ⟨zC_109, zC_110⟩, ⟨zC_111, zC_112⟩, ⟨zC_113, zC_114⟩, ⟨zC_115, zC_116⟩, ⟨zC_117, zC_118⟩, ⟨zC_119, zC_120⟩, ⟨zC_121, zC_122⟩, ⟨zC_123, ⟨zC_124, zC_125⟩, zC_126, zC_127, zC_128, zC_129⟩⟩
theorem pC_91 : iBoat 91 := ⟨zC_91, ⟨zC_92, zC_93⟩, zC_94, zC_95, zC_96⟩
theorem pC_92 : iRows 92 18 := ⟨zC_92, zC_93⟩
theorem pC_97 : iBoat 97 := ⟨zC_97, ⟨zC_98, zC_99⟩, zC_100, zC_101, zC_102⟩
theorem pC_98 : iRows 98 18 := ⟨zC_98, zC_99⟩
theorem pC_103 : iWater 103 := ⟨zC_103, zC_104, zC_105⟩
theorem pC_107 : iRows 107 72 := ⟨zC_107, zC_108⟩
theorem pC_109 : iRows 109 36 := ⟨zC_109, zC_110⟩
theorem pC_111 : iRows 111 40 := ⟨zC_111, zC_112⟩
theorem pC_113 : iRows 113 30 := ⟨zC_113, zC_114⟩
theorem pC_115 : iRows 115 32 := ⟨zC_115, zC_116⟩
theorem pC_117 : iRows 117 16 := ⟨zC_117, zC_118⟩
theorem pC_119 : iRows 119 6 := ⟨zC_119, zC_120⟩
theorem pC_121 : iRows 121 12 := ⟨zC_121, zC_122⟩
theorem pC_123 : iLaw 123 := ⟨zC_123, ⟨zC_124, zC_125⟩, zC_126, zC_127, zC_128, zC_129⟩
theorem pC_124 : iRows 124 48 := ⟨zC_124, zC_125⟩
theorem pC_130 : iBook 130 := ⟨zC_130, zC_131, ⟨zC_132, ⟨zC_133, zC_134⟩, zC_135, zC_136, zC_137⟩, ⟨zC_138, ⟨zC_139, zC_140⟩, zC_141, zC_142, zC_143⟩, ⟨zC_144, zC_145, zC_146⟩, zC_147, ⟨zC_148, zC_149⟩, ⟨zC_150, zC_151⟩, ⟨zC_152, zC_153⟩, ⟨zC_154, zC_155⟩, ⟨zC_156, zC_157⟩, ⟨zC_158, zC_159⟩, ⟨zC_160, zC_161⟩, ⟨zC_162, zC_163⟩, ⟨zC_164, ⟨zC_165, zC_166⟩, zC_167, zC_168, zC_169, zC_170⟩⟩
theorem pC_132 : iBoat 132 := ⟨zC_132, ⟨zC_133, zC_134⟩, zC_135, zC_136, zC_137⟩
theorem pC_133 : iRows 133 18 := ⟨zC_133, zC_134⟩
theorem pC_138 : iBoat 138 := ⟨zC_138, ⟨zC_139, zC_140⟩, zC_141, zC_142, zC_143⟩
theorem pC_139 : iRows 139 18 := ⟨zC_139, zC_140⟩
theorem pC_144 : iWater 144 := ⟨zC_144, zC_145, zC_146⟩
theorem pC_148 : iRows 148 72 := ⟨zC_148, zC_149⟩
theorem pC_150 : iRows 150 36 := ⟨zC_150, zC_151⟩
theorem pC_152 : iRows 152 40 := ⟨zC_152, zC_153⟩
theorem pC_154 : iRows 154 30 := ⟨zC_154, zC_155⟩
theorem pC_156 : iRows 156 32 := ⟨zC_156, zC_157⟩
theorem pC_158 : iRows 158 16 := ⟨zC_158, zC_159⟩
theorem pC_160 : iRows 160 6 := ⟨zC_160, zC_161⟩
theorem pC_162 : iRows 162 12 := ⟨zC_162, zC_163⟩
theorem pC_164 : iLaw 164 := ⟨zC_164, ⟨zC_165, zC_166⟩, zC_167, zC_168, zC_169, zC_170⟩
theorem pC_165 : iRows 165 48 := ⟨zC_165, zC_166⟩
theorem ck_lt {i : Int32} {n : Nat} (h : ck i n = true) : i.toNatClampNeg < n := Nat.not_le.mp fun q => ck_in h (Or.inr q)
theorem two_of {P : Nat → Prop} {i : Int32} (h : ck i 2 = true) (h0 : P 0) (h1 : P 1) : P i.toNatClampNeg := by
  have := ck_lt h
  rcases (by omega : i.toNatClampNeg = 0 ∨ i.toNatClampNeg = 1) with e | e <;> rw [e] <;> assumption
theorem xBoat {i : Int32} (h : ck i 2 = true) : iBoat (3 + 6 * i.toNatClampNeg) := two_of (P := fun j => iBoat (3 + 6 * j)) h pC_3 pC_9
theorem xRowsF {i : Int32} (h : ck i 2 = true) : iRows (46 + 2 * i.toNatClampNeg) 108 := two_of (P := fun j => iRows (46 + 2 * j) 108) h pC_46 pC_48
theorem xRings {i : Int32} (h : ck i 2 = true) : iRings (51 + 3 * i.toNatClampNeg) := two_of (P := fun j => iRings (51 + 3 * j)) h pC_51 pC_54
theorem xBook {i : Int32} (h : ck i 2 = true) : iBook (89 + 41 * i.toNatClampNeg) := two_of (P := fun j => iBook (89 + 41 * j)) h pC_89 pC_130
abbrev nmI {α : Type} (e : Int32) (f : Int32 → α) : α := f e
abbrev nmL {α : Type} (e : Int64) (f : Int64 → α) : α := f e
abbrev nmM {α : Type} (e : qMem) (f : qMem → α) : α := f e
abbrev irm (x y : Int32) : Int32 := x - x / y * y
abbrev lrm (x y : Int64) : Int64 := x - x / y * y
abbrev ushr (x y : Int32) : Int32 := (x.toUInt32 >>> (y.toUInt32 &&& Int32.toUInt32 31)).toInt32
theorem q_cst (x : Int32) {a b : Int32} (h : a = b) : x + a = x + b := by rw [h]
theorem nb_ok {x : Int32} (h : x = 0 ∨ x = 1) : narrow .boolean (.int x) = .int x := by rcases h with rfl | rfl <;> rfl
theorem sw_ne {x c : Int32} (h : ¬ x = c) : ¬ x.toInt = c.toInt := fun e => h (Int32.toInt_inj.mp e)
theorem swout_2 {x : Int32} (h0 : ¬ x = 0) (h1 : ¬ x = 1) : x.toInt < 0 ∨ 1 < x.toInt := by
  have a0 : ¬ x.toInt = 0 := sw_ne h0
  have a1 : ¬ x.toInt = 1 := sw_ne h1
  omega
theorem swout_3 {x : Int32} (h0 : ¬ x = 0) (h1 : ¬ x = 1) (h2 : ¬ x = 2) : x.toInt < 0 ∨ 2 < x.toInt := by
  have a0 : ¬ x.toInt = 0 := sw_ne h0
  have a1 : ¬ x.toInt = 1 := sw_ne h1
  have a2 : ¬ x.toInt = 2 := sw_ne h2
  omega
theorem swout_7 {x : Int32} (h0 : ¬ x = 0) (h1 : ¬ x = 1) (h2 : ¬ x = 2) (h3 : ¬ x = 3) (h4 : ¬ x = 4) (h5 : ¬ x = 5) (h6 : ¬ x = 6) : x.toInt < 0 ∨ 6 < x.toInt := by
  have a0 : ¬ x.toInt = 0 := sw_ne h0
  have a1 : ¬ x.toInt = 1 := sw_ne h1
  have a2 : ¬ x.toInt = 2 := sw_ne h2
  have a3 : ¬ x.toInt = 3 := sw_ne h3
  have a4 : ¬ x.toInt = 4 := sw_ne h4
  have a5 : ¬ x.toInt = 5 := sw_ne h5
  have a6 : ¬ x.toInt = 6 := sw_ne h6
  omega
theorem swout_17 {x : Int32} (h0 : ¬ x = 0) (h1 : ¬ x = 1) (h2 : ¬ x = 2) (h3 : ¬ x = 3) (h4 : ¬ x = 4) (h5 : ¬ x = 5) (h6 : ¬ x = 6) (h7 : ¬ x = 7) (h8 : ¬ x = 8) (h9 : ¬ x = 9) (h10 : ¬ x = 10) (h11 : ¬ x = 11) (h12 : ¬ x = 12) (h13 : ¬ x = 13) (h14 : ¬ x = 14) (h15 : ¬ x = 15) (h16 : ¬ x = 16) : x.toInt < 0 ∨ 16 < x.toInt := by
  have a0 : ¬ x.toInt = 0 := sw_ne h0
  have a1 : ¬ x.toInt = 1 := sw_ne h1
  have a2 : ¬ x.toInt = 2 := sw_ne h2
  have a3 : ¬ x.toInt = 3 := sw_ne h3
  have a4 : ¬ x.toInt = 4 := sw_ne h4
  have a5 : ¬ x.toInt = 5 := sw_ne h5
  have a6 : ¬ x.toInt = 6 := sw_ne h6
  have a7 : ¬ x.toInt = 7 := sw_ne h7
  have a8 : ¬ x.toInt = 8 := sw_ne h8
  have a9 : ¬ x.toInt = 9 := sw_ne h9
  have a10 : ¬ x.toInt = 10 := sw_ne h10
  have a11 : ¬ x.toInt = 11 := sw_ne h11
  have a12 : ¬ x.toInt = 12 := sw_ne h12
  have a13 : ¬ x.toInt = 13 := sw_ne h13
  have a14 : ¬ x.toInt = 14 := sw_ne h14
  have a15 : ¬ x.toInt = 15 := sw_ne h15
  have a16 : ¬ x.toInt = 16 := sw_ne h16
  omega
theorem swoutL_2_7 {x : Int32} (h2 : ¬ x = 2) (h3 : ¬ x = 3) (h4 : ¬ x = 4) (h5 : ¬ x = 5) (h6 : ¬ x = 6) (h7 : ¬ x = 7) (h8 : ¬ x = 8) : x.toInt < 2 ∨ 8 < x.toInt := by
  have a2 : ¬ x.toInt = 2 := sw_ne h2
  have a3 : ¬ x.toInt = 3 := sw_ne h3
  have a4 : ¬ x.toInt = 4 := sw_ne h4
  have a5 : ¬ x.toInt = 5 := sw_ne h5
  have a6 : ¬ x.toInt = 6 := sw_ne h6
  have a7 : ¬ x.toInt = 7 := sw_ne h7
  have a8 : ¬ x.toInt = 8 := sw_ne h8
  omega

theorem swoutL_2_6 {x : Int32} (h2 : ¬ x = 2) (h3 : ¬ x = 3) (h4 : ¬ x = 4) (h5 : ¬ x = 5) (h6 : ¬ x = 6) (h7 : ¬ x = 7) : x.toInt < 2 ∨ 7 < x.toInt := by
  have a2 : ¬ x.toInt = 2 := sw_ne h2
  have a3 : ¬ x.toInt = 3 := sw_ne h3
  have a4 : ¬ x.toInt = 4 := sw_ne h4
  have a5 : ¬ x.toInt = 5 := sw_ne h5
  have a6 : ¬ x.toInt = 6 := sw_ne h6
  have a7 : ¬ x.toInt = 7 := sw_ne h7
  omega
theorem lsw2 {x : Int32} {o0 o1 d : Int} (h0 : ¬ x = 0) (h1 : ¬ x = 1) : Op.lookupswitch.offset [(0, o0), (1, o1)] d x.toInt = d := by
  rw [Op.lookupswitch.offset_cons, if_neg (fun e => sw_ne h0 e.symm), Op.lookupswitch.offset_cons, if_neg (fun e => sw_ne h1 e.symm), Op.lookupswitch.offset_nil]
section QN
variable {α : Type} {S : qWo} {M : qMt} {ρ : α → Option Value × qMem} {pc : Nat} {L : List (Nat × Value)} {st : List Value} {σ : qMem} {r : Option α}
theorem q_nmI {e : Int32} {f : Int32 → Option α} (k : ∀ x, qAt S M ρ pc L (.int x :: st) σ (f x)) : qAt S M ρ pc L (.int e :: st) σ (nmI e f) := k e
theorem q_nmL {e : Int64} {f : Int64 → Option α} (k : ∀ x, qAt S M ρ pc L (.long x :: st) σ (f x)) : qAt S M ρ pc L (.long e :: st) σ (nmL e f) := k e
theorem q_nmM {τ : qMem} {f : qMem → Option α} (k : ∀ τ, qAt S M ρ pc L st τ (f τ)) : qAt S M ρ pc L st τ (nmM τ f) := k τ
theorem q_gst (j : Nat) {idx : Nat} {nm : String} (hS2 : S.2 = true) (hd : decode M.2.1 pc = .ok (.getstatic idx, 3)) (hl : Cond.fieldLink M.1.cls idx RX11 nm "[I" ∈ gws) (hz : ∀ ad A U, Xc ad A U → va_Z RX11 nm "[I" (.ref (ad j)) A U U.heap) (kk : qAt S M ρ (pc + 3) L (.ref j :: st) σ r) : qAt S M ρ pc L st σ r := by
  intro a ha p l e s m args below meth c D ad dA hF H locs ls hP hS h
  exact va_gets hF.1 hF.2.1 (hz ad _ s (hF.2.2.2.2.2.2.2.2.2.2 hS2)) hS hF.2.2.2.1 (hF.2.2.2.2.1 _ hl) (fun _ h9 => h9) hd (kk a ha p l e s m args below meth c D ad dA hF H locs ls hP hS h)
theorem q_sald (j : Nat) (f : List Int32) {i : Int32} (hS2 : S.2 = true) (hd : decode M.2.1 pc = .ok (.iaload, 1)) (hT : ∀ ad A U, Xc ad A U → va_T .int (ad j) 6 (fun i => .int (f.getD i 0)) A U U.heap) (kk : qAt S M ρ (pc + 1) L (.int (f.getD i.toNatClampNeg 0) :: st) σ r) : qAt S M ρ pc L (.int i :: .ref j :: st) σ (if ck i 6 = true then r else none) := by
  refine q_ck (fun hc => ?_)
  intro a ha p l e s m args below meth c D ad dA hF H locs ls hP hS h
  exact va_ti hF.1 hF.2.1 (hT ad _ s (hF.2.2.2.2.2.2.2.2.2.2 hS2)) hS (ck_in hc) rfl hd (kk a ha p l e s m args below meth c D ad dA hF H locs ls hP hS h)
theorem q_slen (j : Nat) (f : List Int32) (hS2 : S.2 = true) (hd : decode M.2.1 pc = .ok (.arraylength, 1)) (hT : ∀ ad A U, Xc ad A U → va_T .int (ad j) 6 (fun i => .int (f.getD i 0)) A U U.heap) (kk : qAt S M ρ (pc + 1) L (.int 6 :: st) σ r) : qAt S M ρ pc L (.ref j :: st) σ r := by
  intro a ha p l e s m args below meth c D ad dA hF H locs ls hP hS h
  exact va_tlen hF.1 hF.2.1 (hT ad _ s (hF.2.2.2.2.2.2.2.2.2.2 hS2)) hS (v := 6) (by decide) hd (kk a ha p l e s m args below meth c D ad dA hF H locs ls hP hS h)
theorem q_ldcS (i : Nat) {idx : Nat} {tx : String} (hS2 : S.2 = true) (ho : M.1.cls = RX6) (hd : decode M.2.1 pc = .ok (.ldc idx, 2)) (ht : strT[i]? = some (idx, tx)) (kk : qAt S M ρ (pc + 2) L (.ref (1010 + i) :: st) σ r) : qAt S M ρ pc L st σ r := by
  intro a ha p l e s m args below meth c D ad dA hF H locs ls hP hS h
  exact va_ldcS hF.1 hF.2.1 (by rw [← ho]; exact hF.2.2.2.1) ((hF.2.2.2.2.2.2.2.2.2.2 hS2).2.2.2.2.2 i _ ht) hd (kk a ha p l e s m args below meth c D ad dA hF H locs ls hP hS h)
theorem q_lswC {dflt : Int} {ps : Array (Int × Int)} {len : Nat} {x : Int32} {off : Int} {tgt : Nat} {rt rf : Option α} (cc : Int32) (hd : decode M.2.1 pc = .ok (.lookupswitch dflt ps, len)) (hp : (ps.toList.zip (ps.toList.drop 1)).all (fun (a, next) => a.1 < next.1) = true) (ho : Op.lookupswitch.offset ps.toList dflt cc.toInt = off) (ht : (pc : Int) + off = (tgt : Int)) (kt : qAt S M ρ tgt L st σ rt) (kf : ¬ x = cc → qAt S M ρ pc L (.int x :: st) σ rf) : qAt S M ρ pc L (.int x :: st) σ (if x = cc then rt else rf) := by
  by_cases h : x = cc
  · subst h
    rw [if_pos rfl]
    exact q_lsw hd hp ho ht kt
  · rw [if_neg h]; exact kf h
theorem q_aaldC {k n t0 j t : Nat} {C : String} {ts : List Nat} {i : Int32} (hd : decode M.2.1 pc = .ok (.aaload, 1)) (hk : S.1[k]? = some (.inl (.object C, n, ts))) (ht : ∀ dA, (qtys dA)[t0]? = some (dA (.object C), .object C)) (hj : i.toNatClampNeg = j) (hc : ck i n = true) (hts : ts[j]? = some t) (kk : qAt S M ρ (pc + 1) L (.ref t :: st) σ r) : qAt S M ρ pc L (.int i :: .ref k :: st) σ r := by
  intro a ha p l e s m args below meth c D ad dA hF H locs ls hP hS hl
  refine va_aldq (f := fun j => (ts[j]?).map ad) hF.1 hF.2.1 hF.2.2.2.2.2.2.2.1 hP k t0 (cW_at hk) (ht dA) (ck_in hc) hd ?_
  have e1 : va_rf ((ts[i.toNatClampNeg]?).map ad) = .ref (ad t) := by rw [hj, hts]; rfl
  rw [e1]
  exact kk a ha p l e s m args below meth c D ad dA hF H locs ls hP hS hl

theorem q_cVp (M' : qMt) {k ci idx n : Nat} {ks : List (Nat ⊕ Nat)} (as : List Value) {stk : List Value} {r0 : Option Int32} {K : Int32 → Option α} (hd : decode M.2.1 pc = .ok (.invokevirtual idx, 3)) (hs : sV M.1.cls idx M' n) (hR : rR M' M) (hk : S.1[k]? = some (.inr (ci, ks))) (hc : (vwCl[ci]?).map (fun q => q.1) = some M'.1.cls)
    (hst : stk = as.reverse ++ .ref k :: st) (hn : as.length = n) (hw : (st.map fun v => v.category).sum ≤ 8) (hM : qMc S M' (ρp σ) (.ref k :: as) σ r0) (kk : ∀ b, qAt S M ρ (pc + 3) L (.int b :: st) σ (K b)) : qAt S M ρ pc L stk σ (r0.bind K) := q_cV M' as hd hs hR hk hc hst hn hw hM kk
theorem q_cSp (M' : qMt) {idx n : Nat} (as : List Value) {stk : List Value} {r0 : Option Int32} {K : Int32 → Option α} (hd : decode M.2.1 pc = .ok (.invokestatic idx, 3)) (hs : sS M.1.cls idx M' n) (hR : rR M' M)
    (hst : stk = as.reverse ++ st) (hn : as.length = n) (hw : (st.map fun v => v.category).sum ≤ 8) (hM : qMc S M' (ρp σ) as σ r0) (kk : ∀ b, qAt S M ρ (pc + 3) L (.int b :: st) σ (K b)) : qAt S M ρ pc L stk σ (r0.bind K) := q_cS M' as hd hs hR hst hn hw hM kk
theorem q_cVq (M' : qMt) {k ci idx n : Nat} {ks : List (Nat ⊕ Nat)} (as : List Value) {stk : List Value} {r0 : Option Int64} {K : Int64 → Option α} (hd : decode M.2.1 pc = .ok (.invokevirtual idx, 3)) (hs : sV M.1.cls idx M' n) (hR : rR M' M) (hk : S.1[k]? = some (.inr (ci, ks))) (hc : (vwCl[ci]?).map (fun q => q.1) = some M'.1.cls)
    (hst : stk = as.reverse ++ .ref k :: st) (hn : as.length = n) (hw : (st.map fun v => v.category).sum ≤ 8) (hM : qMc S M' (ρq σ) (.ref k :: as) σ r0) (kk : ∀ b, qAt S M ρ (pc + 3) L (.long b :: st) σ (K b)) : qAt S M ρ pc L stk σ (r0.bind K) := q_cV M' as hd hs hR hk hc hst hn hw hM kk
theorem q_cSq (M' : qMt) {idx n : Nat} (as : List Value) {stk : List Value} {r0 : Option Int64} {K : Int64 → Option α} (hd : decode M.2.1 pc = .ok (.invokestatic idx, 3)) (hs : sS M.1.cls idx M' n) (hR : rR M' M)
    (hst : stk = as.reverse ++ st) (hn : as.length = n) (hw : (st.map fun v => v.category).sum ≤ 8) (hM : qMc S M' (ρq σ) as σ r0) (kk : ∀ b, qAt S M ρ (pc + 3) L (.long b :: st) σ (K b)) : qAt S M ρ pc L stk σ (r0.bind K) := q_cS M' as hd hs hR hst hn hw hM kk
theorem q_cVi (M' : qMt) {k ci idx n : Nat} {ks : List (Nat ⊕ Nat)} (as : List Value) {stk : List Value} {r0 : Option (Int32 × qMem)} {K : (Int32 × qMem) → Option α} (hd : decode M.2.1 pc = .ok (.invokevirtual idx, 3)) (hs : sV M.1.cls idx M' n) (hR : rR M' M) (hk : S.1[k]? = some (.inr (ci, ks))) (hc : (vwCl[ci]?).map (fun q => q.1) = some M'.1.cls)
    (hst : stk = as.reverse ++ .ref k :: st) (hn : as.length = n) (hw : (st.map fun v => v.category).sum ≤ 8) (hM : qMc S M' (ρi) (.ref k :: as) σ r0) (kk : ∀ b, qAt S M ρ (pc + 3) L (.int b.1 :: st) b.2 (K b)) : qAt S M ρ pc L stk σ (r0.bind K) := q_cV M' as hd hs hR hk hc hst hn hw hM kk
theorem q_cSi (M' : qMt) {idx n : Nat} (as : List Value) {stk : List Value} {r0 : Option (Int32 × qMem)} {K : (Int32 × qMem) → Option α} (hd : decode M.2.1 pc = .ok (.invokestatic idx, 3)) (hs : sS M.1.cls idx M' n) (hR : rR M' M)
    (hst : stk = as.reverse ++ st) (hn : as.length = n) (hw : (st.map fun v => v.category).sum ≤ 8) (hM : qMc S M' (ρi) as σ r0) (kk : ∀ b, qAt S M ρ (pc + 3) L (.int b.1 :: st) b.2 (K b)) : qAt S M ρ pc L stk σ (r0.bind K) := q_cS M' as hd hs hR hst hn hw hM kk
theorem q_cVl (M' : qMt) {k ci idx n : Nat} {ks : List (Nat ⊕ Nat)} (as : List Value) {stk : List Value} {r0 : Option (Int64 × qMem)} {K : (Int64 × qMem) → Option α} (hd : decode M.2.1 pc = .ok (.invokevirtual idx, 3)) (hs : sV M.1.cls idx M' n) (hR : rR M' M) (hk : S.1[k]? = some (.inr (ci, ks))) (hc : (vwCl[ci]?).map (fun q => q.1) = some M'.1.cls)
    (hst : stk = as.reverse ++ .ref k :: st) (hn : as.length = n) (hw : (st.map fun v => v.category).sum ≤ 8) (hM : qMc S M' (ρl) (.ref k :: as) σ r0) (kk : ∀ b, qAt S M ρ (pc + 3) L (.long b.1 :: st) b.2 (K b)) : qAt S M ρ pc L stk σ (r0.bind K) := q_cV M' as hd hs hR hk hc hst hn hw hM kk
theorem q_cSl (M' : qMt) {idx n : Nat} (as : List Value) {stk : List Value} {r0 : Option (Int64 × qMem)} {K : (Int64 × qMem) → Option α} (hd : decode M.2.1 pc = .ok (.invokestatic idx, 3)) (hs : sS M.1.cls idx M' n) (hR : rR M' M)
    (hst : stk = as.reverse ++ st) (hn : as.length = n) (hw : (st.map fun v => v.category).sum ≤ 8) (hM : qMc S M' (ρl) as σ r0) (kk : ∀ b, qAt S M ρ (pc + 3) L (.long b.1 :: st) b.2 (K b)) : qAt S M ρ pc L stk σ (r0.bind K) := q_cS M' as hd hs hR hst hn hw hM kk
theorem q_cVv (M' : qMt) {k ci idx n : Nat} {ks : List (Nat ⊕ Nat)} (as : List Value) {stk : List Value} {r0 : Option qMem} {K : qMem → Option α} (hd : decode M.2.1 pc = .ok (.invokevirtual idx, 3)) (hs : sV M.1.cls idx M' n) (hR : rR M' M) (hk : S.1[k]? = some (.inr (ci, ks))) (hc : (vwCl[ci]?).map (fun q => q.1) = some M'.1.cls)
    (hst : stk = as.reverse ++ .ref k :: st) (hn : as.length = n) (hw : (st.map fun v => v.category).sum ≤ 8) (hM : qMc S M' (ρv) (.ref k :: as) σ r0) (kk : ∀ b, qAt S M ρ (pc + 3) L (st) b (K b)) : qAt S M ρ pc L stk σ (r0.bind K) := q_cV M' as hd hs hR hk hc hst hn hw hM kk
theorem q_cSv (M' : qMt) {idx n : Nat} (as : List Value) {stk : List Value} {r0 : Option qMem} {K : qMem → Option α} (hd : decode M.2.1 pc = .ok (.invokestatic idx, 3)) (hs : sS M.1.cls idx M' n) (hR : rR M' M)
    (hst : stk = as.reverse ++ st) (hn : as.length = n) (hw : (st.map fun v => v.category).sum ≤ 8) (hM : qMc S M' (ρv) as σ r0) (kk : ∀ b, qAt S M ρ (pc + 3) L (st) b (K b)) : qAt S M ρ pc L stk σ (r0.bind K) := q_cS M' as hd hs hR hst hn hw hM kk
end QN
