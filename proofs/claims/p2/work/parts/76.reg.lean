theorem kt_eI {own : String} {op : ClassFile.Instr} {len : Nat} {v w : Int32} (h : kt_rule own op len (.int v)) (e : v = w) : kt_rule own op len (.int w) := e ▸ h
theorem kt_mk0 {own : String} {idx : Nat} {v : Int32} (h : Cond.constant own idx v ∈ lw_g) : kt_rule own (.ldc idx) 2 (.int v) :=
  fun _ _ _ _ _ _ _ _ _ _ _ _ _ _ _ _ _ _ _ _ _ _ X hd k => lv_ldc X.1 X.2.1 X.2.2.2.1 (X.2.2.2.2.1 _ h) hd k
theorem kt_mk1 {own : String} {idx : Nat} {v : Int32} (h : Cond.constant own idx v ∈ lw_g) : kt_rule own (.ldc_w idx) 3 (.int v) :=
  fun _ _ _ _ _ _ _ _ _ _ _ _ _ _ _ _ _ _ _ _ _ _ X hd k => lv_ldcw X.1 X.2.1 X.2.2.2.1 (X.2.2.2.2.1 _ h) hd k
theorem kt_mk2 {own : String} {idx : Nat} {v : Int64} (h : Cond.constantLong own idx v ∈ lw_g) : kt_rule own (.ldc2_w idx) 3 (.long v) :=
  fun _ _ _ _ _ _ _ _ _ _ _ _ _ _ _ _ _ _ _ _ _ _ X hd k => lv_ldc2 X.1 X.2.1 X.2.2.2.1 (X.2.2.2.2.1 _ h) hd k
theorem kt_e0 {own : String} {idx : Nat} {v w : Int32} (h : Cond.constant own idx v ∈ lw_g) (e : v = w) : kt_rule own (.ldc idx) 2 (.int w) := e ▸ kt_mk0 h
theorem kt_e1 {own : String} {idx : Nat} {v w : Int32} (h : Cond.constant own idx v ∈ lw_g) (e : v = w) : kt_rule own (.ldc_w idx) 3 (.int w) := e ▸ kt_mk1 h
theorem pl_rows : (Jvm.natives.all fun r => r.cls != "java/lang/Math" || ["(D)D", "(DD)D", "(DDD)D", "(F)F", "(FF)F", "(FFF)F"].contains r.desc) = true := by decide +kernel
theorem pl_Math {x : MethodName} (hc : x.cls = "java/lang/Math") (hd : ["(D)D", "(DD)D", "(DDD)D", "(F)F", "(FF)F", "(FFF)F"].contains x.desc = false) : plainFor x = true := by
  unfold plainFor
  rw [Bool.or_eq_true]; right
  rw [Option.isNone_iff_eq_none, NativeRow.find?, List.find?_eq_none]
  intro r hr h
  have := List.all_eq_true.mp pl_rows r hr
  simp only [Bool.and_eq_true, beq_iff_eq] at h
  rw [h.1.2, h.2, hc, hd] at this
  simp at this
def GG_0 : rg_T := (10, 0, 0, (0, 0, 0, []), [(2, 0, 0, [3]), (0, -1, 7, []), (2, 0, 0, [14]), (2, 0, 0, [15]), (2, 0, 0, [16]), (2, 0, 0, [17]), (2, 0, 0, [18]), (0, -2147483648, 2147483647, []), (0, -2147483648, 2147483647, []), (0, 0, 2147483647, []), (2, 0, 0, [19]), (2, 0, 0, [20]), (2, 0, 0, [21]), (2, 0, 0, [22]), (2, 0, 0, [23]), (2, 0, 0, [24]), (2, 0, 0, [25]), (0, -2147483648, 2147483647, []), (0, -2147483648, 2147483647, []), (0, -2147483648, 2147483647, []), (0, -2147483648, 2147483647, [])])
def GG_1 : rg_T := (11, 0, 0, (0, 0, 0, []), [(3, 0, 0, [5, 149]), (2, 0, 0, [149]), (2, 0, 0, [26]), (2, 0, 0, [27]), (2, 0, 0, [28]), (0, 0, 33554431, []), (0, 0, 33554431, []), (0, 0, 50, []), (2, 0, 0, [29]), (2, 0, 0, [30]), (2, 0, 0, [31]), (2, 0, 0, [32]), (2, 0, 0, [33]), (2, 0, 0, [34]), (2, 0, 0, [35]), (0, 0, 27, []), (0, 0, 33554431, []), (0, 0, 33554431, []), (0, 0, 49, []), (2, 0, 0, [36])])
def GG_2 : rg_T := (12, 0, 0, (0, 0, 0, []), [(0, 0, 1, []), (0, 0, 24, []), (0, 0, 48, []), (0, 0, 24, []), (2, 0, 0, [37]), (2, 0, 0, [38]), (2, 0, 0, [39]), (2, 0, 0, [40]), (2, 0, 0, [41]), (2, 0, 0, [42]), (2, 0, 0, [43]), (2, 0, 0, [44]), (2, 0, 0, [45]), (2, 0, 0, [46]), (2, 0, 0, [47])])
def GG_3 : rg_T := (13, 0, 0, (0, 0, 0, []), [(0, 0, 24, []), (0, 0, 48, []), (0, 0, 8, []), (2, 0, 0, [48]), (2, 0, 0, [49]), (2, 0, 0, [50]), (2, 0, 0, [51]), (2, 0, 0, [52]), (2, 0, 0, [53]), (2, 0, 0, [54]), (2, 0, 0, [55]), (2, 0, 0, [56]), (2, 0, 0, [57]), (2, 0, 0, [58]), (2, 0, 0, [59]), (2, 0, 0, [60]), (3, 0, 0, [61]), (0, 0, 30, []), (0, 0, 30, [])])
def GG_4 : rg_T := (14, 0, 0, (0, 0, 0, []), [(2, 0, 0, [10]), (3, 0, 0, [3]), (0, 0, 25, []), (0, 0, 72, []), (2, 0, 0, [62]), (2, 0, 0, [63]), (2, 0, 0, [64]), (2, 0, 0, [65]), (2, 0, 0, [66]), (2, 0, 0, [67]), (2, 0, 0, [68]), (2, 0, 0, [69]), (2, 0, 0, [70]), (2, 0, 0, [71]), (2, 0, 0, [72]), (2, 0, 0, [73]), (2, 0, 0, [74]), (2, 0, 0, [75]), (2, 0, 0, [76]), (2, 0, 0, [77]), (2, 0, 0, [78])])
def GG_5 : rg_T := (15, 0, 0, (0, 0, 0, []), [(0, -1, 1, []), (0, -1, 1, []), (0, -1, 33, []), (0, 0, 48, []), (2, 0, 0, [79]), (0, 0, 24, []), (0, 0, 72, []), (2, 0, 0, [80]), (2, 0, 0, [81]), (2, 0, 0, [82]), (2, 0, 0, [83]), (2, 0, 0, [84]), (2, 0, 0, [85]), (0, 0, 144, []), (2, 0, 0, [86]), (2, 0, 0, [87]), (2, 0, 0, [88])])
def GG_6 : rg_T := (16, 0, 0, (0, 0, 0, []), [(3, 0, 0, [3]), (3, 0, 0, [0]), (2, 0, 0, [89]), (2, 0, 0, [90]), (2, 0, 0, [91]), (2, 0, 0, [92]), (2, 0, 0, [93]), (2, 0, 0, [94]), (0, -2147483648, 2147483647, []), (2, 0, 0, [95]), (2, 0, 0, [96]), (0, 0, 32, []), (2, 0, 0, [97]), (1, -9223372036854775808, 9223372036854775807, []), (1, -9223372036854775808, 9223372036854775807, []), (2, 0, 0, [98]), (2, 0, 0, [99]), (2, 0, 0, [100]), (2, 0, 0, [101])])
def GG_7 : rg_T := (17, 0, 0, (0, 0, 0, []), [(2, 0, 0, [5]), (2, 0, 0, [102]), (2, 0, 0, [103]), (0, 0, 24, []), (2, 0, 0, [104]), (2, 0, 0, [105]), (2, 0, 0, [106]), (2, 0, 0, [107]), (2, 0, 0, [108])])
def GG_8 : rg_T := (18, 0, 0, (0, 0, 0, []), [(2, 0, 0, [109]), (0, 0, 2000, []), (0, -1, 5, []), (0, -1, 2000, []), (2, 0, 0, [3]), (0, 0, 2000, []), (0, 0, 2000, []), (0, -128, 127, []), (0, 0, 2000, []), (0, -2147483648, 1000000, []), (2, 0, 0, [110]), (0, 0, 4, [])])
def GG_9 : rg_T := (19, 0, 0, (0, 0, 0, []), [(3, 0, 0, [3]), (3, 0, 0, [0]), (0, -2147483648, 1000000000, []), (0, -2147483648, 1000000000, []), (0, -2147483648, 2147483647, []), (0, -2147483648, 2147483647, []), (0, 0, 5999, []), (0, 0, 5999, []), (0, -2147483648, 1000000000, []), (2, 0, 0, [111]), (2, 0, 0, [112]), (2, 0, 0, [113]), (2, 0, 0, [114]), (2, 0, 0, [115]), (0, 0, 48004, []), (2, 0, 0, [116]), (2, 0, 0, [117]), (0, 0, 6000, [])])
def GG_10 : rg_T := (20, 0, 0, (0, 0, 0, []), [(0, 0, 72, []), (0, 0, 384, []), (2, 0, 0, [118]), (2, 0, 0, [119]), (2, 0, 0, [120]), (2, 0, 0, [121]), (2, 0, 0, [122]), (2, 0, 0, [123]), (2, 0, 0, [124])])
def GG_11 : rg_T := (21, 0, 0, (0, 0, 0, []), [(0, 0, 112, []), (0, 0, 2, []), (0, -1, 2000, []), (3, 0, 0, [109, 125]), (0, 0, 2000, []), (0, 0, 2000, []), (0, 0, 127, []), (0, 0, 2000, []), (0, -2147483648, 1000000, []), (2, 0, 0, [5004, 5007]), (2, 0, 0, [126]), (0, 0, 2112, []), (2, 0, 0, [127]), (2, 0, 0, [128]), (2, 0, 0, [129]), (0, 0, 80, []), (2, 0, 0, [130])])
def GG_12 : rg_T := (22, 0, 0, (0, 0, 0, []), [(2, 0, 0, [131]), (2, 0, 0, [132]), (2, 0, 0, [133]), (2, 0, 0, [134]), (2, 0, 0, [8]), (2, 0, 0, [1]), (2, 0, 0, [135]), (0, 0, 24, []), (0, -1, 20000, []), (2, 0, 0, [136, 137]), (2, 0, 0, [136, 137]), (0, 0, 4000, []), (0, 0, 100000000, []), (2, 0, 0, [138]), (0, 0, 64, []), (0, 0, 64, []), (3, 0, 0, [11]), (3, 0, 0, [4]), (3, 0, 0, [7]), (3, 0, 0, [6]), (3, 0, 0, [9])])
def GG_13 : rg_T := (9, 0, 0, (0, 0, 0, []), [])
def GG_14 : rg_T := (0, 24, 24, (0, -2147483648, 2147483647, []), [])
def GG_15 : rg_T := (0, 24, 24, (0, -2147483648, 2147483647, []), [])
def GG_16 : rg_T := (0, 48, 48, (0, 0, 24, []), [])
def GG_17 : rg_T := (0, 1152, 1152, (0, -2147483648, 2147483647, []), [])
def GG_18 : rg_T := (0, 1152, 1152, (0, -2147483648, 2147483647, []), [])
def GG_19 : rg_T := (0, 24, 24, (0, 0, 24, []), [])
def GG_20 : rg_T := (2, 48, 48, (0, 0, 1, []), [])
def GG_21 : rg_T := (0, 24, 24, (0, 0, 23, []), [])
def GG_22 : rg_T := (0, 128, 128, (0, -2147483648, 2147483647, []), [])
def GG_23 : rg_T := (0, 216, 216, (0, 0, 255, []), [])
def GG_24 : rg_T := (0, 48, 48, (0, -2147483648, 2147483647, []), [])
def GG_25 : rg_T := (0, 48, 48, (0, -2147483648, 2147483647, []), [])
def GG_26 : rg_T := (0, 72, 72, (0, -1, 71, []), [])
def GG_27 : rg_T := (2, 72, 72, (0, 0, 1, []), [])
def GG_28 : rg_T := (2, 48, 48, (0, 0, 1, []), [])
def GG_29 : rg_T := (0, 1250, 1250, (0, 0, 24, []), [])
def GG_30 : rg_T := (0, 50, 50, (0, 0, 25, []), [])
def GG_31 : rg_T := (0, 50, 50, (0, 0, 33554431, []), [])
def GG_32 : rg_T := (0, 50, 50, (0, 0, 24, []), [])
def GG_33 : rg_T := (0, 144, 144, (0, -1, 71, []), [])
def GG_34 : rg_T := (0, 26, 26, (0, 0, 33554431, []), [])
def GG_35 : rg_T := (0, 27, 27, (0, 0, 24, []), [])
def GG_36 : rg_T := (0, 72, 72, (0, 0, 71, []), [])
def GG_37 : rg_T := (0, 24, 24, (0, -1, 24, []), [])
def GG_38 : rg_T := (0, 48, 48, (0, -1, 47, []), [])
def GG_39 : rg_T := (0, 24, 24, (0, -1, 24, []), [])
def GG_40 : rg_T := (0, 24, 24, (0, 0, 24, []), [])
def GG_41 : rg_T := (0, 24, 24, (0, 0, 127, []), [])
def GG_42 : rg_T := (2, 48, 48, (0, 0, 1, []), [])
def GG_43 : rg_T := (0, 24, 24, (0, 0, 16777215, []), [])
def GG_44 : rg_T := (0, 24, 24, (0, -1, 24, []), [])
def GG_45 : rg_T := (0, 24, 24, (0, -2147483648, 2147483647, []), [])
def GG_46 : rg_T := (0, 24, 24, (0, 0, 23, []), [])
def GG_47 : rg_T := (0, 128, 128, (0, -2147483648, 1000000, []), [])
def GG_48 : rg_T := (1, 192, 192, (0, -128, 127, []), [])
def GG_49 : rg_T := (0, 24, 24, (0, 0, 8, []), [])
def GG_50 : rg_T := (0, 24, 24, (0, 0, 99, []), [])
def GG_51 : rg_T := (0, 24, 24, (0, 0, 7, []), [])
def GG_52 : rg_T := (0, 48, 48, (0, 0, 23, []), [])
def GG_53 : rg_T := (0, 48, 48, (0, 0, 23, []), [])
def GG_54 : rg_T := (0, 48, 48, (0, 0, 9, []), [])
def GG_55 : rg_T := (0, 48, 48, (0, 0, 1, []), [])
def GG_56 : rg_T := (0, 8, 8, (0, -1, 7, []), [])
def GG_57 : rg_T := (1, 64, 64, (0, -128, 127, []), [])
def GG_58 : rg_T := (0, 8, 8, (0, 0, 8, []), [])
def GG_59 : rg_T := (0, 24, 24, (0, 0, 16777215, []), [])
def GG_60 : rg_T := (0, 576, 576, (0, -1, 47, []), [])
def GG_61 : rg_T := (0, 3782, 3782, (0, -2147483648, 2147483647, [2]), pl_L 2)
def GG_62 : rg_T := (0, 72, 72, (0, 0, 24, []), [])
def GG_63 : rg_T := (0, 48, 48, (0, 0, 72, []), [])
def GG_64 : rg_T := (0, 120, 120, (0, 0, 71, []), [])
def GG_65 : rg_T := (0, 120, 120, (0, 0, 71, []), [])
def GG_66 : rg_T := (0, 120, 120, (0, 0, 72, []), [])
def GG_67 : rg_T := (0, 26, 26, (0, 0, 120, []), [])
def GG_68 : rg_T := (0, 26, 26, (0, 0, 72, []), [])
def GG_69 : rg_T := (0, 72, 72, (0, 0, 71, []), [])
def GG_70 : rg_T := (0, 72, 72, (0, 0, 71, []), [])
def GG_71 : rg_T := (0, 72, 72, (0, 0, 71, []), [])
def GG_72 : rg_T := (0, 72, 72, (0, 0, 71, []), [])
def GG_73 : rg_T := (0, 72, 72, (0, -2147483648, 2147483647, []), [])
def GG_74 : rg_T := (0, 72, 72, (0, -2147483648, 2147483647, []), [])
def GG_75 : rg_T := (0, 873, 873, (0, 0, 0, []), [])
def GG_76 : rg_T := (0, 17280, 17280, (0, 0, 0, []), [])
def GG_77 : rg_T := (0, 5040, 5040, (0, 0, 0, []), [])
def GG_78 : rg_T := (0, 36, 36, (0, 0, 0, []), [])
def GG_79 : rg_T := (0, 48, 48, (0, 0, 47, []), [])
def GG_80 : rg_T := (0, 72, 72, (0, 0, 23, []), [])
def GG_81 : rg_T := (0, 72, 72, (0, 0, 23, []), [])
def GG_82 : rg_T := (0, 25, 25, (0, 0, 16777215, []), [])
def GG_83 : rg_T := (0, 625, 625, (0, -1, 71, []), [])
def GG_84 : rg_T := (0, 144, 144, (0, 0, 71, []), [])
def GG_85 : rg_T := (0, 25, 25, (0, -1, 71, []), [])
def GG_86 : rg_T := (0, 145, 145, (0, 0, 144, []), [])
def GG_87 : rg_T := (0, 144, 144, (0, 0, 23, []), [])
def GG_88 : rg_T := (0, 144, 144, (0, -1, 143, []), [])
def GG_89 : rg_T := (0, 24, 24, (0, 0, 23, []), [])
def GG_90 : rg_T := (0, 24, 24, (0, 0, 23, []), [])
def GG_91 : rg_T := (0, 24, 24, (0, -2147483648, 2147483647, []), [])
def GG_92 : rg_T := (0, 24, 24, (0, -1, 23, []), [])
def GG_93 : rg_T := (0, 24, 24, (0, 0, 16777215, []), [])
def GG_94 : rg_T := (0, 24, 24, (0, 0, 23, []), [])
def GG_95 : rg_T := (0, 32, 32, (0, 0, 31, []), [])
def GG_96 : rg_T := (0, 32, 32, (0, -2147483648, 2147483647, []), [])
def GG_97 : rg_T := (0, 4, 4, (0, -2147483648, 2147483647, []), [])
def GG_98 : rg_T := (3, 24, 24, (1, -9223372036854775808, 9223372036854775807, []), [])
def GG_99 : rg_T := (3, 24, 24, (1, -9223372036854775808, 9223372036854775807, []), [])
def GG_100 : rg_T := (3, 24, 24, (1, -9223372036854775808, 9223372036854775807, []), [])
def GG_101 : rg_T := (3, 24, 24, (1, -9223372036854775808, 9223372036854775807, []), [])
def GG_102 : rg_T := (0, 24, 24, (0, 0, 23, []), [])
def GG_103 : rg_T := (0, 24, 24, (0, 0, 23, []), [])
def GG_104 : rg_T := (0, 24, 24, (0, 0, 16777215, []), [])
def GG_105 : rg_T := (0, 26, 26, (0, 0, 16777215, []), [])
def GG_106 : rg_T := (0, 27, 27, (0, 0, 23, []), [])
def GG_107 : rg_T := (0, 144, 144, (0, -2147483648, 2147483647, []), [])
def GG_108 : rg_T := (0, 48, 48, (0, -2147483648, 2147483647, []), [])
def GG_109 : rg_T := (1, 2000, 2000, (0, -128, 127, []), [])
def GG_110 : rg_T := (0, 5, 5, (0, 0, 7, []), [])
def GG_111 : rg_T := (2, 6000, 6000, (0, 0, 1, []), [])
def GG_112 : rg_T := (0, 24000, 24000, (0, -2147483647, 1000000000, []), [])
def GG_113 : rg_T := (0, 4, 4, (0, -1, 48003, []), [])
def GG_114 : rg_T := (0, 48004, 48004, (0, 0, 23999, []), [])
def GG_115 : rg_T := (0, 48004, 48004, (0, -1, 48003, []), [])
def GG_116 : rg_T := (0, 24, 24, (0, -2147483648, 1000005999, []), [])
def GG_117 : rg_T := (0, 24, 24, (0, -2147483648, 1000005999, []), [])
def GG_118 : rg_T := (0, 384, 384, (0, 0, 71, []), [])
def GG_119 : rg_T := (0, 384, 384, (0, 0, 71, []), [])
def GG_120 : rg_T := (0, 384, 384, (0, -2147483648, 2147483647, []), [])
def GG_121 : rg_T := (0, 384, 384, (0, -20, 20, []), [])
def GG_122 : rg_T := (0, 72, 72, (0, -2147483648, 2147483647, []), [])
def GG_123 : rg_T := (0, 72, 72, (0, -1, 383, []), [])
def GG_124 : rg_T := (0, 72, 72, (0, -1, 71, []), [])
def GG_125 : rg_T := (1, 0, 0, (0, 0, 0, []), [])
def GG_126 : rg_T := (0, 2112, 2112, (0, -2147483648, 2147483647, []), [])
def GG_127 : rg_T := (0, 113, 113, (0, 0, 2112, []), [])
def GG_128 : rg_T := (0, 112, 112, (0, -2147483648, 2147483647, []), [])
def GG_129 : rg_T := (3, 80, 80, (1, -9223372036854775808, 9223372036854775807, []), [])
def GG_130 : rg_T := (3, 10, 10, (1, -2147483648, 2147483647, []), [])
def GG_131 : rg_T := (4, 4, 4, (2, 0, 0, [3]), [])
def GG_132 : rg_T := (5, 4, 4, (2, 0, 0, [2]), [])
def GG_133 : rg_T := (6, 4, 4, (2, 0, 0, [5]), [])
def GG_134 : rg_T := (7, 4, 4, (2, 0, 0, [0]), [])
def GG_135 : rg_T := (0, 24, 24, (0, -1, 23, []), [])
def GG_136 : rg_T := (1, 4000, 4000, (0, -128, 127, []), [])
def GG_137 : rg_T := (1, 4000, 4000, (0, -128, 127, []), [])
def GG_138 : rg_T := (0, 4096, 4096, (0, 0, 256, []), [])
def GG_139 : rg_T := (0, 48, 48, (0, 0, 47, []), [])
def GG_140 : rg_T := (0, 72, 72, (0, 0, 24, []), [])
def GG_141 : rg_T := (0, 72, 72, (0, 0, 24, []), [])
def GG_142 : rg_T := (0, 25, 25, (0, 0, 33554431, []), [])
def GG_143 : rg_T := (0, 625, 625, (0, -1, 71, []), [])
def GG_144 : rg_T := (0, 144, 144, (0, 0, 71, []), [])
def GG_145 : rg_T := (0, 25, 25, (0, -1, 71, []), [])
def GG_146 : rg_T := (0, 145, 145, (0, 0, 144, []), [])
def GG_147 : rg_T := (0, 144, 144, (0, 0, 24, []), [])
def GG_148 : rg_T := (0, 144, 144, (0, -1, 143, []), [])
def GG_149 : rg_T := (15, 0, 0, (0, 0, 0, []), [(0, -1, 0, []), (0, -1, 0, []), (0, -1, 0, []), (0, 0, 48, []), (2, 0, 0, [139]), (0, 0, 25, []), (0, 0, 72, []), (2, 0, 0, [140]), (2, 0, 0, [141]), (2, 0, 0, [142]), (2, 0, 0, [143]), (2, 0, 0, [144]), (2, 0, 0, [145]), (0, 0, 144, []), (2, 0, 0, [146]), (2, 0, 0, [147]), (2, 0, 0, [148])])
def GG_150 : rg_T := (23, 0, 0, (0, 0, 0, []), [(0, 0, 2000, []), (2, 0, 0, [151]), (2, 0, 0, [152]), (2, 0, 0, [153]), (2, 0, 0, [154]), (5, 0, 66297, [539]), (2, 0, 0, [155]), (0, 0, 1, []), (0, 0, 5, []), (0, 0, 2000, []), (0, 0, 2000, []), (0, 0, 2000, []), (0, 0, 4, []), (0, 0, 2000, []), (0, -2147483648, 2147483647, []), (0, 0, 2000, []), (2, 0, 0, [156]), (2, 0, 0, [157]), (2, 0, 0, [158]), (2, 0, 0, [159]), (2, 0, 0, [160]), (2, 0, 0, [161]), (2, 0, 0, [162]), (2, 0, 0, [163]), (2, 0, 0, [164]), (0, 0, 1, []), (0, 0, 24, []), (0, 0, 20000, []), (5, 0, 66297, [539]), (5, 0, 66297, [539]), (0, 0, 1, []), (0, 0, 25, []), (0, 0, 80, []), (2, 0, 0, [165]), (2, 0, 0, [166]), (2, 0, 0, [167]), (2, 0, 0, [168]), (2, 0, 0, [169]), (2, 0, 0, [170]), (0, 0, 120, []), (2, 0, 0, [171]), (2, 0, 0, [172]), (2, 0, 0, [173]), (2, 0, 0, [174]), (2, 0, 0, [175]), (0, 0, 30, []), (2, 0, 0, [176]), (0, 0, 0, []), (2, 0, 0, [177]), (0, -1, 79, []), (2, 0, 0, [178]), (2, 0, 0, [179]), (2, 0, 0, [180]), (0, 0, 160, []), (2, 0, 0, [181]), (2, 0, 0, [182]), (2, 0, 0, [183]), (2, 0, 0, [184]), (0, 0, 80, []), (0, 0, 33, []), (2, 0, 0, [185]), (2, 0, 0, [186]), (2, 0, 0, [187]), (2, 0, 0, [188]), (2, 0, 0, [189]), (2, 0, 0, [190]), (2, 0, 0, [191]), (2, 0, 0, [192]), (2, 0, 0, [193]), (2, 0, 0, [194]), (2, 0, 0, [195]), (2, 0, 0, [196]), (2, 0, 0, [197]), (2, 0, 0, [198]), (2, 0, 0, [199]), (2, 0, 0, [200]), (2, 0, 0, [201]), (2, 0, 0, [202]), (2, 0, 0, [203]), (0, 0, 76, []), (0, 0, 200, []), (0, 0, 200, []), (2, 0, 0, [204]), (2, 0, 0, [205]), (2, 0, 0, [206]), (2, 0, 0, [207]), (2, 0, 0, [208]), (2, 0, 0, [209]), (2, 0, 0, [210]), (2, 0, 0, [211]), (2, 0, 0, [212]), (2, 0, 0, [213]), (2, 0, 0, [214]), (2, 0, 0, [215]), (0, -2147483648, 2147483647, []), (2, 0, 0, [216]), (2, 0, 0, [217]), (2, 0, 0, [218]), (2, 0, 0, [219]), (0, 0, 26, []), (0, 0, 76, []), (0, 0, 76, []), (2, 0, 0, [220]), (2, 0, 0, [221]), (2, 0, 0, [222]), (2, 0, 0, [223]), (2, 0, 0, [224]), (0, 0, 130, []), (2, 0, 0, [225]), (2, 0, 0, [226]), (2, 0, 0, [227]), (2, 0, 0, [228]), (2, 0, 0, [229]), (2, 0, 0, [230]), (2, 0, 0, [231]), (2, 0, 0, [232]), (2, 0, 0, [233]), (2, 0, 0, [234]), (2, 0, 0, [235]), (2, 0, 0, [236]), (2, 0, 0, [237]), (0, 0, 30, []), (2, 0, 0, [238]), (2, 0, 0, [239]), (2, 0, 0, [240]), (0, 0, 100, []), (2, 0, 0, [241]), (2, 0, 0, [242]), (2, 0, 0, [243]), (2, 0, 0, [244]), (2, 0, 0, [245]), (2, 0, 0, [246]), (0, 0, 40, []), (1, -9223372036854775808, 9223372036854775807, []), (1, -9223372036854775808, 9223372036854775807, []), (2, 0, 0, [247]), (2, 0, 0, [248]), (2, 0, 0, [249]), (2, 0, 0, [250]), (0, 0, 3, []), (2, 0, 0, [251]), (2, 0, 0, [252]), (2, 0, 0, [253]), (2, 0, 0, [254]), (0, -2147483648, 2000000, []), (0, -2147483648, 2000000, []), (0, -2147483648, 2147483647, []), (0, -2147483648, 2147483647, []), (2, 0, 0, [255]), (2, 0, 0, [256]), (0, 0, 48, []), (2, 0, 0, [257]), (2, 0, 0, [258]), (0, -2147483648, 2147483647, []), (0, -2147483648, 2147483647, []), (0, -2147483648, 2147483647, []), (0, -2147483648, 2147483647, []), (0, 0, 2010, []), (0, 0, 2009, []), (0, 0, 13, []), (2, 0, 0, [259]), (2, 0, 0, [260]), (2, 0, 0, [261]), (2, 0, 0, [262]), (0, 0, 1, []), (0, -1, 47, []), (2, 0, 0, [263]), (2, 0, 0, [264]), (2, 0, 0, [265]), (0, 0, 4000, []), (0, 0, 100000000, []), (2, 0, 0, [266]), (2, 0, 0, [267]), (0, 0, 64, []), (0, 0, 64, []), (2, 0, 0, [268])])
def GG_151 : rg_T := (1, 2000, 2000, (0, -128, 127, []), [])
def GG_152 : rg_T := (0, 66836, 66836, (0, -1, 255, [1]), pl_L 1)
def GG_153 : rg_T := (0, 4, 4, (0, 0, 30, []), [])
def GG_154 : rg_T := (0, 4, 4, (0, 0, 30, []), [])
def GG_155 : rg_T := (0, 539, 539, (0, -1, 255, [1]), pl_L 1)
def GG_156 : rg_T := (0, 25, 25, (0, -1, 24, []), [])
def GG_157 : rg_T := (0, 80, 80, (0, -1, 79, []), [])
def GG_158 : rg_T := (0, 24, 24, (0, -1, 23, []), [])
def GG_159 : rg_T := (0, 25, 25, (0, 0, 1000000, []), [])
def GG_160 : rg_T := (0, 100, 100, (0, -1000000, 1000000, []), [])
def GG_161 : rg_T := (2, 576, 576, (0, 0, 1, []), [])
def GG_162 : rg_T := (2, 25, 25, (0, 0, 1, []), [])
def GG_163 : rg_T := (0, 24, 24, (0, -1, 23, []), [])
def GG_164 : rg_T := (0, 24, 24, (0, -1, 23, []), [])
def GG_165 : rg_T := (0, 80, 80, (0, 0, 24, []), [])
def GG_166 : rg_T := (0, 80, 80, (0, 0, 24, []), [])
def GG_167 : rg_T := (2, 80, 80, (0, 0, 1, []), [])
def GG_168 : rg_T := (0, 26, 26, (0, 0, 80, []), [])
def GG_169 : rg_T := (0, 2080, 2080, (0, 0, 79, []), [])
def GG_170 : rg_T := (2, 26, 26, (0, 0, 1, []), [])
def GG_171 : rg_T := (0, 120, 120, (0, 0, 60, []), [])
def GG_172 : rg_T := (0, 7200, 7200, (0, 0, 24, []), [])
def GG_173 : rg_T := (2, 26, 26, (0, 0, 1, []), [])
def GG_174 : rg_T := (2, 80, 80, (0, 0, 1, []), [])
def GG_175 : rg_T := (0, 80, 80, (0, -1, 79, []), [])
def GG_176 : rg_T := (0, 30, 30, (0, 0, 24, []), [])
def GG_177 : rg_T := (0, 26, 26, (0, -2147483648, 2147483647, []), [])
def GG_178 : rg_T := (0, 80, 80, (0, 0, 33554431, []), [])
def GG_179 : rg_T := (0, 120, 120, (0, 0, 33554431, []), [])
def GG_180 : rg_T := (0, 30, 30, (0, 0, 24, []), [])
def GG_181 : rg_T := (0, 160, 160, (0, -1, 159, []), [])
def GG_182 : rg_T := (0, 160, 160, (0, 0, 0, []), [])
def GG_183 : rg_T := (0, 161, 161, (0, 0, 160, []), [])
def GG_184 : rg_T := (0, 160, 160, (0, 0, 159, []), [])
def GG_185 : rg_T := (0, 80, 80, (0, 0, 79, []), [])
def GG_186 : rg_T := (0, 4, 4, (0, -1, 7, []), [])
def GG_187 : rg_T := (0, 96, 96, (0, -2147483648, 2147483647, []), [])
def GG_188 : rg_T := (0, 96, 96, (0, -2147483648, 2147483647, []), [])
def GG_189 : rg_T := (0, 192, 192, (0, 0, 24, []), [])
def GG_190 : rg_T := (0, 4608, 4608, (0, -2147483648, 2147483647, []), [])
def GG_191 : rg_T := (0, 4608, 4608, (0, -2147483648, 2147483647, []), [])
def GG_192 : rg_T := (0, 4, 4, (0, -2147483648, 2147483647, []), [])
def GG_193 : rg_T := (0, 4, 4, (0, -2147483648, 2147483647, []), [])
def GG_194 : rg_T := (0, 96, 96, (0, 0, 75, []), [])
def GG_195 : rg_T := (0, 192, 192, (0, 0, 1, []), [])
def GG_196 : rg_T := (0, 384, 384, (0, -2147483648, 2147483647, []), [])
def GG_197 : rg_T := (0, 128, 128, (0, -2147483648, 2147483647, []), [])
def GG_198 : rg_T := (0, 864, 864, (0, 0, 255, []), [])
def GG_199 : rg_T := (0, 100, 100, (0, -2147483648, 2147483647, []), [])
def GG_200 : rg_T := (0, 100, 100, (0, -2147483648, 2147483647, []), [])
def GG_201 : rg_T := (0, 48, 48, (0, 0, 24, []), [])
def GG_202 : rg_T := (0, 1152, 1152, (0, -2147483648, 2147483647, []), [])
def GG_203 : rg_T := (0, 1152, 1152, (0, -2147483648, 2147483647, []), [])
def GG_204 : rg_T := (0, 76, 76, (0, -2147483648, 2147483647, []), [])
def GG_205 : rg_T := (0, 200, 200, (0, 0, 75, []), [])
def GG_206 : rg_T := (0, 200, 200, (0, 0, 75, []), [])
def GG_207 : rg_T := (0, 200, 200, (0, 0, 72, []), [])
def GG_208 : rg_T := (2, 200, 200, (0, 0, 1, []), [])
def GG_209 : rg_T := (0, 200, 200, (0, 0, 75, []), [])
def GG_210 : rg_T := (0, 200, 200, (0, 0, 75, []), [])
def GG_211 : rg_T := (0, 200, 200, (0, 0, 20, []), [])
def GG_212 : rg_T := (0, 6084, 6084, (0, -2147483648, 2147483647, []), [])
def GG_213 : rg_T := (0, 78, 78, (0, -1, 77, []), [])
def GG_214 : rg_T := (0, 100, 100, (0, 0, 77, []), [])
def GG_215 : rg_T := (0, 78, 78, (0, -2147483648, 2147483647, []), [])
def GG_216 : rg_T := (2, 48, 48, (0, 0, 1, []), [])
def GG_217 : rg_T := (0, 26, 26, (0, 0, 25, []), [])
def GG_218 : rg_T := (0, 26, 26, (0, 0, 25, []), [])
def GG_219 : rg_T := (0, 26, 26, (0, 0, 25, []), [])
def GG_220 : rg_T := (0, 76, 76, (0, 0, 75, []), [])
def GG_221 : rg_T := (0, 76, 76, (0, 0, 47, []), [])
def GG_222 : rg_T := (0, 48, 48, (0, 0, 76, []), [])
def GG_223 : rg_T := (0, 76, 76, (0, 0, 76, []), [])
def GG_224 : rg_T := (0, 5776, 5776, (0, 0, 75, []), [])
def GG_225 : rg_T := (0, 130, 130, (0, 0, 75, []), [])
def GG_226 : rg_T := (0, 130, 130, (0, 0, 75, []), [])
def GG_227 : rg_T := (0, 8, 8, (0, 0, 5500, []), [])
def GG_228 : rg_T := (0, 8, 8, (0, 0, 720, []), [])
def GG_229 : rg_T := (1, 6000, 6000, (0, 0, 5, []), [])
def GG_230 : rg_T := (0, 54720, 54720, (0, -2147483648, 1000000, []), [])
def GG_231 : rg_T := (0, 36, 36, (0, -2147483648, 2147483647, []), [])
def GG_232 : rg_T := (0, 76, 76, (0, 0, 75, []), [])
def GG_233 : rg_T := (0, 6, 6, (0, 0, 5, []), [])
def GG_234 : rg_T := (0, 100, 100, (0, 0, 75, []), [])
def GG_235 : rg_T := (0, 5776, 5776, (0, 0, 75, []), [])
def GG_236 : rg_T := (3, 76, 76, (1, -9223372036854775808, 9223372036854775807, []), [])
def GG_237 : rg_T := (3, 76, 76, (1, -9223372036854775808, 9223372036854775807, []), [])
def GG_238 : rg_T := (0, 30, 30, (0, 0, 24, []), [])
def GG_239 : rg_T := (0, 26, 26, (0, 0, 33554431, []), [])
def GG_240 : rg_T := (0, 26, 26, (0, 0, 25, []), [])
def GG_241 : rg_T := (0, 26, 26, (0, 0, 25, []), [])
def GG_242 : rg_T := (0, 26, 26, (0, -1, 23, []), [])
def GG_243 : rg_T := (0, 26, 26, (0, -23, 24, []), [])
def GG_244 : rg_T := (0, 26, 26, (0, -1, 23, []), [])
def GG_245 : rg_T := (0, 40, 40, (0, 0, 131, []), [])
def GG_246 : rg_T := (0, 40, 40, (0, -2147483648, 2147483647, []), [])
def GG_247 : rg_T := (3, 26, 26, (1, -9223372036854775808, 9223372036854775807, []), [])
def GG_248 : rg_T := (3, 26, 26, (1, -9223372036854775808, 9223372036854775807, []), [])
def GG_249 : rg_T := (3, 26, 26, (1, -9223372036854775808, 9223372036854775807, []), [])
def GG_250 : rg_T := (3, 26, 26, (1, -9223372036854775808, 9223372036854775807, []), [])
def GG_251 : rg_T := (0, 24000, 24000, (0, 0, 1000000, []), [])
def GG_252 : rg_T := (0, 96040, 96040, (0, 0, 23999, []), [])
def GG_253 : rg_T := (0, 4, 4, (0, 0, 24009, []), [])
def GG_254 : rg_T := (2, 6000, 6000, (0, 0, 1, []), [])
def GG_255 : rg_T := (0, 26, 26, (0, -2147483648, 2147483647, []), [])
def GG_256 : rg_T := (0, 26, 26, (0, -2147483648, 2147483647, []), [])
def GG_257 : rg_T := (0, 48, 48, (0, -2147483648, 2147483647, []), [])
def GG_258 : rg_T := (0, 48, 48, (0, -2147483648, 2147483647, []), [])
def GG_259 : rg_T := (0, 2010, 2010, (0, 0, 4, []), [])
def GG_260 : rg_T := (3, 2010, 2010, (1, -9223372036854775808, 9223372036854775807, []), [])
def GG_261 : rg_T := (0, 2010, 2010, (0, 0, 2000, []), [])
def GG_262 : rg_T := (0, 2010, 2010, (0, 0, 2000, []), [])
def GG_263 : rg_T := (0, 26, 26, (0, -2147483648, 2147483647, []), [])
def GG_264 : rg_T := (0, 26, 26, (0, 0, 48, []), [])
def GG_265 : rg_T := (2, 48, 48, (0, 0, 1, []), [])
def GG_266 : rg_T := (1, 4000, 4000, (0, -128, 127, []), [])
def GG_267 : rg_T := (1, 4000, 4000, (0, -128, 127, []), [])
def GG_268 : rg_T := (0, 4096, 4096, (0, 0, 256, []), [])
def GG_269 : rg_T := (0, 24, 24, (0, -1, 23, []), [])
def GG_270 : rg_T := (1, 3, 3, (0, 0, 110, []), [])
def GG_271 : rg_T := (1, 3, 3, (0, 0, 110, []), [])
def GG_272 : rg_T := (0, 6, 6, (0, 0, 0, []), [])
def GG : List rg_T := [GG_0, GG_1, GG_2, GG_3, GG_4, GG_5, GG_6, GG_7, GG_8, GG_9, GG_10, GG_11, GG_12, GG_13, GG_14, GG_15, GG_16, GG_17, GG_18, GG_19, GG_20, GG_21, GG_22, GG_23, GG_24, GG_25, GG_26, GG_27, GG_28, GG_29, GG_30, GG_31, GG_32, GG_33, GG_34, GG_35, GG_36, GG_37, GG_38, GG_39, GG_40, GG_41, GG_42, GG_43, GG_44, GG_45, GG_46, GG_47, GG_48, GG_49, GG_50, GG_51, GG_52, GG_53, GG_54, GG_55, GG_56, GG_57, GG_58, GG_59, GG_60, GG_61, GG_62, GG_63, GG_64, GG_65, GG_66, GG_67, GG_68, GG_69, GG_70, GG_71, GG_72, GG_73, GG_74, GG_75, GG_76, GG_77, GG_78, GG_79, GG_80, GG_81, GG_82, GG_83, GG_84, GG_85, GG_86, GG_87, GG_88, GG_89, GG_90, GG_91, GG_92, GG_93, GG_94, GG_95, GG_96, GG_97, GG_98, GG_99, GG_100, GG_101, GG_102, GG_103, GG_104, GG_105, GG_106, GG_107, GG_108, GG_109, GG_110, GG_111, GG_112, GG_113, GG_114, GG_115, GG_116, GG_117, GG_118, GG_119, GG_120, GG_121, GG_122, GG_123, GG_124, GG_125, GG_126, GG_127, GG_128, GG_129, GG_130, GG_131, GG_132, GG_133, GG_134, GG_135, GG_136, GG_137, GG_138, GG_139, GG_140, GG_141, GG_142, GG_143, GG_144, GG_145, GG_146, GG_147, GG_148, GG_149, GG_150, GG_151, GG_152, GG_153, GG_154, GG_155, GG_156, GG_157, GG_158, GG_159, GG_160, GG_161, GG_162, GG_163, GG_164, GG_165, GG_166, GG_167, GG_168, GG_169, GG_170, GG_171, GG_172, GG_173, GG_174, GG_175, GG_176, GG_177, GG_178, GG_179, GG_180, GG_181, GG_182, GG_183, GG_184, GG_185, GG_186, GG_187, GG_188, GG_189, GG_190, GG_191, GG_192, GG_193, GG_194, GG_195, GG_196, GG_197, GG_198, GG_199, GG_200, GG_201, GG_202, GG_203, GG_204, GG_205, GG_206, GG_207, GG_208, GG_209, GG_210, GG_211, GG_212, GG_213, GG_214, GG_215, GG_216, GG_217, GG_218, GG_219, GG_220, GG_221, GG_222, GG_223, GG_224, GG_225, GG_226, GG_227, GG_228, GG_229, GG_230, GG_231, GG_232, GG_233, GG_234, GG_235, GG_236, GG_237, GG_238, GG_239, GG_240, GG_241, GG_242, GG_243, GG_244, GG_245, GG_246, GG_247, GG_248, GG_249, GG_250, GG_251, GG_252, GG_253, GG_254, GG_255, GG_256, GG_257, GG_258, GG_259, GG_260, GG_261, GG_262, GG_263, GG_264, GG_265, GG_266, GG_267, GG_268, GG_269, GG_270, GG_271, GG_272]
theorem GG_pl : pl_good GG := pl_gd_ok (by decide +kernel)
theorem kx_Dr_0_104 : kt_rule R_Dr (kt_op 0 104).1 (kt_op 0 104).2 (.int (Int32.ofInt (-1000000))) ∧ ∀ ta, tv_ok ta (0, -1000000, -1000000, []) (.int (Int32.ofInt (-1000000))) := ⟨kt_e0 (w := Int32.ofInt (-1000000)) wm_1850 (by decide), fun _ => Or.inl ⟨rfl, _, rfl, by decide, by decide⟩⟩
theorem kx_Dr_0_105 : kt_rule R_Dr (kt_op 0 105).1 (kt_op 0 105).2 (.int (1000000)) ∧ ∀ ta, tv_ok ta (0, 1000000, 1000000, []) (.int (1000000)) := ⟨kt_e0 (w := 1000000) wm_1851 (by decide), fun _ => Or.inl ⟨rfl, _, rfl, by decide, by decide⟩⟩
theorem kx_Dr_0_84 : kt_rule R_Dr (kt_op 0 84).1 (kt_op 0 84).2 (.int (Int32.ofInt (-2147483648))) ∧ ∀ ta, tv_ok ta (0, -2147483648, -2147483648, []) (.int (Int32.ofInt (-2147483648))) := ⟨kt_e0 (w := Int32.ofInt (-2147483648)) wm_1821 (by decide), fun _ => Or.inl ⟨rfl, _, rfl, by decide, by decide⟩⟩
theorem gf_Dr_106 : gf_rule R_Dr 106 3 7 := gf_mk (ci := 3) rfl i_Gr (by decide) wm_103 rfl
theorem gf_Dr_109 : gf_rule R_Dr 109 3 8 := gf_mk (ci := 3) rfl i_Gr (by decide) wm_114 rfl
theorem gf_Dr_121 : gf_rule R_Dr 121 3 9 := gf_mk (ci := 3) rfl i_Gr (by decide) wm_121 rfl
theorem gf_Dr_141 : gf_rule R_Dr 141 3 0 := gf_mk (ci := 3) rfl i_Gr (by decide) wm_66 rfl
theorem pf_Dr_141 : pf_rule R_Dr 141 3 0 (.int) := pf_mk (ci := 3) (k := 0) rfl i_Gr t_Gr t_Gr_ok n_Gr (by decide) wm_66 rfl rfl
theorem gf_Dr_15 : gf_rule R_Dr 15 0 2 := gf_mk (ci := 0) rfl i_Dr (by decide) wm_469 rfl
theorem gf_Dr_151 : gf_rule R_Dr 151 3 1 := gf_mk (ci := 3) rfl i_Gr (by decide) wm_77 rfl
theorem pf_Dr_151 : pf_rule R_Dr 151 3 1 (.int) := pf_mk (ci := 3) (k := 1) rfl i_Gr t_Gr t_Gr_ok n_Gr (by decide) wm_77 rfl rfl
theorem gf_Dr_19 : gf_rule R_Dr 19 0 3 := gf_mk (ci := 0) rfl i_Dr (by decide) wm_476 rfl
theorem gf_Dr_217 : gf_rule R_Dr 217 3 14 := gf_mk (ci := 3) rfl i_Gr (by decide) wm_146 rfl
theorem gf_Dr_22 : gf_rule R_Dr 22 0 4 := gf_mk (ci := 0) rfl i_Dr (by decide) wm_483 rfl
theorem gf_Dr_25 : gf_rule R_Dr 25 0 5 := gf_mk (ci := 0) rfl i_Dr (by decide) wm_486 rfl
theorem gf_Dr_28 : gf_rule R_Dr 28 0 6 := gf_mk (ci := 0) rfl i_Dr (by decide) wm_487 rfl
theorem gf_Dr_31 : gf_rule R_Dr 31 0 7 := gf_mk (ci := 0) rfl i_Dr (by decide) wm_488 rfl
theorem pf_Dr_31 : pf_rule R_Dr 31 0 7 (.int) := pf_mk (ci := 0) (k := 7) rfl i_Dr t_Dr t_Dr_ok n_Dr (by decide) wm_488 rfl rfl
theorem gf_Dr_34 : gf_rule R_Dr 34 0 8 := gf_mk (ci := 0) rfl i_Dr (by decide) wm_491 rfl
theorem pf_Dr_34 : pf_rule R_Dr 34 0 8 (.int) := pf_mk (ci := 0) (k := 8) rfl i_Dr t_Dr t_Dr_ok n_Dr (by decide) wm_491 rfl rfl
theorem gf_Dr_37 : gf_rule R_Dr 37 0 9 := gf_mk (ci := 0) rfl i_Dr (by decide) wm_493 rfl
theorem pf_Dr_37 : pf_rule R_Dr 37 0 9 (.int) := pf_mk (ci := 0) (k := 9) rfl i_Dr t_Dr t_Dr_ok n_Dr (by decide) wm_493 rfl rfl
theorem gf_Dr_40 : gf_rule R_Dr 40 0 10 := gf_mk (ci := 0) rfl i_Dr (by decide) wm_495 rfl
theorem gf_Dr_43 : gf_rule R_Dr 43 0 11 := gf_mk (ci := 0) rfl i_Dr (by decide) wm_497 rfl
theorem gf_Dr_47 : gf_rule R_Dr 47 0 12 := gf_mk (ci := 0) rfl i_Dr (by decide) wm_499 rfl
theorem gf_Dr_50 : gf_rule R_Dr 50 0 13 := gf_mk (ci := 0) rfl i_Dr (by decide) wm_501 rfl
theorem gf_Dr_53 : gf_rule R_Dr 53 0 14 := gf_mk (ci := 0) rfl i_Dr (by decide) wm_503 rfl
theorem gf_Dr_56 : gf_rule R_Dr 56 0 15 := gf_mk (ci := 0) rfl i_Dr (by decide) wm_506 rfl
theorem gf_Dr_59 : gf_rule R_Dr 59 0 16 := gf_mk (ci := 0) rfl i_Dr (by decide) wm_507 rfl
theorem gf_Dr_62 : gf_rule R_Dr 62 0 17 := gf_mk (ci := 0) rfl i_Dr (by decide) wm_508 rfl
theorem pf_Dr_62 : pf_rule R_Dr 62 0 17 (.int) := pf_mk (ci := 0) (k := 17) rfl i_Dr t_Dr t_Dr_ok n_Dr (by decide) wm_508 rfl rfl
theorem gf_Dr_65 : gf_rule R_Dr 65 0 18 := gf_mk (ci := 0) rfl i_Dr (by decide) wm_509 rfl
theorem pf_Dr_65 : pf_rule R_Dr 65 0 18 (.int) := pf_mk (ci := 0) (k := 18) rfl i_Dr t_Dr t_Dr_ok n_Dr (by decide) wm_509 rfl rfl
theorem gf_Dr_68 : gf_rule R_Dr 68 0 19 := gf_mk (ci := 0) rfl i_Dr (by decide) wm_510 rfl
theorem pf_Dr_68 : pf_rule R_Dr 68 0 19 (.int) := pf_mk (ci := 0) (k := 19) rfl i_Dr t_Dr t_Dr_ok n_Dr (by decide) wm_510 rfl rfl
theorem gf_Dr_71 : gf_rule R_Dr 71 0 20 := gf_mk (ci := 0) rfl i_Dr (by decide) wm_511 rfl
theorem pf_Dr_71 : pf_rule R_Dr 71 0 20 (.int) := pf_mk (ci := 0) (k := 20) rfl i_Dr t_Dr t_Dr_ok n_Dr (by decide) wm_511 rfl rfl
theorem gf_Dr_74 : gf_rule R_Dr 74 0 0 := gf_mk (ci := 0) rfl i_Dr (by decide) wm_465 rfl
theorem gf_Dr_9 : gf_rule R_Dr 9 0 1 := gf_mk (ci := 0) rfl i_Dr (by decide) wm_466 rfl
theorem pf_Dr_9 : pf_rule R_Dr 9 0 1 (.int) := pf_mk (ci := 0) (k := 1) rfl i_Dr t_Dr t_Dr_ok n_Dr (by decide) wm_466 rfl rfl
theorem kx_Em_0_179 : kt_rule R_Em (kt_op 0 179).1 (kt_op 0 179).2 (.int (1000000)) ∧ ∀ ta, tv_ok ta (0, 1000000, 1000000, []) (.int (1000000)) := ⟨kt_e0 (w := 1000000) wm_1094 (by decide), fun _ => Or.inl ⟨rfl, _, rfl, by decide, by decide⟩⟩
theorem gf_Em_105 : gf_rule R_Em 105 5 4 := gf_mk (ci := 5) rfl i_Ne (by decide) wm_260 rfl
theorem gf_Em_108 : gf_rule R_Em 108 5 3 := gf_mk (ci := 5) rfl i_Ne (by decide) wm_257 rfl
theorem pf_Em_108 : pf_rule R_Em 108 5 3 (.int) := pf_mk (ci := 5) (k := 3) rfl i_Ne t_Ne t_Ne_ok n_Ne (by decide) wm_257 rfl rfl
theorem gf_Em_111 : gf_rule R_Em 111 5 2 := gf_mk (ci := 5) rfl i_Ne (by decide) wm_254 rfl
theorem pf_Em_111 : pf_rule R_Em 111 5 2 (.int) := pf_mk (ci := 5) (k := 2) rfl i_Ne t_Ne t_Ne_ok n_Ne (by decide) wm_254 rfl rfl
theorem gf_Em_114 : gf_rule R_Em 114 5 9 := gf_mk (ci := 5) rfl i_Ne (by decide) wm_274 rfl
theorem gf_Em_127 : gf_rule R_Em 127 3 7 := gf_mk (ci := 3) rfl i_Gr (by decide) wm_100 rfl
theorem gf_Em_130 : gf_rule R_Em 130 3 8 := gf_mk (ci := 3) rfl i_Gr (by decide) wm_111 rfl
theorem gf_Em_133 : gf_rule R_Em 133 5 6 := gf_mk (ci := 5) rfl i_Ne (by decide) wm_266 rfl
theorem pf_Em_133 : pf_rule R_Em 133 5 6 (.int) := pf_mk (ci := 5) (k := 6) rfl i_Ne t_Ne t_Ne_ok n_Ne (by decide) wm_266 rfl rfl
theorem gf_Em_134 : gf_rule R_Em 134 5 7 := gf_mk (ci := 5) rfl i_Ne (by decide) wm_268 rfl
theorem gf_Em_135 : gf_rule R_Em 135 5 8 := gf_mk (ci := 5) rfl i_Ne (by decide) wm_271 rfl
theorem gf_Em_18 : gf_rule R_Em 18 1 1 := gf_mk (ci := 1) rfl i_Em (by decide) wm_327 rfl
theorem gf_Em_21 : gf_rule R_Em 21 1 2 := gf_mk (ci := 1) rfl i_Em (by decide) wm_328 rfl
theorem gf_Em_223 : gf_rule R_Em 223 5 12 := gf_mk (ci := 5) rfl i_Ne (by decide) wm_281 rfl
theorem gf_Em_226 : gf_rule R_Em 226 5 11 := gf_mk (ci := 5) rfl i_Ne (by decide) wm_279 rfl
theorem gf_Em_25 : gf_rule R_Em 25 1 3 := gf_mk (ci := 1) rfl i_Em (by decide) wm_329 rfl
theorem gf_Em_29 : gf_rule R_Em 29 1 4 := gf_mk (ci := 1) rfl i_Em (by decide) wm_330 rfl
theorem gf_Em_32 : gf_rule R_Em 32 1 5 := gf_mk (ci := 1) rfl i_Em (by decide) wm_331 rfl
theorem pf_Em_32 : pf_rule R_Em 32 1 5 (.int) := pf_mk (ci := 1) (k := 5) rfl i_Em t_Em t_Em_ok n_Em (by decide) wm_331 rfl rfl
theorem gf_Em_36 : gf_rule R_Em 36 1 6 := gf_mk (ci := 1) rfl i_Em (by decide) wm_332 rfl
theorem pf_Em_36 : pf_rule R_Em 36 1 6 (.int) := pf_mk (ci := 1) (k := 6) rfl i_Em t_Em t_Em_ok n_Em (by decide) wm_332 rfl rfl
theorem gf_Em_39 : gf_rule R_Em 39 1 7 := gf_mk (ci := 1) rfl i_Em (by decide) wm_333 rfl
theorem pf_Em_39 : pf_rule R_Em 39 1 7 (.int) := pf_mk (ci := 1) (k := 7) rfl i_Em t_Em t_Em_ok n_Em (by decide) wm_333 rfl rfl
theorem gf_Em_42 : gf_rule R_Em 42 1 8 := gf_mk (ci := 1) rfl i_Em (by decide) wm_334 rfl
theorem gf_Em_45 : gf_rule R_Em 45 1 9 := gf_mk (ci := 1) rfl i_Em (by decide) wm_335 rfl
theorem gf_Em_48 : gf_rule R_Em 48 1 10 := gf_mk (ci := 1) rfl i_Em (by decide) wm_336 rfl
theorem gf_Em_51 : gf_rule R_Em 51 1 11 := gf_mk (ci := 1) rfl i_Em (by decide) wm_337 rfl
theorem gf_Em_54 : gf_rule R_Em 54 1 12 := gf_mk (ci := 1) rfl i_Em (by decide) wm_338 rfl
theorem gf_Em_57 : gf_rule R_Em 57 1 13 := gf_mk (ci := 1) rfl i_Em (by decide) wm_339 rfl
theorem gf_Em_60 : gf_rule R_Em 60 1 14 := gf_mk (ci := 1) rfl i_Em (by decide) wm_340 rfl
theorem gf_Em_63 : gf_rule R_Em 63 1 15 := gf_mk (ci := 1) rfl i_Em (by decide) wm_341 rfl
theorem pf_Em_63 : pf_rule R_Em 63 1 15 (.int) := pf_mk (ci := 1) (k := 15) rfl i_Em t_Em t_Em_ok n_Em (by decide) wm_341 rfl rfl
theorem gf_Em_66 : gf_rule R_Em 66 1 16 := gf_mk (ci := 1) rfl i_Em (by decide) wm_342 rfl
theorem pf_Em_66 : pf_rule R_Em 66 1 16 (.int) := pf_mk (ci := 1) (k := 16) rfl i_Em t_Em t_Em_ok n_Em (by decide) wm_342 rfl rfl
theorem gf_Em_69 : gf_rule R_Em 69 1 17 := gf_mk (ci := 1) rfl i_Em (by decide) wm_343 rfl
theorem pf_Em_69 : pf_rule R_Em 69 1 17 (.int) := pf_mk (ci := 1) (k := 17) rfl i_Em t_Em t_Em_ok n_Em (by decide) wm_343 rfl rfl
theorem gf_Em_72 : gf_rule R_Em 72 1 18 := gf_mk (ci := 1) rfl i_Em (by decide) wm_344 rfl
theorem pf_Em_72 : pf_rule R_Em 72 1 18 (.int) := pf_mk (ci := 1) (k := 18) rfl i_Em t_Em t_Em_ok n_Em (by decide) wm_344 rfl rfl
theorem gf_Em_75 : gf_rule R_Em 75 1 19 := gf_mk (ci := 1) rfl i_Em (by decide) wm_345 rfl
theorem gf_Em_78 : gf_rule R_Em 78 5 1 := gf_mk (ci := 5) rfl i_Ne (by decide) wm_252 rfl
theorem pf_Em_78 : pf_rule R_Em 78 5 1 (.int) := pf_mk (ci := 5) (k := 1) rfl i_Ne t_Ne t_Ne_ok n_Ne (by decide) wm_252 rfl rfl
theorem gf_Em_85 : gf_rule R_Em 85 5 5 := gf_mk (ci := 5) rfl i_Ne (by decide) wm_263 rfl
theorem pf_Em_85 : pf_rule R_Em 85 5 5 (.int) := pf_mk (ci := 5) (k := 5) rfl i_Ne t_Ne t_Ne_ok n_Ne (by decide) wm_263 rfl rfl
theorem gf_Em_88 : gf_rule R_Em 88 3 0 := gf_mk (ci := 3) rfl i_Gr (by decide) wm_60 rfl
theorem pf_Em_88 : pf_rule R_Em 88 3 0 (.int) := pf_mk (ci := 3) (k := 0) rfl i_Gr t_Gr t_Gr_ok n_Gr (by decide) wm_60 rfl rfl
theorem gf_Em_9 : gf_rule R_Em 9 1 0 := gf_mk (ci := 1) rfl i_Em (by decide) wm_326 rfl
theorem pf_Em_9 : pf_rule R_Em 9 1 0 (.object "DrawingHouse$Net") := pf_mk (ci := 1) (k := 0) rfl i_Em t_Em t_Em_ok n_Em (by decide) wm_326 rfl rfl
theorem gf_Em_99 : gf_rule R_Em 99 3 1 := gf_mk (ci := 3) rfl i_Gr (by decide) wm_71 rfl
theorem pf_Em_99 : pf_rule R_Em 99 3 1 (.int) := pf_mk (ci := 3) (k := 1) rfl i_Gr t_Gr t_Gr_ok n_Gr (by decide) wm_71 rfl rfl
theorem kx_Fa_0_172 : kt_rule R_Fa (kt_op 0 172).1 (kt_op 0 172).2 (.int (1000000)) ∧ ∀ ta, tv_ok ta (0, 1000000, 1000000, []) (.int (1000000)) := ⟨kt_e0 (w := 1000000) wm_905 (by decide), fun _ => Or.inl ⟨rfl, _, rfl, by decide, by decide⟩⟩
theorem kx_Fa_0_190 : kt_rule R_Fa (kt_op 0 190).1 (kt_op 0 190).2 (.int (Int32.ofInt (-1000000))) ∧ ∀ ta, tv_ok ta (0, -1000000, -1000000, []) (.int (Int32.ofInt (-1000000))) := ⟨kt_e0 (w := Int32.ofInt (-1000000)) wm_900 (by decide), fun _ => Or.inl ⟨rfl, _, rfl, by decide, by decide⟩⟩
theorem gf_Fa_145 : gf_rule R_Fa 145 3 10 := gf_mk (ci := 3) rfl i_Gr (by decide) wm_128 rfl
theorem gf_Fa_15 : gf_rule R_Fa 15 2 1 := gf_mk (ci := 2) rfl i_Fa (by decide) wm_396 rfl
theorem pf_Fa_15 : pf_rule R_Fa 15 2 1 (.int) := pf_mk (ci := 2) (k := 1) rfl i_Fa t_Fa t_Fa_ok n_Fa (by decide) wm_396 rfl rfl
theorem gf_Fa_169 : gf_rule R_Fa 169 3 9 := gf_mk (ci := 3) rfl i_Gr (by decide) wm_123 rfl
theorem gf_Fa_19 : gf_rule R_Fa 19 2 2 := gf_mk (ci := 2) rfl i_Fa (by decide) wm_400 rfl
theorem pf_Fa_19 : pf_rule R_Fa 19 2 2 (.int) := pf_mk (ci := 2) (k := 2) rfl i_Fa t_Fa t_Fa_ok n_Fa (by decide) wm_400 rfl rfl
theorem gf_Fa_22 : gf_rule R_Fa 22 2 3 := gf_mk (ci := 2) rfl i_Fa (by decide) wm_403 rfl
theorem pf_Fa_22 : pf_rule R_Fa 22 2 3 (.int) := pf_mk (ci := 2) (k := 3) rfl i_Fa t_Fa t_Fa_ok n_Fa (by decide) wm_403 rfl rfl
theorem gf_Fa_25 : gf_rule R_Fa 25 2 4 := gf_mk (ci := 2) rfl i_Fa (by decide) wm_405 rfl
theorem gf_Fa_29 : gf_rule R_Fa 29 2 5 := gf_mk (ci := 2) rfl i_Fa (by decide) wm_409 rfl
theorem gf_Fa_32 : gf_rule R_Fa 32 2 6 := gf_mk (ci := 2) rfl i_Fa (by decide) wm_412 rfl
theorem gf_Fa_35 : gf_rule R_Fa 35 2 7 := gf_mk (ci := 2) rfl i_Fa (by decide) wm_414 rfl
theorem gf_Fa_38 : gf_rule R_Fa 38 2 8 := gf_mk (ci := 2) rfl i_Fa (by decide) wm_417 rfl
theorem gf_Fa_41 : gf_rule R_Fa 41 2 9 := gf_mk (ci := 2) rfl i_Fa (by decide) wm_420 rfl
theorem gf_Fa_45 : gf_rule R_Fa 45 2 10 := gf_mk (ci := 2) rfl i_Fa (by decide) wm_423 rfl
theorem gf_Fa_48 : gf_rule R_Fa 48 2 11 := gf_mk (ci := 2) rfl i_Fa (by decide) wm_424 rfl
theorem gf_Fa_51 : gf_rule R_Fa 51 2 12 := gf_mk (ci := 2) rfl i_Fa (by decide) wm_425 rfl
theorem gf_Fa_54 : gf_rule R_Fa 54 2 13 := gf_mk (ci := 2) rfl i_Fa (by decide) wm_426 rfl
theorem gf_Fa_57 : gf_rule R_Fa 57 2 14 := gf_mk (ci := 2) rfl i_Fa (by decide) wm_427 rfl
theorem gf_Fa_64 : gf_rule R_Fa 64 3 0 := gf_mk (ci := 3) rfl i_Gr (by decide) wm_57 rfl
theorem pf_Fa_64 : pf_rule R_Fa 64 3 0 (.int) := pf_mk (ci := 3) (k := 0) rfl i_Gr t_Gr t_Gr_ok n_Gr (by decide) wm_57 rfl rfl
theorem gf_Fa_69 : gf_rule R_Fa 69 3 1 := gf_mk (ci := 3) rfl i_Gr (by decide) wm_69 rfl
theorem pf_Fa_69 : pf_rule R_Fa 69 3 1 (.int) := pf_mk (ci := 3) (k := 1) rfl i_Gr t_Gr t_Gr_ok n_Gr (by decide) wm_69 rfl rfl
theorem gf_Fa_72 : gf_rule R_Fa 72 3 7 := gf_mk (ci := 3) rfl i_Gr (by decide) wm_97 rfl
theorem gf_Fa_75 : gf_rule R_Fa 75 3 8 := gf_mk (ci := 3) rfl i_Gr (by decide) wm_108 rfl
theorem gf_Fa_78 : gf_rule R_Fa 78 3 14 := gf_mk (ci := 3) rfl i_Gr (by decide) wm_141 rfl
theorem gf_Fa_9 : gf_rule R_Fa 9 2 0 := gf_mk (ci := 2) rfl i_Fa (by decide) wm_394 rfl
theorem pf_Fa_9 : pf_rule R_Fa 9 2 0 (.boolean) := pf_mk (ci := 2) (k := 0) rfl i_Fa t_Fa t_Fa_ok n_Fa (by decide) wm_394 rfl rfl
theorem gf_Gr_15 : gf_rule R_Gr 15 3 1 := gf_mk (ci := 3) rfl i_Gr (by decide) wm_68 rfl
theorem pf_Gr_15 : pf_rule R_Gr 15 3 1 (.int) := pf_mk (ci := 3) (k := 1) rfl i_Gr t_Gr t_Gr_ok n_Gr (by decide) wm_68 rfl rfl
theorem gf_Gr_18 : gf_rule R_Gr 18 3 2 := gf_mk (ci := 3) rfl i_Gr (by decide) wm_79 rfl
theorem pf_Gr_18 : pf_rule R_Gr 18 3 2 (.int) := pf_mk (ci := 3) (k := 2) rfl i_Gr t_Gr t_Gr_ok n_Gr (by decide) wm_79 rfl rfl
theorem gf_Gr_21 : gf_rule R_Gr 21 3 3 := gf_mk (ci := 3) rfl i_Gr (by decide) wm_83 rfl
theorem gf_Gr_25 : gf_rule R_Gr 25 3 4 := gf_mk (ci := 3) rfl i_Gr (by decide) wm_85 rfl
theorem gf_Gr_29 : gf_rule R_Gr 29 3 5 := gf_mk (ci := 3) rfl i_Gr (by decide) wm_87 rfl
theorem gf_Gr_32 : gf_rule R_Gr 32 3 6 := gf_mk (ci := 3) rfl i_Gr (by decide) wm_92 rfl
theorem gf_Gr_35 : gf_rule R_Gr 35 3 7 := gf_mk (ci := 3) rfl i_Gr (by decide) wm_96 rfl
theorem gf_Gr_38 : gf_rule R_Gr 38 3 8 := gf_mk (ci := 3) rfl i_Gr (by decide) wm_107 rfl
theorem gf_Gr_41 : gf_rule R_Gr 41 3 9 := gf_mk (ci := 3) rfl i_Gr (by decide) wm_118 rfl
theorem gf_Gr_44 : gf_rule R_Gr 44 3 10 := gf_mk (ci := 3) rfl i_Gr (by decide) wm_126 rfl
theorem gf_Gr_47 : gf_rule R_Gr 47 3 11 := gf_mk (ci := 3) rfl i_Gr (by decide) wm_130 rfl
theorem gf_Gr_50 : gf_rule R_Gr 50 3 12 := gf_mk (ci := 3) rfl i_Gr (by decide) wm_134 rfl
theorem gf_Gr_53 : gf_rule R_Gr 53 3 13 := gf_mk (ci := 3) rfl i_Gr (by decide) wm_137 rfl
theorem gf_Gr_56 : gf_rule R_Gr 56 3 14 := gf_mk (ci := 3) rfl i_Gr (by decide) wm_140 rfl
theorem gf_Gr_59 : gf_rule R_Gr 59 3 15 := gf_mk (ci := 3) rfl i_Gr (by decide) wm_147 rfl
theorem gf_Gr_62 : gf_rule R_Gr 62 3 16 := gf_mk (ci := 3) rfl i_Gr (by decide) wm_148 rfl
theorem pf_Gr_62 : pf_rule R_Gr 62 3 16 (.array .int) := pf_mk (ci := 3) (k := 16) rfl i_Gr t_Gr t_Gr_ok n_Gr (by decide) wm_148 rfl rfl
theorem gf_Gr_65 : gf_rule R_Gr 65 3 17 := gf_mk (ci := 3) rfl i_Gr (by decide) wm_149 rfl
theorem pf_Gr_65 : pf_rule R_Gr 65 3 17 (.int) := pf_mk (ci := 3) (k := 17) rfl i_Gr t_Gr t_Gr_ok n_Gr (by decide) wm_149 rfl rfl
theorem gf_Gr_68 : gf_rule R_Gr 68 3 18 := gf_mk (ci := 3) rfl i_Gr (by decide) wm_151 rfl
theorem pf_Gr_68 : pf_rule R_Gr 68 3 18 (.int) := pf_mk (ci := 3) (k := 18) rfl i_Gr t_Gr t_Gr_ok n_Gr (by decide) wm_151 rfl rfl
theorem gf_Gr_9 : gf_rule R_Gr 9 3 0 := gf_mk (ci := 3) rfl i_Gr (by decide) wm_56 rfl
theorem pf_Gr_9 : pf_rule R_Gr 9 3 0 (.int) := pf_mk (ci := 3) (k := 0) rfl i_Gr t_Gr t_Gr_ok n_Gr (by decide) wm_56 rfl rfl
theorem gf_La_12 : gf_rule R_La 12 4 0 := gf_mk (ci := 4) rfl i_La (by decide) wm_1242 rfl
theorem gf_La_125 : gf_rule R_La 125 2 9 := gf_mk (ci := 2) rfl i_Fa (by decide) wm_421 rfl
theorem gf_La_131 : gf_rule R_La 131 3 8 := gf_mk (ci := 3) rfl i_Gr (by decide) wm_112 rfl
theorem gf_La_136 : gf_rule R_La 136 3 7 := gf_mk (ci := 3) rfl i_Gr (by decide) wm_101 rfl
theorem gf_La_139 : gf_rule R_La 139 3 0 := gf_mk (ci := 3) rfl i_Gr (by decide) wm_64 rfl
theorem pf_La_139 : pf_rule R_La 139 3 0 (.int) := pf_mk (ci := 3) (k := 0) rfl i_Gr t_Gr t_Gr_ok n_Gr (by decide) wm_64 rfl rfl
theorem gf_La_146 : gf_rule R_La 146 3 1 := gf_mk (ci := 3) rfl i_Gr (by decide) wm_74 rfl
theorem pf_La_146 : pf_rule R_La 146 3 1 (.int) := pf_mk (ci := 3) (k := 1) rfl i_Gr t_Gr t_Gr_ok n_Gr (by decide) wm_74 rfl rfl
theorem gf_La_156 : gf_rule R_La 156 3 9 := gf_mk (ci := 3) rfl i_Gr (by decide) wm_120 rfl
theorem gf_La_169 : gf_rule R_La 169 10 6 := gf_mk (ci := 10) rfl i_St (by decide) wm_1205 rfl
theorem gf_La_18 : gf_rule R_La 18 4 1 := gf_mk (ci := 4) rfl i_La (by decide) wm_1243 rfl
theorem pf_La_18 : pf_rule R_La 18 4 1 (.object "DrawingHouse$Graph") := pf_mk (ci := 4) (k := 1) rfl i_La t_La t_La_ok n_La (by decide) wm_1243 rfl rfl
theorem gf_La_22 : gf_rule R_La 22 4 2 := gf_mk (ci := 4) rfl i_La (by decide) wm_1244 rfl
theorem pf_La_22 : pf_rule R_La 22 4 2 (.int) := pf_mk (ci := 4) (k := 2) rfl i_La t_La t_La_ok n_La (by decide) wm_1244 rfl rfl
theorem gf_La_253 : gf_rule R_La 253 0 7 := gf_mk (ci := 0) rfl i_Dr (by decide) wm_490 rfl
theorem pf_La_253 : pf_rule R_La 253 0 7 (.int) := pf_mk (ci := 0) (k := 7) rfl i_Dr t_Dr t_Dr_ok n_Dr (by decide) wm_490 rfl rfl
theorem gf_La_256 : gf_rule R_La 256 0 8 := gf_mk (ci := 0) rfl i_Dr (by decide) wm_492 rfl
theorem pf_La_256 : pf_rule R_La 256 0 8 (.int) := pf_mk (ci := 0) (k := 8) rfl i_Dr t_Dr t_Dr_ok n_Dr (by decide) wm_492 rfl rfl
theorem gf_La_259 : gf_rule R_La 259 0 2 := gf_mk (ci := 0) rfl i_Dr (by decide) wm_475 rfl
theorem gf_La_26 : gf_rule R_La 26 4 3 := gf_mk (ci := 4) rfl i_La (by decide) wm_1245 rfl
theorem pf_La_26 : pf_rule R_La 26 4 3 (.int) := pf_mk (ci := 4) (k := 3) rfl i_La t_La t_La_ok n_La (by decide) wm_1245 rfl rfl
theorem gf_La_262 : gf_rule R_La 262 0 3 := gf_mk (ci := 0) rfl i_Dr (by decide) wm_482 rfl
theorem gf_La_265 : gf_rule R_La 265 0 10 := gf_mk (ci := 0) rfl i_Dr (by decide) wm_496 rfl
theorem gf_La_268 : gf_rule R_La 268 0 11 := gf_mk (ci := 0) rfl i_Dr (by decide) wm_498 rfl
theorem gf_La_29 : gf_rule R_La 29 4 4 := gf_mk (ci := 4) rfl i_La (by decide) wm_1246 rfl
theorem gf_La_33 : gf_rule R_La 33 4 5 := gf_mk (ci := 4) rfl i_La (by decide) wm_1247 rfl
theorem gf_La_36 : gf_rule R_La 36 4 6 := gf_mk (ci := 4) rfl i_La (by decide) wm_1248 rfl
theorem gf_La_39 : gf_rule R_La 39 4 7 := gf_mk (ci := 4) rfl i_La (by decide) wm_1249 rfl
theorem gf_La_42 : gf_rule R_La 42 4 8 := gf_mk (ci := 4) rfl i_La (by decide) wm_1250 rfl
theorem gf_La_45 : gf_rule R_La 45 4 9 := gf_mk (ci := 4) rfl i_La (by decide) wm_1251 rfl
theorem gf_La_48 : gf_rule R_La 48 4 10 := gf_mk (ci := 4) rfl i_La (by decide) wm_1252 rfl
theorem gf_La_51 : gf_rule R_La 51 4 11 := gf_mk (ci := 4) rfl i_La (by decide) wm_1253 rfl
theorem gf_La_54 : gf_rule R_La 54 4 12 := gf_mk (ci := 4) rfl i_La (by decide) wm_1254 rfl
theorem gf_La_57 : gf_rule R_La 57 4 13 := gf_mk (ci := 4) rfl i_La (by decide) wm_1255 rfl
theorem gf_La_60 : gf_rule R_La 60 4 14 := gf_mk (ci := 4) rfl i_La (by decide) wm_1256 rfl
theorem gf_La_63 : gf_rule R_La 63 4 15 := gf_mk (ci := 4) rfl i_La (by decide) wm_1257 rfl
theorem gf_La_66 : gf_rule R_La 66 4 16 := gf_mk (ci := 4) rfl i_La (by decide) wm_1258 rfl
theorem gf_La_69 : gf_rule R_La 69 4 17 := gf_mk (ci := 4) rfl i_La (by decide) wm_1259 rfl
theorem gf_La_72 : gf_rule R_La 72 4 18 := gf_mk (ci := 4) rfl i_La (by decide) wm_1260 rfl
theorem gf_La_75 : gf_rule R_La 75 4 19 := gf_mk (ci := 4) rfl i_La (by decide) wm_1261 rfl
theorem gf_La_78 : gf_rule R_La 78 4 20 := gf_mk (ci := 4) rfl i_La (by decide) wm_1262 rfl
theorem gf_Ne_15 : gf_rule R_Ne 15 5 1 := gf_mk (ci := 5) rfl i_Ne (by decide) wm_251 rfl
theorem pf_Ne_15 : pf_rule R_Ne 15 5 1 (.int) := pf_mk (ci := 5) (k := 1) rfl i_Ne t_Ne t_Ne_ok n_Ne (by decide) wm_251 rfl rfl
theorem gf_Ne_18 : gf_rule R_Ne 18 5 2 := gf_mk (ci := 5) rfl i_Ne (by decide) wm_253 rfl
theorem pf_Ne_18 : pf_rule R_Ne 18 5 2 (.int) := pf_mk (ci := 5) (k := 2) rfl i_Ne t_Ne t_Ne_ok n_Ne (by decide) wm_253 rfl rfl
theorem gf_Ne_21 : gf_rule R_Ne 21 5 3 := gf_mk (ci := 5) rfl i_Ne (by decide) wm_256 rfl
theorem pf_Ne_21 : pf_rule R_Ne 21 5 3 (.int) := pf_mk (ci := 5) (k := 3) rfl i_Ne t_Ne t_Ne_ok n_Ne (by decide) wm_256 rfl rfl
theorem gf_Ne_24 : gf_rule R_Ne 24 5 4 := gf_mk (ci := 5) rfl i_Ne (by decide) wm_259 rfl
theorem gf_Ne_28 : gf_rule R_Ne 28 5 5 := gf_mk (ci := 5) rfl i_Ne (by decide) wm_262 rfl
theorem pf_Ne_28 : pf_rule R_Ne 28 5 5 (.int) := pf_mk (ci := 5) (k := 5) rfl i_Ne t_Ne t_Ne_ok n_Ne (by decide) wm_262 rfl rfl
theorem gf_Ne_31 : gf_rule R_Ne 31 5 6 := gf_mk (ci := 5) rfl i_Ne (by decide) wm_265 rfl
theorem pf_Ne_31 : pf_rule R_Ne 31 5 6 (.int) := pf_mk (ci := 5) (k := 6) rfl i_Ne t_Ne t_Ne_ok n_Ne (by decide) wm_265 rfl rfl
theorem gf_Ne_34 : gf_rule R_Ne 34 5 7 := gf_mk (ci := 5) rfl i_Ne (by decide) wm_267 rfl
theorem gf_Ne_37 : gf_rule R_Ne 37 5 8 := gf_mk (ci := 5) rfl i_Ne (by decide) wm_270 rfl
theorem gf_Ne_40 : gf_rule R_Ne 40 5 9 := gf_mk (ci := 5) rfl i_Ne (by decide) wm_273 rfl
theorem gf_Ne_43 : gf_rule R_Ne 43 5 10 := gf_mk (ci := 5) rfl i_Ne (by decide) wm_276 rfl
theorem gf_Ne_46 : gf_rule R_Ne 46 5 11 := gf_mk (ci := 5) rfl i_Ne (by decide) wm_277 rfl
theorem gf_Ne_49 : gf_rule R_Ne 49 5 12 := gf_mk (ci := 5) rfl i_Ne (by decide) wm_280 rfl
theorem gf_Ne_52 : gf_rule R_Ne 52 5 13 := gf_mk (ci := 5) rfl i_Ne (by decide) wm_282 rfl
theorem pf_Ne_52 : pf_rule R_Ne 52 5 13 (.int) := pf_mk (ci := 5) (k := 13) rfl i_Ne t_Ne t_Ne_ok n_Ne (by decide) wm_282 rfl rfl
theorem gf_Ne_55 : gf_rule R_Ne 55 5 14 := gf_mk (ci := 5) rfl i_Ne (by decide) wm_285 rfl
theorem gf_Ne_58 : gf_rule R_Ne 58 5 15 := gf_mk (ci := 5) rfl i_Ne (by decide) wm_287 rfl
theorem gf_Ne_61 : gf_rule R_Ne 61 5 16 := gf_mk (ci := 5) rfl i_Ne (by decide) wm_289 rfl
theorem gf_Ne_70 : gf_rule R_Ne 70 3 0 := gf_mk (ci := 3) rfl i_Gr (by decide) wm_63 rfl
theorem pf_Ne_70 : pf_rule R_Ne 70 3 0 (.int) := pf_mk (ci := 3) (k := 0) rfl i_Gr t_Gr t_Gr_ok n_Gr (by decide) wm_63 rfl rfl
theorem gf_Ne_77 : gf_rule R_Ne 77 3 1 := gf_mk (ci := 3) rfl i_Gr (by decide) wm_72 rfl
theorem pf_Ne_77 : pf_rule R_Ne 77 3 1 (.int) := pf_mk (ci := 3) (k := 1) rfl i_Gr t_Gr t_Gr_ok n_Gr (by decide) wm_72 rfl rfl
theorem gf_Ne_78 : gf_rule R_Ne 78 3 7 := gf_mk (ci := 3) rfl i_Gr (by decide) wm_99 rfl
theorem gf_Ne_79 : gf_rule R_Ne 79 3 8 := gf_mk (ci := 3) rfl i_Gr (by decide) wm_110 rfl
theorem gf_Ne_9 : gf_rule R_Ne 9 5 0 := gf_mk (ci := 5) rfl i_Ne (by decide) wm_248 rfl
theorem pf_Ne_9 : pf_rule R_Ne 9 5 0 (.int) := pf_mk (ci := 5) (k := 0) rfl i_Ne t_Ne t_Ne_ok n_Ne (by decide) wm_248 rfl rfl
theorem kx_Pl_0_144 : kt_rule R_Pl (kt_op 0 144).1 (kt_op 0 144).2 (.int (Int32.ofInt (-1000000))) ∧ ∀ ta, tv_ok ta (0, -1000000, -1000000, []) (.int (Int32.ofInt (-1000000))) := ⟨kt_e0 (w := Int32.ofInt (-1000000)) wm_1708 (by decide), fun _ => Or.inl ⟨rfl, _, rfl, by decide, by decide⟩⟩
theorem kx_Pl_0_149 : kt_rule R_Pl (kt_op 0 149).1 (kt_op 0 149).2 (.int (Int32.ofInt (-2147483648))) ∧ ∀ ta, tv_ok ta (0, -2147483648, -2147483648, []) (.int (Int32.ofInt (-2147483648))) := ⟨kt_e0 (w := Int32.ofInt (-2147483648)) wm_1713 (by decide), fun _ => Or.inl ⟨rfl, _, rfl, by decide, by decide⟩⟩
theorem kx_Pl_0_212 : kt_rule R_Pl (kt_op 0 212).1 (kt_op 0 212).2 (.int (1000000000)) ∧ ∀ ta, tv_ok ta (0, 1000000000, 1000000000, []) (.int (1000000000)) := ⟨kt_e0 (w := 1000000000) wm_1762 (by decide), fun _ => Or.inl ⟨rfl, _, rfl, by decide, by decide⟩⟩
theorem gf_Pl_109 : gf_rule R_Pl 109 2 4 := gf_mk (ci := 2) rfl i_Fa (by decide) wm_406 rfl
theorem gf_Pl_127 : gf_rule R_Pl 127 0 2 := gf_mk (ci := 0) rfl i_Dr (by decide) wm_471 rfl
theorem gf_Pl_135 : gf_rule R_Pl 135 0 3 := gf_mk (ci := 0) rfl i_Dr (by decide) wm_479 rfl
theorem gf_Pl_138 : gf_rule R_Pl 138 3 14 := gf_mk (ci := 3) rfl i_Gr (by decide) wm_142 rfl
theorem gf_Pl_15 : gf_rule R_Pl 15 6 1 := gf_mk (ci := 6) rfl i_Pl (by decide) wm_1626 rfl
theorem pf_Pl_15 : pf_rule R_Pl 15 6 1 (.object "DrawingHouse$Drawing") := pf_mk (ci := 6) (k := 1) rfl i_Pl t_Pl t_Pl_ok n_Pl (by decide) wm_1626 rfl rfl
theorem gf_Pl_153 : gf_rule R_Pl 153 0 13 := gf_mk (ci := 0) rfl i_Dr (by decide) wm_502 rfl
theorem gf_Pl_166 : gf_rule R_Pl 166 3 2 := gf_mk (ci := 3) rfl i_Gr (by decide) wm_81 rfl
theorem pf_Pl_166 : pf_rule R_Pl 166 3 2 (.int) := pf_mk (ci := 3) (k := 2) rfl i_Gr t_Gr t_Gr_ok n_Gr (by decide) wm_81 rfl rfl
theorem gf_Pl_184 : gf_rule R_Pl 184 3 11 := gf_mk (ci := 3) rfl i_Gr (by decide) wm_132 rfl
theorem gf_Pl_19 : gf_rule R_Pl 19 6 2 := gf_mk (ci := 6) rfl i_Pl (by decide) wm_1627 rfl
theorem gf_Pl_191 : gf_rule R_Pl 191 3 6 := gf_mk (ci := 3) rfl i_Gr (by decide) wm_94 rfl
theorem gf_Pl_194 : gf_rule R_Pl 194 3 5 := gf_mk (ci := 3) rfl i_Gr (by decide) wm_89 rfl
theorem gf_Pl_224 : gf_rule R_Pl 224 0 7 := gf_mk (ci := 0) rfl i_Dr (by decide) wm_489 rfl
theorem pf_Pl_224 : pf_rule R_Pl 224 0 7 (.int) := pf_mk (ci := 0) (k := 7) rfl i_Dr t_Dr t_Dr_ok n_Dr (by decide) wm_489 rfl rfl
theorem gf_Pl_23 : gf_rule R_Pl 23 6 3 := gf_mk (ci := 6) rfl i_Pl (by decide) wm_1628 rfl
theorem gf_Pl_256 : gf_rule R_Pl 256 3 9 := gf_mk (ci := 3) rfl i_Gr (by decide) wm_125 rfl
theorem gf_Pl_26 : gf_rule R_Pl 26 6 4 := gf_mk (ci := 6) rfl i_Pl (by decide) wm_1629 rfl
theorem gf_Pl_262 : gf_rule R_Pl 262 0 9 := gf_mk (ci := 0) rfl i_Dr (by decide) wm_494 rfl
theorem pf_Pl_262 : pf_rule R_Pl 262 0 9 (.int) := pf_mk (ci := 0) (k := 9) rfl i_Dr t_Dr t_Dr_ok n_Dr (by decide) wm_494 rfl rfl
theorem gf_Pl_265 : gf_rule R_Pl 265 3 7 := gf_mk (ci := 3) rfl i_Gr (by decide) wm_106 rfl
theorem gf_Pl_268 : gf_rule R_Pl 268 3 8 := gf_mk (ci := 3) rfl i_Gr (by decide) wm_117 rfl
theorem gf_Pl_29 : gf_rule R_Pl 29 6 5 := gf_mk (ci := 6) rfl i_Pl (by decide) wm_1630 rfl
theorem gf_Pl_32 : gf_rule R_Pl 32 6 6 := gf_mk (ci := 6) rfl i_Pl (by decide) wm_1631 rfl
theorem gf_Pl_35 : gf_rule R_Pl 35 6 7 := gf_mk (ci := 6) rfl i_Pl (by decide) wm_1632 rfl
theorem gf_Pl_38 : gf_rule R_Pl 38 6 8 := gf_mk (ci := 6) rfl i_Pl (by decide) wm_1633 rfl
theorem pf_Pl_38 : pf_rule R_Pl 38 6 8 (.int) := pf_mk (ci := 6) (k := 8) rfl i_Pl t_Pl t_Pl_ok n_Pl (by decide) wm_1633 rfl rfl
theorem gf_Pl_42 : gf_rule R_Pl 42 6 9 := gf_mk (ci := 6) rfl i_Pl (by decide) wm_1634 rfl
theorem gf_Pl_45 : gf_rule R_Pl 45 6 10 := gf_mk (ci := 6) rfl i_Pl (by decide) wm_1635 rfl
theorem gf_Pl_48 : gf_rule R_Pl 48 6 11 := gf_mk (ci := 6) rfl i_Pl (by decide) wm_1636 rfl
theorem pf_Pl_48 : pf_rule R_Pl 48 6 11 (.int) := pf_mk (ci := 6) (k := 11) rfl i_Pl t_Pl t_Pl_ok n_Pl (by decide) wm_1636 rfl rfl
theorem gf_Pl_51 : gf_rule R_Pl 51 6 12 := gf_mk (ci := 6) rfl i_Pl (by decide) wm_1637 rfl
theorem gf_Pl_54 : gf_rule R_Pl 54 6 13 := gf_mk (ci := 6) rfl i_Pl (by decide) wm_1638 rfl
theorem pf_Pl_54 : pf_rule R_Pl 54 6 13 (.long) := pf_mk (ci := 6) (k := 13) rfl i_Pl t_Pl t_Pl_ok n_Pl (by decide) wm_1638 rfl rfl
theorem gf_Pl_58 : gf_rule R_Pl 58 6 14 := gf_mk (ci := 6) rfl i_Pl (by decide) wm_1639 rfl
theorem pf_Pl_58 : pf_rule R_Pl 58 6 14 (.long) := pf_mk (ci := 6) (k := 14) rfl i_Pl t_Pl t_Pl_ok n_Pl (by decide) wm_1639 rfl rfl
theorem gf_Pl_61 : gf_rule R_Pl 61 6 15 := gf_mk (ci := 6) rfl i_Pl (by decide) wm_1640 rfl
theorem gf_Pl_65 : gf_rule R_Pl 65 6 16 := gf_mk (ci := 6) rfl i_Pl (by decide) wm_1641 rfl
theorem gf_Pl_68 : gf_rule R_Pl 68 6 17 := gf_mk (ci := 6) rfl i_Pl (by decide) wm_1642 rfl
theorem gf_Pl_71 : gf_rule R_Pl 71 6 18 := gf_mk (ci := 6) rfl i_Pl (by decide) wm_1643 rfl
theorem gf_Pl_74 : gf_rule R_Pl 74 3 0 := gf_mk (ci := 3) rfl i_Gr (by decide) wm_59 rfl
theorem pf_Pl_74 : pf_rule R_Pl 74 3 0 (.int) := pf_mk (ci := 3) (k := 0) rfl i_Gr t_Gr t_Gr_ok n_Gr (by decide) wm_59 rfl rfl
theorem gf_Pl_79 : gf_rule R_Pl 79 3 1 := gf_mk (ci := 3) rfl i_Gr (by decide) wm_70 rfl
theorem pf_Pl_79 : pf_rule R_Pl 79 3 1 (.int) := pf_mk (ci := 3) (k := 1) rfl i_Gr t_Gr t_Gr_ok n_Gr (by decide) wm_70 rfl rfl
theorem gf_Pl_82 : gf_rule R_Pl 82 2 1 := gf_mk (ci := 2) rfl i_Fa (by decide) wm_397 rfl
theorem pf_Pl_82 : pf_rule R_Pl 82 2 1 (.int) := pf_mk (ci := 2) (k := 1) rfl i_Fa t_Fa t_Fa_ok n_Fa (by decide) wm_397 rfl rfl
theorem gf_Pl_9 : gf_rule R_Pl 9 6 0 := gf_mk (ci := 6) rfl i_Pl (by decide) wm_1625 rfl
theorem pf_Pl_9 : pf_rule R_Pl 9 6 0 (.object "DrawingHouse$Graph") := pf_mk (ci := 6) (k := 0) rfl i_Pl t_Pl t_Pl_ok n_Pl (by decide) wm_1625 rfl rfl
theorem kx_Pn_0_240 : kt_rule R_Pn (kt_op 0 240).1 (kt_op 0 240).2 (.int (1000000)) ∧ ∀ ta, tv_ok ta (0, 1000000, 1000000, []) (.int (1000000)) := ⟨kt_e0 (w := 1000000) wm_1612 (by decide), fun _ => Or.inl ⟨rfl, _, rfl, by decide, by decide⟩⟩
theorem kx_Pn_0_241 : kt_rule R_Pn (kt_op 0 241).1 (kt_op 0 241).2 (.int (Int32.ofInt (-1000000))) ∧ ∀ ta, tv_ok ta (0, -1000000, -1000000, []) (.int (Int32.ofInt (-1000000))) := ⟨kt_e0 (w := Int32.ofInt (-1000000)) wm_1613 (by decide), fun _ => Or.inl ⟨rfl, _, rfl, by decide, by decide⟩⟩
theorem gf_Pn_101 : gf_rule R_Pn 101 2 4 := gf_mk (ci := 2) rfl i_Fa (by decide) wm_407 rfl
theorem gf_Pn_12 : gf_rule R_Pn 12 7 0 := gf_mk (ci := 7) rfl i_Pn (by decide) wm_1473 rfl
theorem gf_Pn_122 : gf_rule R_Pn 122 5 13 := gf_mk (ci := 5) rfl i_Ne (by decide) wm_283 rfl
theorem pf_Pn_122 : pf_rule R_Pn 122 5 13 (.int) := pf_mk (ci := 5) (k := 13) rfl i_Ne t_Ne t_Ne_ok n_Ne (by decide) wm_283 rfl rfl
theorem gf_Pn_125 : gf_rule R_Pn 125 5 14 := gf_mk (ci := 5) rfl i_Ne (by decide) wm_286 rfl
theorem gf_Pn_128 : gf_rule R_Pn 128 5 15 := gf_mk (ci := 5) rfl i_Ne (by decide) wm_288 rfl
theorem gf_Pn_131 : gf_rule R_Pn 131 5 9 := gf_mk (ci := 5) rfl i_Ne (by decide) wm_275 rfl
theorem gf_Pn_156 : gf_rule R_Pn 156 5 11 := gf_mk (ci := 5) rfl i_Ne (by decide) wm_278 rfl
theorem gf_Pn_162 : gf_rule R_Pn 162 5 7 := gf_mk (ci := 5) rfl i_Ne (by decide) wm_269 rfl
theorem gf_Pn_165 : gf_rule R_Pn 165 5 8 := gf_mk (ci := 5) rfl i_Ne (by decide) wm_272 rfl
theorem gf_Pn_177 : gf_rule R_Pn 177 0 2 := gf_mk (ci := 0) rfl i_Dr (by decide) wm_472 rfl
theorem gf_Pn_18 : gf_rule R_Pn 18 7 1 := gf_mk (ci := 7) rfl i_Pn (by decide) wm_1474 rfl
theorem gf_Pn_192 : gf_rule R_Pn 192 0 12 := gf_mk (ci := 0) rfl i_Dr (by decide) wm_500 rfl
theorem gf_Pn_203 : gf_rule R_Pn 203 3 1 := gf_mk (ci := 3) rfl i_Gr (by decide) wm_75 rfl
theorem pf_Pn_203 : pf_rule R_Pn 203 3 1 (.int) := pf_mk (ci := 3) (k := 1) rfl i_Gr t_Gr t_Gr_ok n_Gr (by decide) wm_75 rfl rfl
theorem gf_Pn_214 : gf_rule R_Pn 214 3 7 := gf_mk (ci := 3) rfl i_Gr (by decide) wm_104 rfl
theorem gf_Pn_218 : gf_rule R_Pn 218 3 8 := gf_mk (ci := 3) rfl i_Gr (by decide) wm_115 rfl
theorem gf_Pn_219 : gf_rule R_Pn 219 3 14 := gf_mk (ci := 3) rfl i_Gr (by decide) wm_144 rfl
theorem gf_Pn_22 : gf_rule R_Pn 22 7 2 := gf_mk (ci := 7) rfl i_Pn (by decide) wm_1475 rfl
theorem gf_Pn_228 : gf_rule R_Pn 228 5 16 := gf_mk (ci := 5) rfl i_Ne (by decide) wm_290 rfl
theorem gf_Pn_25 : gf_rule R_Pn 25 7 3 := gf_mk (ci := 7) rfl i_Pn (by decide) wm_1476 rfl
theorem pf_Pn_25 : pf_rule R_Pn 25 7 3 (.int) := pf_mk (ci := 7) (k := 3) rfl i_Pn t_Pn t_Pn_ok n_Pn (by decide) wm_1476 rfl rfl
theorem gf_Pn_29 : gf_rule R_Pn 29 7 4 := gf_mk (ci := 7) rfl i_Pn (by decide) wm_1477 rfl
theorem gf_Pn_32 : gf_rule R_Pn 32 7 5 := gf_mk (ci := 7) rfl i_Pn (by decide) wm_1478 rfl
theorem gf_Pn_35 : gf_rule R_Pn 35 7 6 := gf_mk (ci := 7) rfl i_Pn (by decide) wm_1479 rfl
theorem gf_Pn_38 : gf_rule R_Pn 38 7 7 := gf_mk (ci := 7) rfl i_Pn (by decide) wm_1480 rfl
theorem gf_Pn_41 : gf_rule R_Pn 41 7 8 := gf_mk (ci := 7) rfl i_Pn (by decide) wm_1481 rfl
theorem gf_Pn_44 : gf_rule R_Pn 44 5 0 := gf_mk (ci := 5) rfl i_Ne (by decide) wm_249 rfl
theorem pf_Pn_44 : pf_rule R_Pn 44 5 0 (.int) := pf_mk (ci := 5) (k := 0) rfl i_Ne t_Ne t_Ne_ok n_Ne (by decide) wm_249 rfl rfl
theorem gf_Pn_47 : gf_rule R_Pn 47 3 0 := gf_mk (ci := 3) rfl i_Gr (by decide) wm_58 rfl
theorem pf_Pn_47 : pf_rule R_Pn 47 3 0 (.int) := pf_mk (ci := 3) (k := 0) rfl i_Gr t_Gr t_Gr_ok n_Gr (by decide) wm_58 rfl rfl
theorem gf_Pn_56 : gf_rule R_Pn 56 2 2 := gf_mk (ci := 2) rfl i_Fa (by decide) wm_401 rfl
theorem pf_Pn_56 : pf_rule R_Pn 56 2 2 (.int) := pf_mk (ci := 2) (k := 2) rfl i_Fa t_Fa t_Fa_ok n_Fa (by decide) wm_401 rfl rfl
theorem gf_Pn_61 : gf_rule R_Pn 61 2 1 := gf_mk (ci := 2) rfl i_Fa (by decide) wm_398 rfl
theorem pf_Pn_61 : pf_rule R_Pn 61 2 1 (.int) := pf_mk (ci := 2) (k := 1) rfl i_Fa t_Fa t_Fa_ok n_Fa (by decide) wm_398 rfl rfl
theorem gf_Pn_86 : gf_rule R_Pn 86 5 5 := gf_mk (ci := 5) rfl i_Ne (by decide) wm_264 rfl
theorem pf_Pn_86 : pf_rule R_Pn 86 5 5 (.int) := pf_mk (ci := 5) (k := 5) rfl i_Ne t_Ne t_Ne_ok n_Ne (by decide) wm_264 rfl rfl
theorem gf_Pn_87 : gf_rule R_Pn 87 0 3 := gf_mk (ci := 0) rfl i_Dr (by decide) wm_477 rfl
theorem kx_Re_0_74 : kt_rule R_Re (kt_op 0 74).1 (kt_op 0 74).2 (.int (1000000)) ∧ ∀ ta, tv_ok ta (0, 1000000, 1000000, []) (.int (1000000)) := ⟨kt_e0 (w := 1000000) wm_655 (by decide), fun _ => Or.inl ⟨rfl, _, rfl, by decide, by decide⟩⟩
theorem gf_Re_120 : gf_rule R_Re 120 3 0 := gf_mk (ci := 3) rfl i_Gr (by decide) wm_65 rfl
theorem pf_Re_120 : pf_rule R_Re 120 3 0 (.int) := pf_mk (ci := 3) (k := 0) rfl i_Gr t_Gr t_Gr_ok n_Gr (by decide) wm_65 rfl rfl
theorem gf_Re_136 : gf_rule R_Re 136 3 5 := gf_mk (ci := 3) rfl i_Gr (by decide) wm_90 rfl
theorem gf_Re_138 : gf_rule R_Re 138 3 2 := gf_mk (ci := 3) rfl i_Gr (by decide) wm_82 rfl
theorem pf_Re_138 : pf_rule R_Re 138 3 2 (.int) := pf_mk (ci := 3) (k := 2) rfl i_Gr t_Gr t_Gr_ok n_Gr (by decide) wm_82 rfl rfl
theorem gf_Re_141 : gf_rule R_Re 141 3 11 := gf_mk (ci := 3) rfl i_Gr (by decide) wm_133 rfl
theorem gf_Re_144 : gf_rule R_Re 144 3 13 := gf_mk (ci := 3) rfl i_Gr (by decide) wm_139 rfl
theorem gf_Re_147 : gf_rule R_Re 147 3 12 := gf_mk (ci := 3) rfl i_Gr (by decide) wm_136 rfl
theorem gf_Re_15 : gf_rule R_Re 15 8 1 := gf_mk (ci := 8) rfl i_Re (by decide) wm_196 rfl
theorem pf_Re_15 : pf_rule R_Re 15 8 1 (.int) := pf_mk (ci := 8) (k := 1) rfl i_Re t_Re t_Re_ok n_Re (by decide) wm_196 rfl rfl
theorem gf_Re_156 : gf_rule R_Re 156 3 1 := gf_mk (ci := 3) rfl i_Gr (by decide) wm_76 rfl
theorem pf_Re_156 : pf_rule R_Re 156 3 1 (.int) := pf_mk (ci := 3) (k := 1) rfl i_Gr t_Gr t_Gr_ok n_Gr (by decide) wm_76 rfl rfl
theorem gf_Re_168 : gf_rule R_Re 168 3 9 := gf_mk (ci := 3) rfl i_Gr (by decide) wm_122 rfl
theorem gf_Re_19 : gf_rule R_Re 19 8 2 := gf_mk (ci := 8) rfl i_Re (by decide) wm_198 rfl
theorem pf_Re_19 : pf_rule R_Re 19 8 2 (.int) := pf_mk (ci := 8) (k := 2) rfl i_Re t_Re t_Re_ok n_Re (by decide) wm_198 rfl rfl
theorem gf_Re_22 : gf_rule R_Re 22 8 3 := gf_mk (ci := 8) rfl i_Re (by decide) wm_200 rfl
theorem pf_Re_22 : pf_rule R_Re 22 8 3 (.int) := pf_mk (ci := 8) (k := 3) rfl i_Re t_Re t_Re_ok n_Re (by decide) wm_200 rfl rfl
theorem gf_Re_28 : gf_rule R_Re 28 8 4 := gf_mk (ci := 8) rfl i_Re (by decide) wm_202 rfl
theorem gf_Re_32 : gf_rule R_Re 32 8 5 := gf_mk (ci := 8) rfl i_Re (by decide) wm_204 rfl
theorem pf_Re_32 : pf_rule R_Re 32 8 5 (.int) := pf_mk (ci := 8) (k := 5) rfl i_Re t_Re t_Re_ok n_Re (by decide) wm_204 rfl rfl
theorem gf_Re_35 : gf_rule R_Re 35 8 6 := gf_mk (ci := 8) rfl i_Re (by decide) wm_205 rfl
theorem pf_Re_35 : pf_rule R_Re 35 8 6 (.int) := pf_mk (ci := 8) (k := 6) rfl i_Re t_Re t_Re_ok n_Re (by decide) wm_205 rfl rfl
theorem gf_Re_38 : gf_rule R_Re 38 8 7 := gf_mk (ci := 8) rfl i_Re (by decide) wm_206 rfl
theorem pf_Re_38 : pf_rule R_Re 38 8 7 (.int) := pf_mk (ci := 8) (k := 7) rfl i_Re t_Re t_Re_ok n_Re (by decide) wm_206 rfl rfl
theorem gf_Re_41 : gf_rule R_Re 41 8 8 := gf_mk (ci := 8) rfl i_Re (by decide) wm_207 rfl
theorem pf_Re_41 : pf_rule R_Re 41 8 8 (.int) := pf_mk (ci := 8) (k := 8) rfl i_Re t_Re t_Re_ok n_Re (by decide) wm_207 rfl rfl
theorem gf_Re_44 : gf_rule R_Re 44 8 9 := gf_mk (ci := 8) rfl i_Re (by decide) wm_208 rfl
theorem pf_Re_44 : pf_rule R_Re 44 8 9 (.int) := pf_mk (ci := 8) (k := 9) rfl i_Re t_Re t_Re_ok n_Re (by decide) wm_208 rfl rfl
theorem gf_Re_47 : gf_rule R_Re 47 8 10 := gf_mk (ci := 8) rfl i_Re (by decide) wm_209 rfl
theorem gf_Re_51 : gf_rule R_Re 51 8 11 := gf_mk (ci := 8) rfl i_Re (by decide) wm_210 rfl
theorem pf_Re_51 : pf_rule R_Re 51 8 11 (.int) := pf_mk (ci := 8) (k := 11) rfl i_Re t_Re t_Re_ok n_Re (by decide) wm_210 rfl rfl
theorem gf_Re_9 : gf_rule R_Re 9 8 0 := gf_mk (ci := 8) rfl i_Re (by decide) wm_194 rfl
theorem kx_Ro_0_107 : kt_rule R_Ro (kt_op 0 107).1 (kt_op 0 107).2 (.int (Int32.ofInt (-1000000000))) ∧ ∀ ta, tv_ok ta (0, -1000000000, -1000000000, []) (.int (Int32.ofInt (-1000000000))) := ⟨kt_e0 (w := Int32.ofInt (-1000000000)) wm_1931 (by decide), fun _ => Or.inl ⟨rfl, _, rfl, by decide, by decide⟩⟩
theorem kx_Ro_0_140 : kt_rule R_Ro (kt_op 0 140).1 (kt_op 0 140).2 (.int (1000000)) ∧ ∀ ta, tv_ok ta (0, 1000000, 1000000, []) (.int (1000000)) := ⟨kt_e0 (w := 1000000) wm_1953 (by decide), fun _ => Or.inl ⟨rfl, _, rfl, by decide, by decide⟩⟩
theorem kx_Ro_0_52 : kt_rule R_Ro (kt_op 0 52).1 (kt_op 0 52).2 (.int (48004)) ∧ ∀ ta, tv_ok ta (0, 48004, 48004, []) (.int (48004)) := ⟨kt_e0 (w := 48004) wm_1866 (by decide), fun _ => Or.inl ⟨rfl, _, rfl, by decide, by decide⟩⟩
theorem kx_Ro_0_94 : kt_rule R_Ro (kt_op 0 94).1 (kt_op 0 94).2 (.int (1000000000)) ∧ ∀ ta, tv_ok ta (0, 1000000000, 1000000000, []) (.int (1000000000)) := ⟨kt_e0 (w := 1000000000) wm_1930 (by decide), fun _ => Or.inl ⟨rfl, _, rfl, by decide, by decide⟩⟩
theorem gf_Ro_108 : gf_rule R_Ro 108 3 0 := gf_mk (ci := 3) rfl i_Gr (by decide) wm_61 rfl
theorem pf_Ro_108 : pf_rule R_Ro 108 3 0 (.int) := pf_mk (ci := 3) (k := 0) rfl i_Gr t_Gr t_Gr_ok n_Gr (by decide) wm_61 rfl rfl
theorem gf_Ro_111 : gf_rule R_Ro 111 0 2 := gf_mk (ci := 0) rfl i_Dr (by decide) wm_470 rfl
theorem gf_Ro_126 : gf_rule R_Ro 126 0 3 := gf_mk (ci := 0) rfl i_Dr (by decide) wm_478 rfl
theorem gf_Ro_15 : gf_rule R_Ro 15 9 1 := gf_mk (ci := 9) rfl i_Ro (by decide) wm_1868 rfl
theorem pf_Ro_15 : pf_rule R_Ro 15 9 1 (.object "DrawingHouse$Drawing") := pf_mk (ci := 9) (k := 1) rfl i_Ro t_Ro t_Ro_ok n_Ro (by decide) wm_1868 rfl rfl
theorem gf_Ro_19 : gf_rule R_Ro 19 9 2 := gf_mk (ci := 9) rfl i_Ro (by decide) wm_1869 rfl
theorem pf_Ro_19 : pf_rule R_Ro 19 9 2 (.int) := pf_mk (ci := 9) (k := 2) rfl i_Ro t_Ro t_Ro_ok n_Ro (by decide) wm_1869 rfl rfl
theorem gf_Ro_23 : gf_rule R_Ro 23 9 3 := gf_mk (ci := 9) rfl i_Ro (by decide) wm_1870 rfl
theorem pf_Ro_23 : pf_rule R_Ro 23 9 3 (.int) := pf_mk (ci := 9) (k := 3) rfl i_Ro t_Ro t_Ro_ok n_Ro (by decide) wm_1870 rfl rfl
theorem gf_Ro_26 : gf_rule R_Ro 26 9 4 := gf_mk (ci := 9) rfl i_Ro (by decide) wm_1871 rfl
theorem pf_Ro_26 : pf_rule R_Ro 26 9 4 (.int) := pf_mk (ci := 9) (k := 4) rfl i_Ro t_Ro t_Ro_ok n_Ro (by decide) wm_1871 rfl rfl
theorem gf_Ro_29 : gf_rule R_Ro 29 9 5 := gf_mk (ci := 9) rfl i_Ro (by decide) wm_1872 rfl
theorem pf_Ro_29 : pf_rule R_Ro 29 9 5 (.int) := pf_mk (ci := 9) (k := 5) rfl i_Ro t_Ro t_Ro_ok n_Ro (by decide) wm_1872 rfl rfl
theorem gf_Ro_32 : gf_rule R_Ro 32 9 6 := gf_mk (ci := 9) rfl i_Ro (by decide) wm_1873 rfl
theorem pf_Ro_32 : pf_rule R_Ro 32 9 6 (.int) := pf_mk (ci := 9) (k := 6) rfl i_Ro t_Ro t_Ro_ok n_Ro (by decide) wm_1873 rfl rfl
theorem gf_Ro_35 : gf_rule R_Ro 35 9 7 := gf_mk (ci := 9) rfl i_Ro (by decide) wm_1874 rfl
theorem pf_Ro_35 : pf_rule R_Ro 35 9 7 (.int) := pf_mk (ci := 9) (k := 7) rfl i_Ro t_Ro t_Ro_ok n_Ro (by decide) wm_1874 rfl rfl
theorem gf_Ro_38 : gf_rule R_Ro 38 9 8 := gf_mk (ci := 9) rfl i_Ro (by decide) wm_1875 rfl
theorem pf_Ro_38 : pf_rule R_Ro 38 9 8 (.int) := pf_mk (ci := 9) (k := 8) rfl i_Ro t_Ro t_Ro_ok n_Ro (by decide) wm_1875 rfl rfl
theorem gf_Ro_41 : gf_rule R_Ro 41 9 9 := gf_mk (ci := 9) rfl i_Ro (by decide) wm_1876 rfl
theorem gf_Ro_45 : gf_rule R_Ro 45 9 10 := gf_mk (ci := 9) rfl i_Ro (by decide) wm_1877 rfl
theorem gf_Ro_49 : gf_rule R_Ro 49 9 11 := gf_mk (ci := 9) rfl i_Ro (by decide) wm_1878 rfl
theorem gf_Ro_53 : gf_rule R_Ro 53 9 12 := gf_mk (ci := 9) rfl i_Ro (by decide) wm_1879 rfl
theorem gf_Ro_56 : gf_rule R_Ro 56 9 13 := gf_mk (ci := 9) rfl i_Ro (by decide) wm_1880 rfl
theorem gf_Ro_59 : gf_rule R_Ro 59 9 14 := gf_mk (ci := 9) rfl i_Ro (by decide) wm_1881 rfl
theorem pf_Ro_59 : pf_rule R_Ro 59 9 14 (.int) := pf_mk (ci := 9) (k := 14) rfl i_Ro t_Ro t_Ro_ok n_Ro (by decide) wm_1881 rfl rfl
theorem gf_Ro_62 : gf_rule R_Ro 62 9 15 := gf_mk (ci := 9) rfl i_Ro (by decide) wm_1882 rfl
theorem gf_Ro_65 : gf_rule R_Ro 65 9 16 := gf_mk (ci := 9) rfl i_Ro (by decide) wm_1883 rfl
theorem gf_Ro_68 : gf_rule R_Ro 68 9 17 := gf_mk (ci := 9) rfl i_Ro (by decide) wm_1884 rfl
theorem pf_Ro_68 : pf_rule R_Ro 68 9 17 (.int) := pf_mk (ci := 9) (k := 17) rfl i_Ro t_Ro t_Ro_ok n_Ro (by decide) wm_1884 rfl rfl
theorem gf_Ro_75 : gf_rule R_Ro 75 3 7 := gf_mk (ci := 3) rfl i_Gr (by decide) wm_98 rfl
theorem gf_Ro_80 : gf_rule R_Ro 80 3 8 := gf_mk (ci := 3) rfl i_Gr (by decide) wm_109 rfl
theorem gf_Ro_9 : gf_rule R_Ro 9 9 0 := gf_mk (ci := 9) rfl i_Ro (by decide) wm_1867 rfl
theorem pf_Ro_9 : pf_rule R_Ro 9 9 0 (.object "DrawingHouse$Graph") := pf_mk (ci := 9) (k := 0) rfl i_Ro t_Ro t_Ro_ok n_Ro (by decide) wm_1867 rfl rfl
theorem gf_Ro_98 : gf_rule R_Ro 98 0 4 := gf_mk (ci := 0) rfl i_Dr (by decide) wm_484 rfl
theorem kx_St_0_44 : kt_rule R_St (kt_op 0 44).1 (kt_op 0 44).2 (.int (1000000000)) ∧ ∀ ta, tv_ok ta (0, 1000000000, 1000000000, []) (.int (1000000000)) := ⟨kt_e0 (w := 1000000000) wm_1338 (by decide), fun _ => Or.inl ⟨rfl, _, rfl, by decide, by decide⟩⟩
theorem kx_St_0_51 : kt_rule R_St (kt_op 0 51).1 (kt_op 0 51).2 (.int (1000000)) ∧ ∀ ta, tv_ok ta (0, 1000000, 1000000, []) (.int (1000000)) := ⟨kt_e0 (w := 1000000) wm_1344 (by decide), fun _ => Or.inl ⟨rfl, _, rfl, by decide, by decide⟩⟩
theorem gf_St_15 : gf_rule R_St 15 10 1 := gf_mk (ci := 10) rfl i_St (by decide) wm_1199 rfl
theorem pf_St_15 : pf_rule R_St 15 10 1 (.int) := pf_mk (ci := 10) (k := 1) rfl i_St t_St t_St_ok n_St (by decide) wm_1199 rfl rfl
theorem gf_St_18 : gf_rule R_St 18 10 2 := gf_mk (ci := 10) rfl i_St (by decide) wm_1200 rfl
theorem gf_St_22 : gf_rule R_St 22 10 3 := gf_mk (ci := 10) rfl i_St (by decide) wm_1201 rfl
theorem gf_St_25 : gf_rule R_St 25 10 4 := gf_mk (ci := 10) rfl i_St (by decide) wm_1202 rfl
theorem gf_St_28 : gf_rule R_St 28 10 5 := gf_mk (ci := 10) rfl i_St (by decide) wm_1203 rfl
theorem gf_St_31 : gf_rule R_St 31 10 6 := gf_mk (ci := 10) rfl i_St (by decide) wm_1204 rfl
theorem gf_St_34 : gf_rule R_St 34 10 7 := gf_mk (ci := 10) rfl i_St (by decide) wm_1206 rfl
theorem gf_St_37 : gf_rule R_St 37 10 8 := gf_mk (ci := 10) rfl i_St (by decide) wm_1207 rfl
theorem gf_St_9 : gf_rule R_St 9 10 0 := gf_mk (ci := 10) rfl i_St (by decide) wm_1198 rfl
theorem pf_St_9 : pf_rule R_St 9 10 0 (.int) := pf_mk (ci := 10) (k := 0) rfl i_St t_St t_St_ok n_St (by decide) wm_1198 rfl rfl
theorem kx_Sy_0_85 : kt_rule R_Sy (kt_op 0 85).1 (kt_op 0 85).2 (.int (1000000)) ∧ ∀ ta, tv_ok ta (0, 1000000, 1000000, []) (.int (1000000)) := ⟨kt_e0 (w := 1000000) wm_2163 (by decide), fun _ => Or.inl ⟨rfl, _, rfl, by decide, by decide⟩⟩
theorem gf_Sy_15 : gf_rule R_Sy 15 11 1 := gf_mk (ci := 11) rfl i_Sy (by decide) wm_2098 rfl
theorem pf_Sy_15 : pf_rule R_Sy 15 11 1 (.int) := pf_mk (ci := 11) (k := 1) rfl i_Sy t_Sy t_Sy_ok n_Sy (by decide) wm_2098 rfl rfl
theorem gf_Sy_161 : gf_rule R_Sy 161 0 14 := gf_mk (ci := 0) rfl i_Dr (by decide) wm_504 rfl
theorem gf_Sy_172 : gf_rule R_Sy 172 3 0 := gf_mk (ci := 3) rfl i_Gr (by decide) wm_67 rfl
theorem pf_Sy_172 : pf_rule R_Sy 172 3 0 (.int) := pf_mk (ci := 3) (k := 0) rfl i_Gr t_Gr t_Gr_ok n_Gr (by decide) wm_67 rfl rfl
theorem gf_Sy_18 : gf_rule R_Sy 18 11 2 := gf_mk (ci := 11) rfl i_Sy (by decide) wm_2100 rfl
theorem pf_Sy_18 : pf_rule R_Sy 18 11 2 (.int) := pf_mk (ci := 11) (k := 2) rfl i_Sy t_Sy t_Sy_ok n_Sy (by decide) wm_2100 rfl rfl
theorem gf_Sy_185 : gf_rule R_Sy 185 3 1 := gf_mk (ci := 3) rfl i_Gr (by decide) wm_78 rfl
theorem pf_Sy_185 : pf_rule R_Sy 185 3 1 (.int) := pf_mk (ci := 3) (k := 1) rfl i_Gr t_Gr t_Gr_ok n_Gr (by decide) wm_78 rfl rfl
theorem gf_Sy_191 : gf_rule R_Sy 191 3 8 := gf_mk (ci := 3) rfl i_Gr (by decide) wm_116 rfl
theorem gf_Sy_194 : gf_rule R_Sy 194 3 7 := gf_mk (ci := 3) rfl i_Gr (by decide) wm_105 rfl
theorem gf_Sy_197 : gf_rule R_Sy 197 0 1 := gf_mk (ci := 0) rfl i_Dr (by decide) wm_468 rfl
theorem pf_Sy_197 : pf_rule R_Sy 197 0 1 (.int) := pf_mk (ci := 0) (k := 1) rfl i_Dr t_Dr t_Dr_ok n_Dr (by decide) wm_468 rfl rfl
theorem gf_Sy_200 : gf_rule R_Sy 200 3 14 := gf_mk (ci := 3) rfl i_Gr (by decide) wm_145 rfl
theorem gf_Sy_208 : gf_rule R_Sy 208 3 5 := gf_mk (ci := 3) rfl i_Gr (by decide) wm_91 rfl
theorem gf_Sy_21 : gf_rule R_Sy 21 11 3 := gf_mk (ci := 11) rfl i_Sy (by decide) wm_2102 rfl
theorem pf_Sy_21 : pf_rule R_Sy 21 11 3 (.array .byte) := pf_mk (ci := 11) (k := 3) rfl i_Sy t_Sy t_Sy_ok n_Sy (by decide) wm_2102 rfl rfl
theorem gf_Sy_211 : gf_rule R_Sy 211 3 6 := gf_mk (ci := 3) rfl i_Gr (by decide) wm_95 rfl
theorem gf_Sy_217 : gf_rule R_Sy 217 2 7 := gf_mk (ci := 2) rfl i_Fa (by decide) wm_416 rfl
theorem gf_Sy_222 : gf_rule R_Sy 222 2 8 := gf_mk (ci := 2) rfl i_Fa (by decide) wm_419 rfl
theorem gf_Sy_225 : gf_rule R_Sy 225 0 2 := gf_mk (ci := 0) rfl i_Dr (by decide) wm_473 rfl
theorem gf_Sy_228 : gf_rule R_Sy 228 0 3 := gf_mk (ci := 0) rfl i_Dr (by decide) wm_480 rfl
theorem gf_Sy_234 : gf_rule R_Sy 234 3 9 := gf_mk (ci := 3) rfl i_Gr (by decide) wm_124 rfl
theorem gf_Sy_237 : gf_rule R_Sy 237 2 9 := gf_mk (ci := 2) rfl i_Fa (by decide) wm_422 rfl
theorem gf_Sy_244 : gf_rule R_Sy 244 2 5 := gf_mk (ci := 2) rfl i_Fa (by decide) wm_411 rfl
theorem gf_Sy_247 : gf_rule R_Sy 247 3 10 := gf_mk (ci := 3) rfl i_Gr (by decide) wm_129 rfl
theorem gf_Sy_25 : gf_rule R_Sy 25 11 4 := gf_mk (ci := 11) rfl i_Sy (by decide) wm_2103 rfl
theorem pf_Sy_25 : pf_rule R_Sy 25 11 4 (.int) := pf_mk (ci := 11) (k := 4) rfl i_Sy t_Sy t_Sy_ok n_Sy (by decide) wm_2103 rfl rfl
theorem gf_Sy_28 : gf_rule R_Sy 28 11 5 := gf_mk (ci := 11) rfl i_Sy (by decide) wm_2104 rfl
theorem pf_Sy_28 : pf_rule R_Sy 28 11 5 (.int) := pf_mk (ci := 11) (k := 5) rfl i_Sy t_Sy t_Sy_ok n_Sy (by decide) wm_2104 rfl rfl
theorem gf_Sy_31 : gf_rule R_Sy 31 11 6 := gf_mk (ci := 11) rfl i_Sy (by decide) wm_2105 rfl
theorem pf_Sy_31 : pf_rule R_Sy 31 11 6 (.int) := pf_mk (ci := 11) (k := 6) rfl i_Sy t_Sy t_Sy_ok n_Sy (by decide) wm_2105 rfl rfl
theorem gf_Sy_34 : gf_rule R_Sy 34 11 7 := gf_mk (ci := 11) rfl i_Sy (by decide) wm_2106 rfl
theorem pf_Sy_34 : pf_rule R_Sy 34 11 7 (.int) := pf_mk (ci := 11) (k := 7) rfl i_Sy t_Sy t_Sy_ok n_Sy (by decide) wm_2106 rfl rfl
theorem gf_Sy_37 : gf_rule R_Sy 37 11 8 := gf_mk (ci := 11) rfl i_Sy (by decide) wm_2107 rfl
theorem pf_Sy_37 : pf_rule R_Sy 37 11 8 (.int) := pf_mk (ci := 11) (k := 8) rfl i_Sy t_Sy t_Sy_ok n_Sy (by decide) wm_2107 rfl rfl
theorem gf_Sy_42 : gf_rule R_Sy 42 11 9 := gf_mk (ci := 11) rfl i_Sy (by decide) wm_2108 rfl
theorem pf_Sy_42 : pf_rule R_Sy 42 11 9 (.object "java/lang/String") := pf_mk (ci := 11) (k := 9) rfl i_Sy t_Sy t_Sy_ok n_Sy (by decide) wm_2108 rfl rfl
theorem gf_Sy_46 : gf_rule R_Sy 46 11 10 := gf_mk (ci := 11) rfl i_Sy (by decide) wm_2109 rfl
theorem gf_Sy_50 : gf_rule R_Sy 50 11 11 := gf_mk (ci := 11) rfl i_Sy (by decide) wm_2110 rfl
theorem pf_Sy_50 : pf_rule R_Sy 50 11 11 (.int) := pf_mk (ci := 11) (k := 11) rfl i_Sy t_Sy t_Sy_ok n_Sy (by decide) wm_2110 rfl rfl
theorem gf_Sy_53 : gf_rule R_Sy 53 11 12 := gf_mk (ci := 11) rfl i_Sy (by decide) wm_2111 rfl
theorem gf_Sy_56 : gf_rule R_Sy 56 11 13 := gf_mk (ci := 11) rfl i_Sy (by decide) wm_2112 rfl
theorem gf_Sy_59 : gf_rule R_Sy 59 11 14 := gf_mk (ci := 11) rfl i_Sy (by decide) wm_2113 rfl
theorem gf_Sy_63 : gf_rule R_Sy 63 11 15 := gf_mk (ci := 11) rfl i_Sy (by decide) wm_2114 rfl
theorem pf_Sy_63 : pf_rule R_Sy 63 11 15 (.int) := pf_mk (ci := 11) (k := 15) rfl i_Sy t_Sy t_Sy_ok n_Sy (by decide) wm_2114 rfl rfl
theorem gf_Sy_66 : gf_rule R_Sy 66 11 16 := gf_mk (ci := 11) rfl i_Sy (by decide) wm_2115 rfl
theorem gf_Sy_9 : gf_rule R_Sy 9 11 0 := gf_mk (ci := 11) rfl i_Sy (by decide) wm_2096 rfl
theorem pf_Sy_9 : pf_rule R_Sy 9 11 0 (.int) := pf_mk (ci := 11) (k := 0) rfl i_Sy t_Sy t_Sy_ok n_Sy (by decide) wm_2096 rfl rfl
theorem kx_Ho_1_315 : kt_rule R_Ho (kt_op 1 315).1 (kt_op 1 315).2 (.int (Int32.ofInt (-2147483648))) ∧ ∀ ta, tv_ok ta (0, -2147483648, -2147483648, []) (.int (Int32.ofInt (-2147483648))) := ⟨kt_e1 (w := Int32.ofInt (-2147483648)) wm_1824 (by decide), fun _ => Or.inl ⟨rfl, _, rfl, by decide, by decide⟩⟩
theorem kx_Ho_1_430 : kt_rule R_Ho (kt_op 1 430).1 (kt_op 1 430).2 (.int (60000)) ∧ ∀ ta, tv_ok ta (0, 60000, 60000, []) (.int (60000)) := ⟨kt_e1 (w := 60000) wm_1032 (by decide), fun _ => Or.inl ⟨rfl, _, rfl, by decide, by decide⟩⟩
theorem kx_Ho_1_455 : kt_rule R_Ho (kt_op 1 455).1 (kt_op 1 455).2 (.int (1000000)) ∧ ∀ ta, tv_ok ta (0, 1000000, 1000000, []) (.int (1000000)) := ⟨kt_e1 (w := 1000000) wm_2356 (by decide), fun _ => Or.inl ⟨rfl, _, rfl, by decide, by decide⟩⟩
theorem gf_Ho_108 : gf_rule R_Ho 108 8 1 := gf_mk (ci := 8) rfl i_Re (by decide) wm_197 rfl
theorem pf_Ho_108 : pf_rule R_Ho 108 8 1 (.int) := pf_mk (ci := 8) (k := 1) rfl i_Re t_Re t_Re_ok n_Re (by decide) wm_197 rfl rfl
theorem gf_Ho_122 : gf_rule R_Ho 122 8 4 := gf_mk (ci := 8) rfl i_Re (by decide) wm_203 rfl
theorem gf_Ho_13 : gf_rule R_Ho 13 12 0 := gf_mk (ci := 12) rfl i_Ho (by decide) wm_555 rfl
theorem gf_Ho_132 : gf_rule R_Ho 132 3 0 := gf_mk (ci := 3) rfl i_Gr (by decide) wm_62 rfl
theorem pf_Ho_132 : pf_rule R_Ho 132 3 0 (.int) := pf_mk (ci := 3) (k := 0) rfl i_Gr t_Gr t_Gr_ok n_Gr (by decide) wm_62 rfl rfl
theorem gf_Ho_135 : gf_rule R_Ho 135 8 2 := gf_mk (ci := 8) rfl i_Re (by decide) wm_199 rfl
theorem pf_Ho_135 : pf_rule R_Ho 135 8 2 (.int) := pf_mk (ci := 8) (k := 2) rfl i_Re t_Re t_Re_ok n_Re (by decide) wm_199 rfl rfl
theorem gf_Ho_138 : gf_rule R_Ho 138 8 3 := gf_mk (ci := 8) rfl i_Re (by decide) wm_201 rfl
theorem pf_Ho_138 : pf_rule R_Ho 138 8 3 (.int) := pf_mk (ci := 8) (k := 3) rfl i_Re t_Re t_Re_ok n_Re (by decide) wm_201 rfl rfl
theorem gf_Ho_141 : gf_rule R_Ho 141 3 1 := gf_mk (ci := 3) rfl i_Gr (by decide) wm_73 rfl
theorem pf_Ho_141 : pf_rule R_Ho 141 3 1 (.int) := pf_mk (ci := 3) (k := 1) rfl i_Gr t_Gr t_Gr_ok n_Gr (by decide) wm_73 rfl rfl
theorem gf_Ho_144 : gf_rule R_Ho 144 3 2 := gf_mk (ci := 3) rfl i_Gr (by decide) wm_80 rfl
theorem pf_Ho_144 : pf_rule R_Ho 144 3 2 (.int) := pf_mk (ci := 3) (k := 2) rfl i_Gr t_Gr t_Gr_ok n_Gr (by decide) wm_80 rfl rfl
theorem gf_Ho_151 : gf_rule R_Ho 151 2 1 := gf_mk (ci := 2) rfl i_Fa (by decide) wm_399 rfl
theorem pf_Ho_151 : pf_rule R_Ho 151 2 1 (.int) := pf_mk (ci := 2) (k := 1) rfl i_Fa t_Fa t_Fa_ok n_Fa (by decide) wm_399 rfl rfl
theorem gf_Ho_154 : gf_rule R_Ho 154 2 2 := gf_mk (ci := 2) rfl i_Fa (by decide) wm_402 rfl
theorem pf_Ho_154 : pf_rule R_Ho 154 2 2 (.int) := pf_mk (ci := 2) (k := 2) rfl i_Fa t_Fa t_Fa_ok n_Fa (by decide) wm_402 rfl rfl
theorem gf_Ho_157 : gf_rule R_Ho 157 2 3 := gf_mk (ci := 2) rfl i_Fa (by decide) wm_404 rfl
theorem pf_Ho_157 : pf_rule R_Ho 157 2 3 (.int) := pf_mk (ci := 2) (k := 3) rfl i_Fa t_Fa t_Fa_ok n_Fa (by decide) wm_404 rfl rfl
theorem gf_Ho_160 : gf_rule R_Ho 160 3 17 := gf_mk (ci := 3) rfl i_Gr (by decide) wm_150 rfl
theorem pf_Ho_160 : pf_rule R_Ho 160 3 17 (.int) := pf_mk (ci := 3) (k := 17) rfl i_Gr t_Gr t_Gr_ok n_Gr (by decide) wm_150 rfl rfl
theorem gf_Ho_163 : gf_rule R_Ho 163 3 18 := gf_mk (ci := 3) rfl i_Gr (by decide) wm_152 rfl
theorem pf_Ho_163 : pf_rule R_Ho 163 3 18 (.int) := pf_mk (ci := 3) (k := 18) rfl i_Gr t_Gr t_Gr_ok n_Gr (by decide) wm_152 rfl rfl
theorem gf_Ho_169 : gf_rule R_Ho 169 3 4 := gf_mk (ci := 3) rfl i_Gr (by decide) wm_86 rfl
theorem gf_Ho_172 : gf_rule R_Ho 172 3 5 := gf_mk (ci := 3) rfl i_Gr (by decide) wm_88 rfl
theorem gf_Ho_175 : gf_rule R_Ho 175 3 6 := gf_mk (ci := 3) rfl i_Gr (by decide) wm_93 rfl
theorem gf_Ho_178 : gf_rule R_Ho 178 3 14 := gf_mk (ci := 3) rfl i_Gr (by decide) wm_143 rfl
theorem gf_Ho_185 : gf_rule R_Ho 185 2 4 := gf_mk (ci := 2) rfl i_Fa (by decide) wm_408 rfl
theorem gf_Ho_188 : gf_rule R_Ho 188 2 8 := gf_mk (ci := 2) rfl i_Fa (by decide) wm_418 rfl
theorem gf_Ho_19 : gf_rule R_Ho 19 12 1 := gf_mk (ci := 12) rfl i_Ho (by decide) wm_556 rfl
theorem gf_Ho_191 : gf_rule R_Ho 191 2 6 := gf_mk (ci := 2) rfl i_Fa (by decide) wm_413 rfl
theorem gf_Ho_194 : gf_rule R_Ho 194 2 7 := gf_mk (ci := 2) rfl i_Fa (by decide) wm_415 rfl
theorem gf_Ho_200 : gf_rule R_Ho 200 3 7 := gf_mk (ci := 3) rfl i_Gr (by decide) wm_102 rfl
theorem gf_Ho_203 : gf_rule R_Ho 203 3 8 := gf_mk (ci := 3) rfl i_Gr (by decide) wm_113 rfl
theorem gf_Ho_206 : gf_rule R_Ho 206 3 9 := gf_mk (ci := 3) rfl i_Gr (by decide) wm_119 rfl
theorem gf_Ho_209 : gf_rule R_Ho 209 3 10 := gf_mk (ci := 3) rfl i_Gr (by decide) wm_127 rfl
theorem gf_Ho_212 : gf_rule R_Ho 212 2 5 := gf_mk (ci := 2) rfl i_Fa (by decide) wm_410 rfl
theorem gf_Ho_221 : gf_rule R_Ho 221 3 11 := gf_mk (ci := 3) rfl i_Gr (by decide) wm_131 rfl
theorem gf_Ho_224 : gf_rule R_Ho 224 3 13 := gf_mk (ci := 3) rfl i_Gr (by decide) wm_138 rfl
theorem gf_Ho_230 : gf_rule R_Ho 230 3 3 := gf_mk (ci := 3) rfl i_Gr (by decide) wm_84 rfl
theorem gf_Ho_233 : gf_rule R_Ho 233 3 12 := gf_mk (ci := 3) rfl i_Gr (by decide) wm_135 rfl
theorem gf_Ho_25 : gf_rule R_Ho 25 12 2 := gf_mk (ci := 12) rfl i_Ho (by decide) wm_557 rfl
theorem gf_Ho_265 : gf_rule R_Ho 265 5 0 := gf_mk (ci := 5) rfl i_Ne (by decide) wm_250 rfl
theorem pf_Ho_265 : pf_rule R_Ho 265 5 0 (.int) := pf_mk (ci := 5) (k := 0) rfl i_Ne t_Ne t_Ne_ok n_Ne (by decide) wm_250 rfl rfl
theorem gf_Ho_272 : gf_rule R_Ho 272 5 13 := gf_mk (ci := 5) rfl i_Ne (by decide) wm_284 rfl
theorem pf_Ho_272 : pf_rule R_Ho 272 5 13 (.int) := pf_mk (ci := 5) (k := 13) rfl i_Ne t_Ne t_Ne_ok n_Ne (by decide) wm_284 rfl rfl
theorem gf_Ho_275 : gf_rule R_Ho 275 5 2 := gf_mk (ci := 5) rfl i_Ne (by decide) wm_255 rfl
theorem pf_Ho_275 : pf_rule R_Ho 275 5 2 (.int) := pf_mk (ci := 5) (k := 2) rfl i_Ne t_Ne t_Ne_ok n_Ne (by decide) wm_255 rfl rfl
theorem gf_Ho_278 : gf_rule R_Ho 278 5 3 := gf_mk (ci := 5) rfl i_Ne (by decide) wm_258 rfl
theorem pf_Ho_278 : pf_rule R_Ho 278 5 3 (.int) := pf_mk (ci := 5) (k := 3) rfl i_Ne t_Ne t_Ne_ok n_Ne (by decide) wm_258 rfl rfl
theorem gf_Ho_281 : gf_rule R_Ho 281 5 4 := gf_mk (ci := 5) rfl i_Ne (by decide) wm_261 rfl
theorem gf_Ho_309 : gf_rule R_Ho 309 0 1 := gf_mk (ci := 0) rfl i_Dr (by decide) wm_467 rfl
theorem pf_Ho_309 : pf_rule R_Ho 309 0 1 (.int) := pf_mk (ci := 0) (k := 1) rfl i_Dr t_Dr t_Dr_ok n_Dr (by decide) wm_467 rfl rfl
theorem gf_Ho_31 : gf_rule R_Ho 31 12 3 := gf_mk (ci := 12) rfl i_Ho (by decide) wm_558 rfl
theorem gf_Ho_345 : gf_rule R_Ho 345 8 0 := gf_mk (ci := 8) rfl i_Re (by decide) wm_195 rfl
theorem gf_Ho_352 : gf_rule R_Ho 352 11 1 := gf_mk (ci := 11) rfl i_Sy (by decide) wm_2099 rfl
theorem pf_Ho_352 : pf_rule R_Ho 352 11 1 (.int) := pf_mk (ci := 11) (k := 1) rfl i_Sy t_Sy t_Sy_ok n_Sy (by decide) wm_2099 rfl rfl
theorem gf_Ho_353 : gf_rule R_Ho 353 11 2 := gf_mk (ci := 11) rfl i_Sy (by decide) wm_2101 rfl
theorem pf_Ho_353 : pf_rule R_Ho 353 11 2 (.int) := pf_mk (ci := 11) (k := 2) rfl i_Sy t_Sy t_Sy_ok n_Sy (by decide) wm_2101 rfl rfl
theorem gf_Ho_358 : gf_rule R_Ho 358 11 0 := gf_mk (ci := 11) rfl i_Sy (by decide) wm_2097 rfl
theorem pf_Ho_358 : pf_rule R_Ho 358 11 0 (.int) := pf_mk (ci := 11) (k := 0) rfl i_Sy t_Sy t_Sy_ok n_Sy (by decide) wm_2097 rfl rfl
theorem gf_Ho_361 : gf_rule R_Ho 361 0 14 := gf_mk (ci := 0) rfl i_Dr (by decide) wm_505 rfl
theorem gf_Ho_38 : gf_rule R_Ho 38 12 4 := gf_mk (ci := 12) rfl i_Ho (by decide) wm_559 rfl
theorem gf_Ho_384 : gf_rule R_Ho 384 0 4 := gf_mk (ci := 0) rfl i_Dr (by decide) wm_485 rfl
theorem gf_Ho_391 : gf_rule R_Ho 391 0 2 := gf_mk (ci := 0) rfl i_Dr (by decide) wm_474 rfl
theorem gf_Ho_397 : gf_rule R_Ho 397 0 3 := gf_mk (ci := 0) rfl i_Dr (by decide) wm_481 rfl
theorem gf_Ho_407 : gf_rule R_Ho 407 2 0 := gf_mk (ci := 2) rfl i_Fa (by decide) wm_395 rfl
theorem pf_Ho_407 : pf_rule R_Ho 407 2 0 (.boolean) := pf_mk (ci := 2) (k := 0) rfl i_Fa t_Fa t_Fa_ok n_Fa (by decide) wm_395 rfl rfl
theorem gf_Ho_45 : gf_rule R_Ho 45 12 5 := gf_mk (ci := 12) rfl i_Ho (by decide) wm_560 rfl
theorem gf_Ho_49 : gf_rule R_Ho 49 12 6 := gf_mk (ci := 12) rfl i_Ho (by decide) wm_561 rfl
theorem gf_Ho_53 : gf_rule R_Ho 53 12 7 := gf_mk (ci := 12) rfl i_Ho (by decide) wm_562 rfl
theorem pf_Ho_53 : pf_rule R_Ho 53 12 7 (.int) := pf_mk (ci := 12) (k := 7) rfl i_Ho t_Ho t_Ho_ok n_Ho (by decide) wm_562 rfl rfl
theorem gf_Ho_57 : gf_rule R_Ho 57 12 8 := gf_mk (ci := 12) rfl i_Ho (by decide) wm_563 rfl
theorem pf_Ho_57 : pf_rule R_Ho 57 12 8 (.int) := pf_mk (ci := 12) (k := 8) rfl i_Ho t_Ho t_Ho_ok n_Ho (by decide) wm_563 rfl rfl
theorem gf_Ho_60 : gf_rule R_Ho 60 12 9 := gf_mk (ci := 12) rfl i_Ho (by decide) wm_564 rfl
theorem pf_Ho_60 : pf_rule R_Ho 60 12 9 (.array .byte) := pf_mk (ci := 12) (k := 9) rfl i_Ho t_Ho t_Ho_ok n_Ho (by decide) wm_564 rfl rfl
theorem gf_Ho_64 : gf_rule R_Ho 64 12 10 := gf_mk (ci := 12) rfl i_Ho (by decide) wm_565 rfl
theorem pf_Ho_64 : pf_rule R_Ho 64 12 10 (.array .byte) := pf_mk (ci := 12) (k := 10) rfl i_Ho t_Ho t_Ho_ok n_Ho (by decide) wm_565 rfl rfl
theorem gf_Ho_67 : gf_rule R_Ho 67 12 11 := gf_mk (ci := 12) rfl i_Ho (by decide) wm_566 rfl
theorem pf_Ho_67 : pf_rule R_Ho 67 12 11 (.int) := pf_mk (ci := 12) (k := 11) rfl i_Ho t_Ho t_Ho_ok n_Ho (by decide) wm_566 rfl rfl
theorem gf_Ho_70 : gf_rule R_Ho 70 12 12 := gf_mk (ci := 12) rfl i_Ho (by decide) wm_567 rfl
theorem pf_Ho_70 : pf_rule R_Ho 70 12 12 (.int) := pf_mk (ci := 12) (k := 12) rfl i_Ho t_Ho t_Ho_ok n_Ho (by decide) wm_567 rfl rfl
theorem gf_Ho_73 : gf_rule R_Ho 73 12 13 := gf_mk (ci := 12) rfl i_Ho (by decide) wm_568 rfl
theorem gf_Ho_76 : gf_rule R_Ho 76 12 14 := gf_mk (ci := 12) rfl i_Ho (by decide) wm_569 rfl
theorem pf_Ho_76 : pf_rule R_Ho 76 12 14 (.int) := pf_mk (ci := 12) (k := 14) rfl i_Ho t_Ho t_Ho_ok n_Ho (by decide) wm_569 rfl rfl
theorem gf_Ho_79 : gf_rule R_Ho 79 12 15 := gf_mk (ci := 12) rfl i_Ho (by decide) wm_570 rfl
theorem pf_Ho_79 : pf_rule R_Ho 79 12 15 (.int) := pf_mk (ci := 12) (k := 15) rfl i_Ho t_Ho t_Ho_ok n_Ho (by decide) wm_570 rfl rfl
theorem gf_Ho_82 : gf_rule R_Ho 82 12 16 := gf_mk (ci := 12) rfl i_Ho (by decide) wm_571 rfl
theorem pf_Ho_82 : pf_rule R_Ho 82 12 16 (.object "DrawingHouse$Styler") := pf_mk (ci := 12) (k := 16) rfl i_Ho t_Ho t_Ho_ok n_Ho (by decide) wm_571 rfl rfl
theorem gf_Ho_86 : gf_rule R_Ho 86 12 17 := gf_mk (ci := 12) rfl i_Ho (by decide) wm_572 rfl
theorem pf_Ho_86 : pf_rule R_Ho 86 12 17 (.object "DrawingHouse$Layers") := pf_mk (ci := 12) (k := 17) rfl i_Ho t_Ho t_Ho_ok n_Ho (by decide) wm_572 rfl rfl
theorem gf_Ho_90 : gf_rule R_Ho 90 12 18 := gf_mk (ci := 12) rfl i_Ho (by decide) wm_573 rfl
theorem pf_Ho_90 : pf_rule R_Ho 90 12 18 (.object "DrawingHouse$PlanarWays") := pf_mk (ci := 12) (k := 18) rfl i_Ho t_Ho t_Ho_ok n_Ho (by decide) wm_573 rfl rfl
theorem gf_Ho_94 : gf_rule R_Ho 94 12 19 := gf_mk (ci := 12) rfl i_Ho (by decide) wm_574 rfl
theorem pf_Ho_94 : pf_rule R_Ho 94 12 19 (.object "DrawingHouse$PlainWays") := pf_mk (ci := 12) (k := 19) rfl i_Ho t_Ho t_Ho_ok n_Ho (by decide) wm_574 rfl rfl
theorem gf_Ho_98 : gf_rule R_Ho 98 12 20 := gf_mk (ci := 12) rfl i_Ho (by decide) wm_575 rfl
theorem pf_Ho_98 : pf_rule R_Ho 98 12 20 (.object "DrawingHouse$Router") := pf_mk (ci := 12) (k := 20) rfl i_Ho t_Ho t_Ho_ok n_Ho (by decide) wm_575 rfl rfl
theorem kx_Mo_1_447 : kt_rule R_Mo (kt_op 1 447).1 (kt_op 1 447).2 (.int (99999)) ∧ ∀ ta, tv_ok ta (0, 99999, 99999, []) (.int (99999)) := ⟨kt_e1 (w := 99999) wm_2993 (by decide), fun _ => Or.inl ⟨rfl, _, rfl, by decide, by decide⟩⟩
theorem kx_Mo_1_546 : kt_rule R_Mo (kt_op 1 546).1 (kt_op 1 546).2 (.int (1000000)) ∧ ∀ ta, tv_ok ta (0, 1000000, 1000000, []) (.int (1000000)) := ⟨kt_e1 (w := 1000000) wm_3183 (by decide), fun _ => Or.inl ⟨rfl, _, rfl, by decide, by decide⟩⟩
theorem kx_Mo_1_775 : kt_rule R_Mo (kt_op 1 775).1 (kt_op 1 775).2 (.int (Int32.ofInt (-2147483648))) ∧ ∀ ta, tv_ok ta (0, -2147483648, -2147483648, []) (.int (Int32.ofInt (-2147483648))) := ⟨kt_e1 (w := Int32.ofInt (-2147483648)) wm_3653 (by decide), fun _ => Or.inl ⟨rfl, _, rfl, by decide, by decide⟩⟩
theorem kx_Mo_1_776 : kt_rule R_Mo (kt_op 1 776).1 (kt_op 1 776).2 (.int (Int32.ofInt (-1000000))) ∧ ∀ ta, tv_ok ta (0, -1000000, -1000000, []) (.int (Int32.ofInt (-1000000))) := ⟨kt_e1 (w := Int32.ofInt (-1000000)) wm_3547 (by decide), fun _ => Or.inl ⟨rfl, _, rfl, by decide, by decide⟩⟩
theorem gf_Mo_102 : gf_rule R_Mo 102 13 52 := gf_mk (ci := 13) rfl i_Mo (by decide) wm_2484 rfl
theorem gf_Mo_1020 : gf_rule R_Mo 1020 13 139 := gf_mk (ci := 13) rfl i_Mo (by decide) wm_2571 rfl
theorem pf_Mo_1020 : pf_rule R_Mo 1020 13 139 (.int) := pf_mk (ci := 13) (k := 139) rfl i_Mo t_Mo t_Mo_ok n_Mo (by decide) wm_2571 rfl rfl
theorem gf_Mo_1037 : gf_rule R_Mo 1037 13 144 := gf_mk (ci := 13) rfl i_Mo (by decide) wm_2576 rfl
theorem pf_Mo_1037 : pf_rule R_Mo 1037 13 144 (.int) := pf_mk (ci := 13) (k := 144) rfl i_Mo t_Mo t_Mo_ok n_Mo (by decide) wm_2576 rfl rfl
theorem gf_Mo_1040 : gf_rule R_Mo 1040 13 145 := gf_mk (ci := 13) rfl i_Mo (by decide) wm_2577 rfl
theorem pf_Mo_1040 : pf_rule R_Mo 1040 13 145 (.int) := pf_mk (ci := 13) (k := 145) rfl i_Mo t_Mo t_Mo_ok n_Mo (by decide) wm_2577 rfl rfl
theorem gf_Mo_1043 : gf_rule R_Mo 1043 13 146 := gf_mk (ci := 13) rfl i_Mo (by decide) wm_2578 rfl
theorem pf_Mo_1043 : pf_rule R_Mo 1043 13 146 (.int) := pf_mk (ci := 13) (k := 146) rfl i_Mo t_Mo t_Mo_ok n_Mo (by decide) wm_2578 rfl rfl
theorem gf_Mo_1046 : gf_rule R_Mo 1046 13 147 := gf_mk (ci := 13) rfl i_Mo (by decide) wm_2579 rfl
theorem pf_Mo_1046 : pf_rule R_Mo 1046 13 147 (.int) := pf_mk (ci := 13) (k := 147) rfl i_Mo t_Mo t_Mo_ok n_Mo (by decide) wm_2579 rfl rfl
theorem gf_Mo_105 : gf_rule R_Mo 105 13 54 := gf_mk (ci := 13) rfl i_Mo (by decide) wm_2486 rfl
theorem gf_Mo_1079 : gf_rule R_Mo 1079 13 150 := gf_mk (ci := 13) rfl i_Mo (by decide) wm_2582 rfl
theorem pf_Mo_1079 : pf_rule R_Mo 1079 13 150 (.int) := pf_mk (ci := 13) (k := 150) rfl i_Mo t_Mo t_Mo_ok n_Mo (by decide) wm_2582 rfl rfl
theorem gf_Mo_108 : gf_rule R_Mo 108 13 55 := gf_mk (ci := 13) rfl i_Mo (by decide) wm_2487 rfl
theorem gf_Mo_111 : gf_rule R_Mo 111 13 56 := gf_mk (ci := 13) rfl i_Mo (by decide) wm_2488 rfl
theorem gf_Mo_114 : gf_rule R_Mo 114 13 57 := gf_mk (ci := 13) rfl i_Mo (by decide) wm_2489 rfl
theorem gf_Mo_1142 : gf_rule R_Mo 1142 13 153 := gf_mk (ci := 13) rfl i_Mo (by decide) wm_2585 rfl
theorem pf_Mo_1142 : pf_rule R_Mo 1142 13 153 (.int) := pf_mk (ci := 13) (k := 153) rfl i_Mo t_Mo t_Mo_ok n_Mo (by decide) wm_2585 rfl rfl
theorem gf_Mo_1145 : gf_rule R_Mo 1145 13 154 := gf_mk (ci := 13) rfl i_Mo (by decide) wm_2586 rfl
theorem pf_Mo_1145 : pf_rule R_Mo 1145 13 154 (.int) := pf_mk (ci := 13) (k := 154) rfl i_Mo t_Mo t_Mo_ok n_Mo (by decide) wm_2586 rfl rfl
theorem gf_Mo_1148 : gf_rule R_Mo 1148 13 155 := gf_mk (ci := 13) rfl i_Mo (by decide) wm_2587 rfl
theorem pf_Mo_1148 : pf_rule R_Mo 1148 13 155 (.int) := pf_mk (ci := 13) (k := 155) rfl i_Mo t_Mo t_Mo_ok n_Mo (by decide) wm_2587 rfl rfl
theorem gf_Mo_1151 : gf_rule R_Mo 1151 13 156 := gf_mk (ci := 13) rfl i_Mo (by decide) wm_2588 rfl
theorem pf_Mo_1151 : pf_rule R_Mo 1151 13 156 (.int) := pf_mk (ci := 13) (k := 156) rfl i_Mo t_Mo t_Mo_ok n_Mo (by decide) wm_2588 rfl rfl
theorem gf_Mo_1160 : gf_rule R_Mo 1160 13 157 := gf_mk (ci := 13) rfl i_Mo (by decide) wm_2589 rfl
theorem pf_Mo_1160 : pf_rule R_Mo 1160 13 157 (.int) := pf_mk (ci := 13) (k := 157) rfl i_Mo t_Mo t_Mo_ok n_Mo (by decide) wm_2589 rfl rfl
theorem gf_Mo_1169 : gf_rule R_Mo 1169 13 158 := gf_mk (ci := 13) rfl i_Mo (by decide) wm_2590 rfl
theorem pf_Mo_1169 : pf_rule R_Mo 1169 13 158 (.int) := pf_mk (ci := 13) (k := 158) rfl i_Mo t_Mo t_Mo_ok n_Mo (by decide) wm_2590 rfl rfl
theorem gf_Mo_117 : gf_rule R_Mo 117 13 60 := gf_mk (ci := 13) rfl i_Mo (by decide) wm_2492 rfl
theorem gf_Mo_1175 : gf_rule R_Mo 1175 13 159 := gf_mk (ci := 13) rfl i_Mo (by decide) wm_2591 rfl
theorem pf_Mo_1175 : pf_rule R_Mo 1175 13 159 (.int) := pf_mk (ci := 13) (k := 159) rfl i_Mo t_Mo t_Mo_ok n_Mo (by decide) wm_2591 rfl rfl
theorem gf_Mo_1181 : gf_rule R_Mo 1181 13 165 := gf_mk (ci := 13) rfl i_Mo (by decide) wm_2597 rfl
theorem pf_Mo_1181 : pf_rule R_Mo 1181 13 165 (.int) := pf_mk (ci := 13) (k := 165) rfl i_Mo t_Mo t_Mo_ok n_Mo (by decide) wm_2597 rfl rfl
theorem gf_Mo_1195 : gf_rule R_Mo 1195 13 164 := gf_mk (ci := 13) rfl i_Mo (by decide) wm_2596 rfl
theorem pf_Mo_1195 : pf_rule R_Mo 1195 13 164 (.int) := pf_mk (ci := 13) (k := 164) rfl i_Mo t_Mo t_Mo_ok n_Mo (by decide) wm_2596 rfl rfl
theorem gf_Mo_120 : gf_rule R_Mo 120 13 61 := gf_mk (ci := 13) rfl i_Mo (by decide) wm_2493 rfl
theorem gf_Mo_123 : gf_rule R_Mo 123 13 62 := gf_mk (ci := 13) rfl i_Mo (by decide) wm_2494 rfl
theorem gf_Mo_126 : gf_rule R_Mo 126 13 63 := gf_mk (ci := 13) rfl i_Mo (by decide) wm_2495 rfl
theorem gf_Mo_1277 : gf_rule R_Mo 1277 13 170 := gf_mk (ci := 13) rfl i_Mo (by decide) wm_2602 rfl
theorem pf_Mo_1277 : pf_rule R_Mo 1277 13 170 (.int) := pf_mk (ci := 13) (k := 170) rfl i_Mo t_Mo t_Mo_ok n_Mo (by decide) wm_2602 rfl rfl
theorem gf_Mo_129 : gf_rule R_Mo 129 13 64 := gf_mk (ci := 13) rfl i_Mo (by decide) wm_2496 rfl
theorem gf_Mo_132 : gf_rule R_Mo 132 13 65 := gf_mk (ci := 13) rfl i_Mo (by decide) wm_2497 rfl
theorem gf_Mo_1326 : gf_rule R_Mo 1326 13 169 := gf_mk (ci := 13) rfl i_Mo (by decide) wm_2601 rfl
theorem pf_Mo_1326 : pf_rule R_Mo 1326 13 169 (.int) := pf_mk (ci := 13) (k := 169) rfl i_Mo t_Mo t_Mo_ok n_Mo (by decide) wm_2601 rfl rfl
theorem gf_Mo_1329 : gf_rule R_Mo 1329 13 173 := gf_mk (ci := 13) rfl i_Mo (by decide) wm_2605 rfl
theorem pf_Mo_1329 : pf_rule R_Mo 1329 13 173 (.int) := pf_mk (ci := 13) (k := 173) rfl i_Mo t_Mo t_Mo_ok n_Mo (by decide) wm_2605 rfl rfl
theorem gf_Mo_1332 : gf_rule R_Mo 1332 13 174 := gf_mk (ci := 13) rfl i_Mo (by decide) wm_2606 rfl
theorem pf_Mo_1332 : pf_rule R_Mo 1332 13 174 (.int) := pf_mk (ci := 13) (k := 174) rfl i_Mo t_Mo t_Mo_ok n_Mo (by decide) wm_2606 rfl rfl
theorem gf_Mo_135 : gf_rule R_Mo 135 13 66 := gf_mk (ci := 13) rfl i_Mo (by decide) wm_2498 rfl
theorem gf_Mo_138 : gf_rule R_Mo 138 13 67 := gf_mk (ci := 13) rfl i_Mo (by decide) wm_2499 rfl
theorem gf_Mo_141 : gf_rule R_Mo 141 13 68 := gf_mk (ci := 13) rfl i_Mo (by decide) wm_2500 rfl
theorem gf_Mo_144 : gf_rule R_Mo 144 13 69 := gf_mk (ci := 13) rfl i_Mo (by decide) wm_2501 rfl
theorem gf_Mo_147 : gf_rule R_Mo 147 13 70 := gf_mk (ci := 13) rfl i_Mo (by decide) wm_2502 rfl
theorem gf_Mo_150 : gf_rule R_Mo 150 13 71 := gf_mk (ci := 13) rfl i_Mo (by decide) wm_2503 rfl
theorem gf_Mo_153 : gf_rule R_Mo 153 13 72 := gf_mk (ci := 13) rfl i_Mo (by decide) wm_2504 rfl
theorem gf_Mo_156 : gf_rule R_Mo 156 13 73 := gf_mk (ci := 13) rfl i_Mo (by decide) wm_2505 rfl
theorem gf_Mo_159 : gf_rule R_Mo 159 13 74 := gf_mk (ci := 13) rfl i_Mo (by decide) wm_2506 rfl
theorem gf_Mo_16 : gf_rule R_Mo 16 13 2 := gf_mk (ci := 13) rfl i_Mo (by decide) wm_2435 rfl
theorem gf_Mo_162 : gf_rule R_Mo 162 13 75 := gf_mk (ci := 13) rfl i_Mo (by decide) wm_2507 rfl
theorem gf_Mo_165 : gf_rule R_Mo 165 13 76 := gf_mk (ci := 13) rfl i_Mo (by decide) wm_2508 rfl
theorem gf_Mo_168 : gf_rule R_Mo 168 13 77 := gf_mk (ci := 13) rfl i_Mo (by decide) wm_2509 rfl
theorem gf_Mo_171 : gf_rule R_Mo 171 13 78 := gf_mk (ci := 13) rfl i_Mo (by decide) wm_2510 rfl
theorem gf_Mo_174 : gf_rule R_Mo 174 13 82 := gf_mk (ci := 13) rfl i_Mo (by decide) wm_2514 rfl
theorem gf_Mo_177 : gf_rule R_Mo 177 13 83 := gf_mk (ci := 13) rfl i_Mo (by decide) wm_2515 rfl
theorem gf_Mo_180 : gf_rule R_Mo 180 13 84 := gf_mk (ci := 13) rfl i_Mo (by decide) wm_2516 rfl
theorem gf_Mo_183 : gf_rule R_Mo 183 13 85 := gf_mk (ci := 13) rfl i_Mo (by decide) wm_2517 rfl
theorem gf_Mo_186 : gf_rule R_Mo 186 13 86 := gf_mk (ci := 13) rfl i_Mo (by decide) wm_2518 rfl
theorem gf_Mo_189 : gf_rule R_Mo 189 13 87 := gf_mk (ci := 13) rfl i_Mo (by decide) wm_2519 rfl
theorem gf_Mo_192 : gf_rule R_Mo 192 13 88 := gf_mk (ci := 13) rfl i_Mo (by decide) wm_2520 rfl
theorem gf_Mo_195 : gf_rule R_Mo 195 13 89 := gf_mk (ci := 13) rfl i_Mo (by decide) wm_2521 rfl
theorem gf_Mo_198 : gf_rule R_Mo 198 13 90 := gf_mk (ci := 13) rfl i_Mo (by decide) wm_2522 rfl
theorem gf_Mo_20 : gf_rule R_Mo 20 13 3 := gf_mk (ci := 13) rfl i_Mo (by decide) wm_2436 rfl
theorem gf_Mo_201 : gf_rule R_Mo 201 13 91 := gf_mk (ci := 13) rfl i_Mo (by decide) wm_2523 rfl
theorem gf_Mo_204 : gf_rule R_Mo 204 13 92 := gf_mk (ci := 13) rfl i_Mo (by decide) wm_2524 rfl
theorem gf_Mo_207 : gf_rule R_Mo 207 13 93 := gf_mk (ci := 13) rfl i_Mo (by decide) wm_2525 rfl
theorem gf_Mo_210 : gf_rule R_Mo 210 13 95 := gf_mk (ci := 13) rfl i_Mo (by decide) wm_2527 rfl
theorem gf_Mo_213 : gf_rule R_Mo 213 13 96 := gf_mk (ci := 13) rfl i_Mo (by decide) wm_2528 rfl
theorem gf_Mo_216 : gf_rule R_Mo 216 13 97 := gf_mk (ci := 13) rfl i_Mo (by decide) wm_2529 rfl
theorem gf_Mo_219 : gf_rule R_Mo 219 13 98 := gf_mk (ci := 13) rfl i_Mo (by decide) wm_2530 rfl
theorem gf_Mo_222 : gf_rule R_Mo 222 13 102 := gf_mk (ci := 13) rfl i_Mo (by decide) wm_2534 rfl
theorem gf_Mo_225 : gf_rule R_Mo 225 13 103 := gf_mk (ci := 13) rfl i_Mo (by decide) wm_2535 rfl
theorem gf_Mo_228 : gf_rule R_Mo 228 13 104 := gf_mk (ci := 13) rfl i_Mo (by decide) wm_2536 rfl
theorem gf_Mo_23 : gf_rule R_Mo 23 13 4 := gf_mk (ci := 13) rfl i_Mo (by decide) wm_2437 rfl
theorem gf_Mo_231 : gf_rule R_Mo 231 13 105 := gf_mk (ci := 13) rfl i_Mo (by decide) wm_2537 rfl
theorem gf_Mo_234 : gf_rule R_Mo 234 13 106 := gf_mk (ci := 13) rfl i_Mo (by decide) wm_2538 rfl
theorem gf_Mo_237 : gf_rule R_Mo 237 13 108 := gf_mk (ci := 13) rfl i_Mo (by decide) wm_2540 rfl
theorem gf_Mo_240 : gf_rule R_Mo 240 13 109 := gf_mk (ci := 13) rfl i_Mo (by decide) wm_2541 rfl
theorem gf_Mo_243 : gf_rule R_Mo 243 13 110 := gf_mk (ci := 13) rfl i_Mo (by decide) wm_2542 rfl
theorem gf_Mo_246 : gf_rule R_Mo 246 13 111 := gf_mk (ci := 13) rfl i_Mo (by decide) wm_2543 rfl
theorem gf_Mo_249 : gf_rule R_Mo 249 13 112 := gf_mk (ci := 13) rfl i_Mo (by decide) wm_2544 rfl
theorem gf_Mo_253 : gf_rule R_Mo 253 13 113 := gf_mk (ci := 13) rfl i_Mo (by decide) wm_2545 rfl
theorem gf_Mo_256 : gf_rule R_Mo 256 13 114 := gf_mk (ci := 13) rfl i_Mo (by decide) wm_2546 rfl
theorem gf_Mo_259 : gf_rule R_Mo 259 13 115 := gf_mk (ci := 13) rfl i_Mo (by decide) wm_2547 rfl
theorem gf_Mo_26 : gf_rule R_Mo 26 13 6 := gf_mk (ci := 13) rfl i_Mo (by decide) wm_2439 rfl
theorem gf_Mo_262 : gf_rule R_Mo 262 13 116 := gf_mk (ci := 13) rfl i_Mo (by decide) wm_2548 rfl
theorem gf_Mo_265 : gf_rule R_Mo 265 13 117 := gf_mk (ci := 13) rfl i_Mo (by decide) wm_2549 rfl
theorem gf_Mo_268 : gf_rule R_Mo 268 13 118 := gf_mk (ci := 13) rfl i_Mo (by decide) wm_2550 rfl
theorem gf_Mo_271 : gf_rule R_Mo 271 13 119 := gf_mk (ci := 13) rfl i_Mo (by decide) wm_2551 rfl
theorem gf_Mo_275 : gf_rule R_Mo 275 13 120 := gf_mk (ci := 13) rfl i_Mo (by decide) wm_2552 rfl
theorem gf_Mo_278 : gf_rule R_Mo 278 13 122 := gf_mk (ci := 13) rfl i_Mo (by decide) wm_2554 rfl
theorem gf_Mo_281 : gf_rule R_Mo 281 13 123 := gf_mk (ci := 13) rfl i_Mo (by decide) wm_2555 rfl
theorem gf_Mo_284 : gf_rule R_Mo 284 13 124 := gf_mk (ci := 13) rfl i_Mo (by decide) wm_2556 rfl
theorem gf_Mo_287 : gf_rule R_Mo 287 13 126 := gf_mk (ci := 13) rfl i_Mo (by decide) wm_2558 rfl
theorem gf_Mo_29 : gf_rule R_Mo 29 13 16 := gf_mk (ci := 13) rfl i_Mo (by decide) wm_2449 rfl
theorem gf_Mo_290 : gf_rule R_Mo 290 13 127 := gf_mk (ci := 13) rfl i_Mo (by decide) wm_2559 rfl
theorem gf_Mo_293 : gf_rule R_Mo 293 13 128 := gf_mk (ci := 13) rfl i_Mo (by decide) wm_2560 rfl
theorem gf_Mo_296 : gf_rule R_Mo 296 13 129 := gf_mk (ci := 13) rfl i_Mo (by decide) wm_2561 rfl
theorem gf_Mo_299 : gf_rule R_Mo 299 13 130 := gf_mk (ci := 13) rfl i_Mo (by decide) wm_2562 rfl
theorem gf_Mo_302 : gf_rule R_Mo 302 13 131 := gf_mk (ci := 13) rfl i_Mo (by decide) wm_2563 rfl
theorem gf_Mo_305 : gf_rule R_Mo 305 13 135 := gf_mk (ci := 13) rfl i_Mo (by decide) wm_2567 rfl
theorem gf_Mo_308 : gf_rule R_Mo 308 13 136 := gf_mk (ci := 13) rfl i_Mo (by decide) wm_2568 rfl
theorem gf_Mo_311 : gf_rule R_Mo 311 13 137 := gf_mk (ci := 13) rfl i_Mo (by decide) wm_2569 rfl
theorem gf_Mo_314 : gf_rule R_Mo 314 13 138 := gf_mk (ci := 13) rfl i_Mo (by decide) wm_2570 rfl
theorem gf_Mo_317 : gf_rule R_Mo 317 13 140 := gf_mk (ci := 13) rfl i_Mo (by decide) wm_2572 rfl
theorem gf_Mo_32 : gf_rule R_Mo 32 13 17 := gf_mk (ci := 13) rfl i_Mo (by decide) wm_2450 rfl
theorem gf_Mo_321 : gf_rule R_Mo 321 13 141 := gf_mk (ci := 13) rfl i_Mo (by decide) wm_2573 rfl
theorem gf_Mo_324 : gf_rule R_Mo 324 13 142 := gf_mk (ci := 13) rfl i_Mo (by decide) wm_2574 rfl
theorem gf_Mo_327 : gf_rule R_Mo 327 13 143 := gf_mk (ci := 13) rfl i_Mo (by decide) wm_2575 rfl
theorem gf_Mo_330 : gf_rule R_Mo 330 13 148 := gf_mk (ci := 13) rfl i_Mo (by decide) wm_2580 rfl
theorem gf_Mo_333 : gf_rule R_Mo 333 13 149 := gf_mk (ci := 13) rfl i_Mo (by decide) wm_2581 rfl
theorem gf_Mo_336 : gf_rule R_Mo 336 13 151 := gf_mk (ci := 13) rfl i_Mo (by decide) wm_2583 rfl
theorem gf_Mo_339 : gf_rule R_Mo 339 13 152 := gf_mk (ci := 13) rfl i_Mo (by decide) wm_2584 rfl
theorem gf_Mo_342 : gf_rule R_Mo 342 13 160 := gf_mk (ci := 13) rfl i_Mo (by decide) wm_2592 rfl
theorem gf_Mo_345 : gf_rule R_Mo 345 13 161 := gf_mk (ci := 13) rfl i_Mo (by decide) wm_2593 rfl
theorem gf_Mo_348 : gf_rule R_Mo 348 13 162 := gf_mk (ci := 13) rfl i_Mo (by decide) wm_2594 rfl
theorem gf_Mo_35 : gf_rule R_Mo 35 13 18 := gf_mk (ci := 13) rfl i_Mo (by decide) wm_2451 rfl
theorem gf_Mo_351 : gf_rule R_Mo 351 13 163 := gf_mk (ci := 13) rfl i_Mo (by decide) wm_2595 rfl
theorem gf_Mo_354 : gf_rule R_Mo 354 13 166 := gf_mk (ci := 13) rfl i_Mo (by decide) wm_2598 rfl
theorem gf_Mo_357 : gf_rule R_Mo 357 13 167 := gf_mk (ci := 13) rfl i_Mo (by decide) wm_2599 rfl
theorem gf_Mo_360 : gf_rule R_Mo 360 13 168 := gf_mk (ci := 13) rfl i_Mo (by decide) wm_2600 rfl
theorem gf_Mo_363 : gf_rule R_Mo 363 13 171 := gf_mk (ci := 13) rfl i_Mo (by decide) wm_2603 rfl
theorem gf_Mo_366 : gf_rule R_Mo 366 13 172 := gf_mk (ci := 13) rfl i_Mo (by decide) wm_2604 rfl
theorem gf_Mo_369 : gf_rule R_Mo 369 13 175 := gf_mk (ci := 13) rfl i_Mo (by decide) wm_2607 rfl
theorem gf_Mo_38 : gf_rule R_Mo 38 13 19 := gf_mk (ci := 13) rfl i_Mo (by decide) wm_2452 rfl
theorem gf_Mo_383 : gf_rule R_Mo 383 13 0 := gf_mk (ci := 13) rfl i_Mo (by decide) wm_2433 rfl
theorem pf_Mo_383 : pf_rule R_Mo 383 13 0 (.int) := pf_mk (ci := 13) (k := 0) rfl i_Mo t_Mo t_Mo_ok n_Mo (by decide) wm_2433 rfl rfl
theorem gf_Mo_391 : gf_rule R_Mo 391 13 5 := gf_mk (ci := 13) rfl i_Mo (by decide) wm_2438 rfl
theorem pf_Mo_391 : pf_rule R_Mo 391 13 5 (.int) := pf_mk (ci := 13) (k := 5) rfl i_Mo t_Mo t_Mo_ok n_Mo (by decide) wm_2438 rfl rfl
theorem gf_Mo_409 : gf_rule R_Mo 409 13 7 := gf_mk (ci := 13) rfl i_Mo (by decide) wm_2440 rfl
theorem pf_Mo_409 : pf_rule R_Mo 409 13 7 (.boolean) := pf_mk (ci := 13) (k := 7) rfl i_Mo t_Mo t_Mo_ok n_Mo (by decide) wm_2440 rfl rfl
theorem gf_Mo_41 : gf_rule R_Mo 41 13 20 := gf_mk (ci := 13) rfl i_Mo (by decide) wm_2453 rfl
theorem gf_Mo_413 : gf_rule R_Mo 413 13 8 := gf_mk (ci := 13) rfl i_Mo (by decide) wm_2441 rfl
theorem pf_Mo_413 : pf_rule R_Mo 413 13 8 (.int) := pf_mk (ci := 13) (k := 8) rfl i_Mo t_Mo t_Mo_ok n_Mo (by decide) wm_2441 rfl rfl
theorem gf_Mo_416 : gf_rule R_Mo 416 13 9 := gf_mk (ci := 13) rfl i_Mo (by decide) wm_2442 rfl
theorem pf_Mo_416 : pf_rule R_Mo 416 13 9 (.int) := pf_mk (ci := 13) (k := 9) rfl i_Mo t_Mo t_Mo_ok n_Mo (by decide) wm_2442 rfl rfl
theorem gf_Mo_419 : gf_rule R_Mo 419 13 10 := gf_mk (ci := 13) rfl i_Mo (by decide) wm_2443 rfl
theorem pf_Mo_419 : pf_rule R_Mo 419 13 10 (.int) := pf_mk (ci := 13) (k := 10) rfl i_Mo t_Mo t_Mo_ok n_Mo (by decide) wm_2443 rfl rfl
theorem gf_Mo_422 : gf_rule R_Mo 422 13 11 := gf_mk (ci := 13) rfl i_Mo (by decide) wm_2444 rfl
theorem pf_Mo_422 : pf_rule R_Mo 422 13 11 (.int) := pf_mk (ci := 13) (k := 11) rfl i_Mo t_Mo t_Mo_ok n_Mo (by decide) wm_2444 rfl rfl
theorem gf_Mo_428 : gf_rule R_Mo 428 13 13 := gf_mk (ci := 13) rfl i_Mo (by decide) wm_2446 rfl
theorem pf_Mo_428 : pf_rule R_Mo 428 13 13 (.int) := pf_mk (ci := 13) (k := 13) rfl i_Mo t_Mo t_Mo_ok n_Mo (by decide) wm_2446 rfl rfl
theorem gf_Mo_431 : gf_rule R_Mo 431 13 15 := gf_mk (ci := 13) rfl i_Mo (by decide) wm_2448 rfl
theorem pf_Mo_431 : pf_rule R_Mo 431 13 15 (.int) := pf_mk (ci := 13) (k := 15) rfl i_Mo t_Mo t_Mo_ok n_Mo (by decide) wm_2448 rfl rfl
theorem gf_Mo_434 : gf_rule R_Mo 434 13 12 := gf_mk (ci := 13) rfl i_Mo (by decide) wm_2445 rfl
theorem pf_Mo_434 : pf_rule R_Mo 434 13 12 (.int) := pf_mk (ci := 13) (k := 12) rfl i_Mo t_Mo t_Mo_ok n_Mo (by decide) wm_2445 rfl rfl
theorem gf_Mo_437 : gf_rule R_Mo 437 13 14 := gf_mk (ci := 13) rfl i_Mo (by decide) wm_2447 rfl
theorem pf_Mo_437 : pf_rule R_Mo 437 13 14 (.int) := pf_mk (ci := 13) (k := 14) rfl i_Mo t_Mo t_Mo_ok n_Mo (by decide) wm_2447 rfl rfl
theorem gf_Mo_44 : gf_rule R_Mo 44 13 21 := gf_mk (ci := 13) rfl i_Mo (by decide) wm_2454 rfl
theorem gf_Mo_48 : gf_rule R_Mo 48 13 22 := gf_mk (ci := 13) rfl i_Mo (by decide) wm_2455 rfl
theorem gf_Mo_51 : gf_rule R_Mo 51 13 23 := gf_mk (ci := 13) rfl i_Mo (by decide) wm_2456 rfl
theorem gf_Mo_54 : gf_rule R_Mo 54 13 24 := gf_mk (ci := 13) rfl i_Mo (by decide) wm_2457 rfl
theorem gf_Mo_566 : gf_rule R_Mo 566 13 28 := gf_mk (ci := 13) rfl i_Mo (by decide) wm_2461 rfl
theorem pf_Mo_566 : pf_rule R_Mo 566 13 28 (.int) := pf_mk (ci := 13) (k := 28) rfl i_Mo t_Mo t_Mo_ok n_Mo (by decide) wm_2461 rfl rfl
theorem gf_Mo_569 : gf_rule R_Mo 569 13 29 := gf_mk (ci := 13) rfl i_Mo (by decide) wm_2462 rfl
theorem pf_Mo_569 : pf_rule R_Mo 569 13 29 (.int) := pf_mk (ci := 13) (k := 29) rfl i_Mo t_Mo t_Mo_ok n_Mo (by decide) wm_2462 rfl rfl
theorem gf_Mo_57 : gf_rule R_Mo 57 13 33 := gf_mk (ci := 13) rfl i_Mo (by decide) wm_2466 rfl
theorem gf_Mo_572 : gf_rule R_Mo 572 13 27 := gf_mk (ci := 13) rfl i_Mo (by decide) wm_2460 rfl
theorem pf_Mo_572 : pf_rule R_Mo 572 13 27 (.int) := pf_mk (ci := 13) (k := 27) rfl i_Mo t_Mo t_Mo_ok n_Mo (by decide) wm_2460 rfl rfl
theorem gf_Mo_575 : gf_rule R_Mo 575 13 30 := gf_mk (ci := 13) rfl i_Mo (by decide) wm_2463 rfl
theorem pf_Mo_575 : pf_rule R_Mo 575 13 30 (.boolean) := pf_mk (ci := 13) (k := 30) rfl i_Mo t_Mo t_Mo_ok n_Mo (by decide) wm_2463 rfl rfl
theorem gf_Mo_581 : gf_rule R_Mo 581 13 25 := gf_mk (ci := 13) rfl i_Mo (by decide) wm_2458 rfl
theorem pf_Mo_581 : pf_rule R_Mo 581 13 25 (.boolean) := pf_mk (ci := 13) (k := 25) rfl i_Mo t_Mo t_Mo_ok n_Mo (by decide) wm_2458 rfl rfl
theorem gf_Mo_584 : gf_rule R_Mo 584 13 26 := gf_mk (ci := 13) rfl i_Mo (by decide) wm_2459 rfl
theorem pf_Mo_584 : pf_rule R_Mo 584 13 26 (.int) := pf_mk (ci := 13) (k := 26) rfl i_Mo t_Mo t_Mo_ok n_Mo (by decide) wm_2459 rfl rfl
theorem gf_Mo_594 : gf_rule R_Mo 594 13 31 := gf_mk (ci := 13) rfl i_Mo (by decide) wm_2464 rfl
theorem pf_Mo_594 : pf_rule R_Mo 594 13 31 (.int) := pf_mk (ci := 13) (k := 31) rfl i_Mo t_Mo t_Mo_ok n_Mo (by decide) wm_2464 rfl rfl
theorem gf_Mo_597 : gf_rule R_Mo 597 13 32 := gf_mk (ci := 13) rfl i_Mo (by decide) wm_2465 rfl
theorem pf_Mo_597 : pf_rule R_Mo 597 13 32 (.int) := pf_mk (ci := 13) (k := 32) rfl i_Mo t_Mo t_Mo_ok n_Mo (by decide) wm_2465 rfl rfl
theorem gf_Mo_60 : gf_rule R_Mo 60 13 34 := gf_mk (ci := 13) rfl i_Mo (by decide) wm_2467 rfl
theorem gf_Mo_612 : gf_rule R_Mo 612 13 39 := gf_mk (ci := 13) rfl i_Mo (by decide) wm_2472 rfl
theorem pf_Mo_612 : pf_rule R_Mo 612 13 39 (.int) := pf_mk (ci := 13) (k := 39) rfl i_Mo t_Mo t_Mo_ok n_Mo (by decide) wm_2472 rfl rfl
theorem gf_Mo_619 : gf_rule R_Mo 619 13 45 := gf_mk (ci := 13) rfl i_Mo (by decide) wm_2478 rfl
theorem pf_Mo_619 : pf_rule R_Mo 619 13 45 (.int) := pf_mk (ci := 13) (k := 45) rfl i_Mo t_Mo t_Mo_ok n_Mo (by decide) wm_2478 rfl rfl
theorem gf_Mo_63 : gf_rule R_Mo 63 13 35 := gf_mk (ci := 13) rfl i_Mo (by decide) wm_2468 rfl
theorem gf_Mo_649 : gf_rule R_Mo 649 13 49 := gf_mk (ci := 13) rfl i_Mo (by decide) wm_2481 rfl
theorem pf_Mo_649 : pf_rule R_Mo 649 13 49 (.int) := pf_mk (ci := 13) (k := 49) rfl i_Mo t_Mo t_Mo_ok n_Mo (by decide) wm_2481 rfl rfl
theorem gf_Mo_66 : gf_rule R_Mo 66 13 36 := gf_mk (ci := 13) rfl i_Mo (by decide) wm_2469 rfl
theorem gf_Mo_683 : gf_rule R_Mo 683 13 53 := gf_mk (ci := 13) rfl i_Mo (by decide) wm_2485 rfl
theorem pf_Mo_683 : pf_rule R_Mo 683 13 53 (.int) := pf_mk (ci := 13) (k := 53) rfl i_Mo t_Mo t_Mo_ok n_Mo (by decide) wm_2485 rfl rfl
theorem gf_Mo_69 : gf_rule R_Mo 69 13 37 := gf_mk (ci := 13) rfl i_Mo (by decide) wm_2470 rfl
theorem gf_Mo_695 : gf_rule R_Mo 695 13 58 := gf_mk (ci := 13) rfl i_Mo (by decide) wm_2490 rfl
theorem pf_Mo_695 : pf_rule R_Mo 695 13 58 (.int) := pf_mk (ci := 13) (k := 58) rfl i_Mo t_Mo t_Mo_ok n_Mo (by decide) wm_2490 rfl rfl
theorem gf_Mo_698 : gf_rule R_Mo 698 13 59 := gf_mk (ci := 13) rfl i_Mo (by decide) wm_2491 rfl
theorem pf_Mo_698 : pf_rule R_Mo 698 13 59 (.int) := pf_mk (ci := 13) (k := 59) rfl i_Mo t_Mo t_Mo_ok n_Mo (by decide) wm_2491 rfl rfl
theorem gf_Mo_72 : gf_rule R_Mo 72 13 38 := gf_mk (ci := 13) rfl i_Mo (by decide) wm_2471 rfl
theorem gf_Mo_75 : gf_rule R_Mo 75 13 40 := gf_mk (ci := 13) rfl i_Mo (by decide) wm_2473 rfl
theorem gf_Mo_777 : gf_rule R_Mo 777 13 80 := gf_mk (ci := 13) rfl i_Mo (by decide) wm_2512 rfl
theorem pf_Mo_777 : pf_rule R_Mo 777 13 80 (.int) := pf_mk (ci := 13) (k := 80) rfl i_Mo t_Mo t_Mo_ok n_Mo (by decide) wm_2512 rfl rfl
theorem gf_Mo_78 : gf_rule R_Mo 78 13 41 := gf_mk (ci := 13) rfl i_Mo (by decide) wm_2474 rfl
theorem gf_Mo_780 : gf_rule R_Mo 780 13 81 := gf_mk (ci := 13) rfl i_Mo (by decide) wm_2513 rfl
theorem pf_Mo_780 : pf_rule R_Mo 780 13 81 (.int) := pf_mk (ci := 13) (k := 81) rfl i_Mo t_Mo t_Mo_ok n_Mo (by decide) wm_2513 rfl rfl
theorem gf_Mo_783 : gf_rule R_Mo 783 13 79 := gf_mk (ci := 13) rfl i_Mo (by decide) wm_2511 rfl
theorem pf_Mo_783 : pf_rule R_Mo 783 13 79 (.int) := pf_mk (ci := 13) (k := 79) rfl i_Mo t_Mo t_Mo_ok n_Mo (by decide) wm_2511 rfl rfl
theorem gf_Mo_792 : gf_rule R_Mo 792 13 94 := gf_mk (ci := 13) rfl i_Mo (by decide) wm_2526 rfl
theorem pf_Mo_792 : pf_rule R_Mo 792 13 94 (.int) := pf_mk (ci := 13) (k := 94) rfl i_Mo t_Mo t_Mo_ok n_Mo (by decide) wm_2526 rfl rfl
theorem gf_Mo_795 : gf_rule R_Mo 795 13 99 := gf_mk (ci := 13) rfl i_Mo (by decide) wm_2531 rfl
theorem pf_Mo_795 : pf_rule R_Mo 795 13 99 (.int) := pf_mk (ci := 13) (k := 99) rfl i_Mo t_Mo t_Mo_ok n_Mo (by decide) wm_2531 rfl rfl
theorem gf_Mo_81 : gf_rule R_Mo 81 13 42 := gf_mk (ci := 13) rfl i_Mo (by decide) wm_2475 rfl
theorem gf_Mo_84 : gf_rule R_Mo 84 13 43 := gf_mk (ci := 13) rfl i_Mo (by decide) wm_2476 rfl
theorem gf_Mo_844 : gf_rule R_Mo 844 13 100 := gf_mk (ci := 13) rfl i_Mo (by decide) wm_2532 rfl
theorem pf_Mo_844 : pf_rule R_Mo 844 13 100 (.int) := pf_mk (ci := 13) (k := 100) rfl i_Mo t_Mo t_Mo_ok n_Mo (by decide) wm_2532 rfl rfl
theorem gf_Mo_847 : gf_rule R_Mo 847 13 107 := gf_mk (ci := 13) rfl i_Mo (by decide) wm_2539 rfl
theorem pf_Mo_847 : pf_rule R_Mo 847 13 107 (.int) := pf_mk (ci := 13) (k := 107) rfl i_Mo t_Mo t_Mo_ok n_Mo (by decide) wm_2539 rfl rfl
theorem gf_Mo_852 : gf_rule R_Mo 852 13 101 := gf_mk (ci := 13) rfl i_Mo (by decide) wm_2533 rfl
theorem pf_Mo_852 : pf_rule R_Mo 852 13 101 (.int) := pf_mk (ci := 13) (k := 101) rfl i_Mo t_Mo t_Mo_ok n_Mo (by decide) wm_2533 rfl rfl
theorem gf_Mo_87 : gf_rule R_Mo 87 13 44 := gf_mk (ci := 13) rfl i_Mo (by decide) wm_2477 rfl
theorem gf_Mo_9 : gf_rule R_Mo 9 13 1 := gf_mk (ci := 13) rfl i_Mo (by decide) wm_2434 rfl
theorem gf_Mo_90 : gf_rule R_Mo 90 13 46 := gf_mk (ci := 13) rfl i_Mo (by decide) wm_2479 rfl
theorem gf_Mo_904 : gf_rule R_Mo 904 13 121 := gf_mk (ci := 13) rfl i_Mo (by decide) wm_2553 rfl
theorem pf_Mo_904 : pf_rule R_Mo 904 13 121 (.int) := pf_mk (ci := 13) (k := 121) rfl i_Mo t_Mo t_Mo_ok n_Mo (by decide) wm_2553 rfl rfl
theorem gf_Mo_93 : gf_rule R_Mo 93 13 48 := gf_mk (ci := 13) rfl i_Mo (by decide) wm_2480 rfl
theorem gf_Mo_936 : gf_rule R_Mo 936 13 125 := gf_mk (ci := 13) rfl i_Mo (by decide) wm_2557 rfl
theorem pf_Mo_936 : pf_rule R_Mo 936 13 125 (.int) := pf_mk (ci := 13) (k := 125) rfl i_Mo t_Mo t_Mo_ok n_Mo (by decide) wm_2557 rfl rfl
theorem gf_Mo_96 : gf_rule R_Mo 96 13 50 := gf_mk (ci := 13) rfl i_Mo (by decide) wm_2482 rfl
theorem gf_Mo_971 : gf_rule R_Mo 971 13 132 := gf_mk (ci := 13) rfl i_Mo (by decide) wm_2564 rfl
theorem pf_Mo_971 : pf_rule R_Mo 971 13 132 (.int) := pf_mk (ci := 13) (k := 132) rfl i_Mo t_Mo t_Mo_ok n_Mo (by decide) wm_2564 rfl rfl
theorem gf_Mo_977 : gf_rule R_Mo 977 13 133 := gf_mk (ci := 13) rfl i_Mo (by decide) wm_2565 rfl
theorem pf_Mo_977 : pf_rule R_Mo 977 13 133 (.long) := pf_mk (ci := 13) (k := 133) rfl i_Mo t_Mo t_Mo_ok n_Mo (by decide) wm_2565 rfl rfl
theorem gf_Mo_981 : gf_rule R_Mo 981 13 134 := gf_mk (ci := 13) rfl i_Mo (by decide) wm_2566 rfl
theorem pf_Mo_981 : pf_rule R_Mo 981 13 134 (.long) := pf_mk (ci := 13) (k := 134) rfl i_Mo t_Mo t_Mo_ok n_Mo (by decide) wm_2566 rfl rfl
theorem gf_Mo_99 : gf_rule R_Mo 99 13 51 := gf_mk (ci := 13) rfl i_Mo (by decide) wm_2483 rfl
theorem kx_jInt_1_265 : kt_rule "java/lang/Integer" (kt_op 1 265).1 (kt_op 1 265).2 (.int (1431655765)) ∧ ∀ ta, tv_ok ta (0, 1431655765, 1431655765, []) (.int (1431655765)) := ⟨kt_e1 (w := 1431655765) wm_871 (by decide), fun _ => Or.inl ⟨rfl, _, rfl, by decide, by decide⟩⟩
theorem kx_jInt_1_266 : kt_rule "java/lang/Integer" (kt_op 1 266).1 (kt_op 1 266).2 (.int (858993459)) ∧ ∀ ta, tv_ok ta (0, 858993459, 858993459, []) (.int (858993459)) := ⟨kt_e1 (w := 858993459) wm_872 (by decide), fun _ => Or.inl ⟨rfl, _, rfl, by decide, by decide⟩⟩
theorem kx_jInt_1_267 : kt_rule "java/lang/Integer" (kt_op 1 267).1 (kt_op 1 267).2 (.int (252645135)) ∧ ∀ ta, tv_ok ta (0, 252645135, 252645135, []) (.int (252645135)) := ⟨kt_e1 (w := 252645135) wm_873 (by decide), fun _ => Or.inl ⟨rfl, _, rfl, by decide, by decide⟩⟩
