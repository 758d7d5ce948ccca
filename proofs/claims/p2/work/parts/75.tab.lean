theorem wm_9 : (Cond.initialized "DrawingHouseModel" : Cond) ∈ lw_g := lw_gi (lw_c1 (List.mem_of_getElem? (i := 9) rfl)) rfl
theorem wm_56 : (Cond.fieldLink "DrawingHouse$Graph" (9 : Nat) "DrawingHouse$Graph" "nodes" "I" : Cond) ∈ lw_g := lw_gi (lw_c1 (List.mem_of_getElem? (i := 56) rfl)) rfl
theorem wm_57 : (Cond.fieldLink "DrawingHouse$Facts" (64 : Nat) "DrawingHouse$Graph" "nodes" "I" : Cond) ∈ lw_g := lw_gi (lw_c1 (List.mem_of_getElem? (i := 57) rfl)) rfl
theorem wm_58 : (Cond.fieldLink "DrawingHouse$PlanarWays" (47 : Nat) "DrawingHouse$Graph" "nodes" "I" : Cond) ∈ lw_g := lw_gi (lw_c1 (List.mem_of_getElem? (i := 58) rfl)) rfl
theorem wm_59 : (Cond.fieldLink "DrawingHouse$PlainWays" (74 : Nat) "DrawingHouse$Graph" "nodes" "I" : Cond) ∈ lw_g := lw_gi (lw_c1 (List.mem_of_getElem? (i := 59) rfl)) rfl
theorem wm_60 : (Cond.fieldLink "DrawingHouse$Embedder" (88 : Nat) "DrawingHouse$Graph" "nodes" "I" : Cond) ∈ lw_g := lw_gi (lw_c1 (List.mem_of_getElem? (i := 60) rfl)) rfl
theorem wm_61 : (Cond.fieldLink "DrawingHouse$Router" (108 : Nat) "DrawingHouse$Graph" "nodes" "I" : Cond) ∈ lw_g := lw_gi (lw_c1 (List.mem_of_getElem? (i := 61) rfl)) rfl
theorem wm_62 : (Cond.fieldLink "DrawingHouse" (132 : Nat) "DrawingHouse$Graph" "nodes" "I" : Cond) ∈ lw_g := lw_gi (lw_c1 (List.mem_of_getElem? (i := 62) rfl)) rfl
theorem wm_63 : (Cond.fieldLink "DrawingHouse$Net" (70 : Nat) "DrawingHouse$Graph" "nodes" "I" : Cond) ∈ lw_g := lw_gi (lw_c1 (List.mem_of_getElem? (i := 63) rfl)) rfl
theorem wm_64 : (Cond.fieldLink "DrawingHouse$Layers" (139 : Nat) "DrawingHouse$Graph" "nodes" "I" : Cond) ∈ lw_g := lw_gi (lw_c1 (List.mem_of_getElem? (i := 64) rfl)) rfl
theorem wm_65 : (Cond.fieldLink "DrawingHouse$Reader" (120 : Nat) "DrawingHouse$Graph" "nodes" "I" : Cond) ∈ lw_g := lw_gi (lw_c1 (List.mem_of_getElem? (i := 65) rfl)) rfl
theorem wm_66 : (Cond.fieldLink "DrawingHouse$Drawing" (141 : Nat) "DrawingHouse$Graph" "nodes" "I" : Cond) ∈ lw_g := lw_gi (lw_c1 (List.mem_of_getElem? (i := 66) rfl)) rfl
theorem wm_67 : (Cond.fieldLink "DrawingHouse$Styler" (172 : Nat) "DrawingHouse$Graph" "nodes" "I" : Cond) ∈ lw_g := lw_gi (lw_c1 (List.mem_of_getElem? (i := 67) rfl)) rfl
theorem wm_68 : (Cond.fieldLink "DrawingHouse$Graph" (15 : Nat) "DrawingHouse$Graph" "edges" "I" : Cond) ∈ lw_g := lw_gi (lw_c1 (List.mem_of_getElem? (i := 68) rfl)) rfl
theorem wm_69 : (Cond.fieldLink "DrawingHouse$Facts" (69 : Nat) "DrawingHouse$Graph" "edges" "I" : Cond) ∈ lw_g := lw_gi (lw_c1 (List.mem_of_getElem? (i := 69) rfl)) rfl
theorem wm_70 : (Cond.fieldLink "DrawingHouse$PlainWays" (79 : Nat) "DrawingHouse$Graph" "edges" "I" : Cond) ∈ lw_g := lw_gi (lw_c1 (List.mem_of_getElem? (i := 70) rfl)) rfl
theorem wm_71 : (Cond.fieldLink "DrawingHouse$Embedder" (99 : Nat) "DrawingHouse$Graph" "edges" "I" : Cond) ∈ lw_g := lw_gi (lw_c1 (List.mem_of_getElem? (i := 71) rfl)) rfl
theorem wm_72 : (Cond.fieldLink "DrawingHouse$Net" (77 : Nat) "DrawingHouse$Graph" "edges" "I" : Cond) ∈ lw_g := lw_gi (lw_c1 (List.mem_of_getElem? (i := 72) rfl)) rfl
theorem wm_73 : (Cond.fieldLink "DrawingHouse" (141 : Nat) "DrawingHouse$Graph" "edges" "I" : Cond) ∈ lw_g := lw_gi (lw_c1 (List.mem_of_getElem? (i := 73) rfl)) rfl
theorem wm_74 : (Cond.fieldLink "DrawingHouse$Layers" (146 : Nat) "DrawingHouse$Graph" "edges" "I" : Cond) ∈ lw_g := lw_gi (lw_c1 (List.mem_of_getElem? (i := 74) rfl)) rfl
theorem wm_75 : (Cond.fieldLink "DrawingHouse$PlanarWays" (203 : Nat) "DrawingHouse$Graph" "edges" "I" : Cond) ∈ lw_g := lw_gi (lw_c1 (List.mem_of_getElem? (i := 75) rfl)) rfl
theorem wm_76 : (Cond.fieldLink "DrawingHouse$Reader" (156 : Nat) "DrawingHouse$Graph" "edges" "I" : Cond) ∈ lw_g := lw_gi (lw_c1 (List.mem_of_getElem? (i := 76) rfl)) rfl
theorem wm_77 : (Cond.fieldLink "DrawingHouse$Drawing" (151 : Nat) "DrawingHouse$Graph" "edges" "I" : Cond) ∈ lw_g := lw_gi (lw_c1 (List.mem_of_getElem? (i := 77) rfl)) rfl
theorem wm_78 : (Cond.fieldLink "DrawingHouse$Styler" (185 : Nat) "DrawingHouse$Graph" "edges" "I" : Cond) ∈ lw_g := lw_gi (lw_c1 (List.mem_of_getElem? (i := 78) rfl)) rfl
theorem wm_79 : (Cond.fieldLink "DrawingHouse$Graph" (18 : Nat) "DrawingHouse$Graph" "groups" "I" : Cond) ∈ lw_g := lw_gi (lw_c1 (List.mem_of_getElem? (i := 79) rfl)) rfl
theorem wm_80 : (Cond.fieldLink "DrawingHouse" (144 : Nat) "DrawingHouse$Graph" "groups" "I" : Cond) ∈ lw_g := lw_gi (lw_c1 (List.mem_of_getElem? (i := 80) rfl)) rfl
theorem wm_81 : (Cond.fieldLink "DrawingHouse$PlainWays" (166 : Nat) "DrawingHouse$Graph" "groups" "I" : Cond) ∈ lw_g := lw_gi (lw_c1 (List.mem_of_getElem? (i := 81) rfl)) rfl
theorem wm_82 : (Cond.fieldLink "DrawingHouse$Reader" (138 : Nat) "DrawingHouse$Graph" "groups" "I" : Cond) ∈ lw_g := lw_gi (lw_c1 (List.mem_of_getElem? (i := 82) rfl)) rfl
theorem wm_83 : (Cond.fieldLink "DrawingHouse$Graph" (21 : Nat) "DrawingHouse$Graph" "name" "[B" : Cond) ∈ lw_g := lw_gi (lw_c1 (List.mem_of_getElem? (i := 83) rfl)) rfl
theorem wm_84 : (Cond.fieldLink "DrawingHouse" (230 : Nat) "DrawingHouse$Graph" "name" "[B" : Cond) ∈ lw_g := lw_gi (lw_c1 (List.mem_of_getElem? (i := 84) rfl)) rfl
theorem wm_85 : (Cond.fieldLink "DrawingHouse$Graph" (25 : Nat) "DrawingHouse$Graph" "nameLength" "[I" : Cond) ∈ lw_g := lw_gi (lw_c1 (List.mem_of_getElem? (i := 85) rfl)) rfl
theorem wm_86 : (Cond.fieldLink "DrawingHouse" (169 : Nat) "DrawingHouse$Graph" "nameLength" "[I" : Cond) ∈ lw_g := lw_gi (lw_c1 (List.mem_of_getElem? (i := 86) rfl)) rfl
theorem wm_87 : (Cond.fieldLink "DrawingHouse$Graph" (29 : Nat) "DrawingHouse$Graph" "size" "[I" : Cond) ∈ lw_g := lw_gi (lw_c1 (List.mem_of_getElem? (i := 87) rfl)) rfl
theorem wm_88 : (Cond.fieldLink "DrawingHouse" (172 : Nat) "DrawingHouse$Graph" "size" "[I" : Cond) ∈ lw_g := lw_gi (lw_c1 (List.mem_of_getElem? (i := 88) rfl)) rfl
theorem wm_89 : (Cond.fieldLink "DrawingHouse$PlainWays" (194 : Nat) "DrawingHouse$Graph" "size" "[I" : Cond) ∈ lw_g := lw_gi (lw_c1 (List.mem_of_getElem? (i := 89) rfl)) rfl
theorem wm_90 : (Cond.fieldLink "DrawingHouse$Reader" (136 : Nat) "DrawingHouse$Graph" "size" "[I" : Cond) ∈ lw_g := lw_gi (lw_c1 (List.mem_of_getElem? (i := 90) rfl)) rfl
theorem wm_91 : (Cond.fieldLink "DrawingHouse$Styler" (208 : Nat) "DrawingHouse$Graph" "size" "[I" : Cond) ∈ lw_g := lw_gi (lw_c1 (List.mem_of_getElem? (i := 91) rfl)) rfl
theorem wm_92 : (Cond.fieldLink "DrawingHouse$Graph" (32 : Nat) "DrawingHouse$Graph" "groupOf" "[I" : Cond) ∈ lw_g := lw_gi (lw_c1 (List.mem_of_getElem? (i := 92) rfl)) rfl
theorem wm_93 : (Cond.fieldLink "DrawingHouse" (175 : Nat) "DrawingHouse$Graph" "groupOf" "[I" : Cond) ∈ lw_g := lw_gi (lw_c1 (List.mem_of_getElem? (i := 93) rfl)) rfl
theorem wm_94 : (Cond.fieldLink "DrawingHouse$PlainWays" (191 : Nat) "DrawingHouse$Graph" "groupOf" "[I" : Cond) ∈ lw_g := lw_gi (lw_c1 (List.mem_of_getElem? (i := 94) rfl)) rfl
theorem wm_95 : (Cond.fieldLink "DrawingHouse$Styler" (211 : Nat) "DrawingHouse$Graph" "groupOf" "[I" : Cond) ∈ lw_g := lw_gi (lw_c1 (List.mem_of_getElem? (i := 95) rfl)) rfl
theorem wm_96 : (Cond.fieldLink "DrawingHouse$Graph" (35 : Nat) "DrawingHouse$Graph" "tail" "[I" : Cond) ∈ lw_g := lw_gi (lw_c1 (List.mem_of_getElem? (i := 96) rfl)) rfl
theorem wm_97 : (Cond.fieldLink "DrawingHouse$Facts" (72 : Nat) "DrawingHouse$Graph" "tail" "[I" : Cond) ∈ lw_g := lw_gi (lw_c1 (List.mem_of_getElem? (i := 97) rfl)) rfl
theorem wm_98 : (Cond.fieldLink "DrawingHouse$Router" (75 : Nat) "DrawingHouse$Graph" "tail" "[I" : Cond) ∈ lw_g := lw_gi (lw_c1 (List.mem_of_getElem? (i := 98) rfl)) rfl
theorem wm_99 : (Cond.fieldLink "DrawingHouse$Net" (78 : Nat) "DrawingHouse$Graph" "tail" "[I" : Cond) ∈ lw_g := lw_gi (lw_c1 (List.mem_of_getElem? (i := 99) rfl)) rfl
theorem wm_100 : (Cond.fieldLink "DrawingHouse$Embedder" (127 : Nat) "DrawingHouse$Graph" "tail" "[I" : Cond) ∈ lw_g := lw_gi (lw_c1 (List.mem_of_getElem? (i := 100) rfl)) rfl
theorem wm_101 : (Cond.fieldLink "DrawingHouse$Layers" (136 : Nat) "DrawingHouse$Graph" "tail" "[I" : Cond) ∈ lw_g := lw_gi (lw_c1 (List.mem_of_getElem? (i := 101) rfl)) rfl
theorem wm_102 : (Cond.fieldLink "DrawingHouse" (200 : Nat) "DrawingHouse$Graph" "tail" "[I" : Cond) ∈ lw_g := lw_gi (lw_c1 (List.mem_of_getElem? (i := 102) rfl)) rfl
theorem wm_103 : (Cond.fieldLink "DrawingHouse$Drawing" (106 : Nat) "DrawingHouse$Graph" "tail" "[I" : Cond) ∈ lw_g := lw_gi (lw_c1 (List.mem_of_getElem? (i := 103) rfl)) rfl
theorem wm_104 : (Cond.fieldLink "DrawingHouse$PlanarWays" (214 : Nat) "DrawingHouse$Graph" "tail" "[I" : Cond) ∈ lw_g := lw_gi (lw_c1 (List.mem_of_getElem? (i := 104) rfl)) rfl
theorem wm_105 : (Cond.fieldLink "DrawingHouse$Styler" (194 : Nat) "DrawingHouse$Graph" "tail" "[I" : Cond) ∈ lw_g := lw_gi (lw_c1 (List.mem_of_getElem? (i := 105) rfl)) rfl
theorem wm_106 : (Cond.fieldLink "DrawingHouse$PlainWays" (265 : Nat) "DrawingHouse$Graph" "tail" "[I" : Cond) ∈ lw_g := lw_gi (lw_c1 (List.mem_of_getElem? (i := 106) rfl)) rfl
theorem wm_107 : (Cond.fieldLink "DrawingHouse$Graph" (38 : Nat) "DrawingHouse$Graph" "head" "[I" : Cond) ∈ lw_g := lw_gi (lw_c1 (List.mem_of_getElem? (i := 107) rfl)) rfl
theorem wm_108 : (Cond.fieldLink "DrawingHouse$Facts" (75 : Nat) "DrawingHouse$Graph" "head" "[I" : Cond) ∈ lw_g := lw_gi (lw_c1 (List.mem_of_getElem? (i := 108) rfl)) rfl
theorem wm_109 : (Cond.fieldLink "DrawingHouse$Router" (80 : Nat) "DrawingHouse$Graph" "head" "[I" : Cond) ∈ lw_g := lw_gi (lw_c1 (List.mem_of_getElem? (i := 109) rfl)) rfl
theorem wm_110 : (Cond.fieldLink "DrawingHouse$Net" (79 : Nat) "DrawingHouse$Graph" "head" "[I" : Cond) ∈ lw_g := lw_gi (lw_c1 (List.mem_of_getElem? (i := 110) rfl)) rfl
theorem wm_111 : (Cond.fieldLink "DrawingHouse$Embedder" (130 : Nat) "DrawingHouse$Graph" "head" "[I" : Cond) ∈ lw_g := lw_gi (lw_c1 (List.mem_of_getElem? (i := 111) rfl)) rfl
theorem wm_112 : (Cond.fieldLink "DrawingHouse$Layers" (131 : Nat) "DrawingHouse$Graph" "head" "[I" : Cond) ∈ lw_g := lw_gi (lw_c1 (List.mem_of_getElem? (i := 112) rfl)) rfl
theorem wm_113 : (Cond.fieldLink "DrawingHouse" (203 : Nat) "DrawingHouse$Graph" "head" "[I" : Cond) ∈ lw_g := lw_gi (lw_c1 (List.mem_of_getElem? (i := 113) rfl)) rfl
theorem wm_114 : (Cond.fieldLink "DrawingHouse$Drawing" (109 : Nat) "DrawingHouse$Graph" "head" "[I" : Cond) ∈ lw_g := lw_gi (lw_c1 (List.mem_of_getElem? (i := 114) rfl)) rfl
theorem wm_115 : (Cond.fieldLink "DrawingHouse$PlanarWays" (218 : Nat) "DrawingHouse$Graph" "head" "[I" : Cond) ∈ lw_g := lw_gi (lw_c1 (List.mem_of_getElem? (i := 115) rfl)) rfl
theorem wm_116 : (Cond.fieldLink "DrawingHouse$Styler" (191 : Nat) "DrawingHouse$Graph" "head" "[I" : Cond) ∈ lw_g := lw_gi (lw_c1 (List.mem_of_getElem? (i := 116) rfl)) rfl
theorem wm_117 : (Cond.fieldLink "DrawingHouse$PlainWays" (268 : Nat) "DrawingHouse$Graph" "head" "[I" : Cond) ∈ lw_g := lw_gi (lw_c1 (List.mem_of_getElem? (i := 117) rfl)) rfl
theorem wm_118 : (Cond.fieldLink "DrawingHouse$Graph" (41 : Nat) "DrawingHouse$Graph" "weight" "[I" : Cond) ∈ lw_g := lw_gi (lw_c1 (List.mem_of_getElem? (i := 118) rfl)) rfl
theorem wm_119 : (Cond.fieldLink "DrawingHouse" (206 : Nat) "DrawingHouse$Graph" "weight" "[I" : Cond) ∈ lw_g := lw_gi (lw_c1 (List.mem_of_getElem? (i := 119) rfl)) rfl
theorem wm_120 : (Cond.fieldLink "DrawingHouse$Layers" (156 : Nat) "DrawingHouse$Graph" "weight" "[I" : Cond) ∈ lw_g := lw_gi (lw_c1 (List.mem_of_getElem? (i := 120) rfl)) rfl
theorem wm_121 : (Cond.fieldLink "DrawingHouse$Drawing" (121 : Nat) "DrawingHouse$Graph" "weight" "[I" : Cond) ∈ lw_g := lw_gi (lw_c1 (List.mem_of_getElem? (i := 121) rfl)) rfl
theorem wm_122 : (Cond.fieldLink "DrawingHouse$Reader" (168 : Nat) "DrawingHouse$Graph" "weight" "[I" : Cond) ∈ lw_g := lw_gi (lw_c1 (List.mem_of_getElem? (i := 122) rfl)) rfl
theorem wm_123 : (Cond.fieldLink "DrawingHouse$Facts" (169 : Nat) "DrawingHouse$Graph" "weight" "[I" : Cond) ∈ lw_g := lw_gi (lw_c1 (List.mem_of_getElem? (i := 123) rfl)) rfl
theorem wm_124 : (Cond.fieldLink "DrawingHouse$Styler" (234 : Nat) "DrawingHouse$Graph" "weight" "[I" : Cond) ∈ lw_g := lw_gi (lw_c1 (List.mem_of_getElem? (i := 124) rfl)) rfl
theorem wm_125 : (Cond.fieldLink "DrawingHouse$PlainWays" (256 : Nat) "DrawingHouse$Graph" "weight" "[I" : Cond) ∈ lw_g := lw_gi (lw_c1 (List.mem_of_getElem? (i := 125) rfl)) rfl
theorem wm_126 : (Cond.fieldLink "DrawingHouse$Graph" (44 : Nat) "DrawingHouse$Graph" "oneWay" "[I" : Cond) ∈ lw_g := lw_gi (lw_c1 (List.mem_of_getElem? (i := 126) rfl)) rfl
theorem wm_127 : (Cond.fieldLink "DrawingHouse" (209 : Nat) "DrawingHouse$Graph" "oneWay" "[I" : Cond) ∈ lw_g := lw_gi (lw_c1 (List.mem_of_getElem? (i := 127) rfl)) rfl
theorem wm_128 : (Cond.fieldLink "DrawingHouse$Facts" (145 : Nat) "DrawingHouse$Graph" "oneWay" "[I" : Cond) ∈ lw_g := lw_gi (lw_c1 (List.mem_of_getElem? (i := 128) rfl)) rfl
theorem wm_129 : (Cond.fieldLink "DrawingHouse$Styler" (247 : Nat) "DrawingHouse$Graph" "oneWay" "[I" : Cond) ∈ lw_g := lw_gi (lw_c1 (List.mem_of_getElem? (i := 129) rfl)) rfl
theorem wm_130 : (Cond.fieldLink "DrawingHouse$Graph" (47 : Nat) "DrawingHouse$Graph" "within" "[I" : Cond) ∈ lw_g := lw_gi (lw_c1 (List.mem_of_getElem? (i := 130) rfl)) rfl
theorem wm_131 : (Cond.fieldLink "DrawingHouse" (221 : Nat) "DrawingHouse$Graph" "within" "[I" : Cond) ∈ lw_g := lw_gi (lw_c1 (List.mem_of_getElem? (i := 131) rfl)) rfl
theorem wm_132 : (Cond.fieldLink "DrawingHouse$PlainWays" (184 : Nat) "DrawingHouse$Graph" "within" "[I" : Cond) ∈ lw_g := lw_gi (lw_c1 (List.mem_of_getElem? (i := 132) rfl)) rfl
theorem wm_133 : (Cond.fieldLink "DrawingHouse$Reader" (141 : Nat) "DrawingHouse$Graph" "within" "[I" : Cond) ∈ lw_g := lw_gi (lw_c1 (List.mem_of_getElem? (i := 133) rfl)) rfl
theorem wm_134 : (Cond.fieldLink "DrawingHouse$Graph" (50 : Nat) "DrawingHouse$Graph" "groupName" "[B" : Cond) ∈ lw_g := lw_gi (lw_c1 (List.mem_of_getElem? (i := 134) rfl)) rfl
theorem wm_135 : (Cond.fieldLink "DrawingHouse" (233 : Nat) "DrawingHouse$Graph" "groupName" "[B" : Cond) ∈ lw_g := lw_gi (lw_c1 (List.mem_of_getElem? (i := 135) rfl)) rfl
theorem wm_136 : (Cond.fieldLink "DrawingHouse$Reader" (147 : Nat) "DrawingHouse$Graph" "groupName" "[B" : Cond) ∈ lw_g := lw_gi (lw_c1 (List.mem_of_getElem? (i := 136) rfl)) rfl
theorem wm_137 : (Cond.fieldLink "DrawingHouse$Graph" (53 : Nat) "DrawingHouse$Graph" "groupNameLength" "[I" : Cond) ∈ lw_g := lw_gi (lw_c1 (List.mem_of_getElem? (i := 137) rfl)) rfl
theorem wm_138 : (Cond.fieldLink "DrawingHouse" (224 : Nat) "DrawingHouse$Graph" "groupNameLength" "[I" : Cond) ∈ lw_g := lw_gi (lw_c1 (List.mem_of_getElem? (i := 138) rfl)) rfl
theorem wm_139 : (Cond.fieldLink "DrawingHouse$Reader" (144 : Nat) "DrawingHouse$Graph" "groupNameLength" "[I" : Cond) ∈ lw_g := lw_gi (lw_c1 (List.mem_of_getElem? (i := 139) rfl)) rfl
theorem wm_140 : (Cond.fieldLink "DrawingHouse$Graph" (56 : Nat) "DrawingHouse$Graph" "near" "[I" : Cond) ∈ lw_g := lw_gi (lw_c1 (List.mem_of_getElem? (i := 140) rfl)) rfl
theorem wm_141 : (Cond.fieldLink "DrawingHouse$Facts" (78 : Nat) "DrawingHouse$Graph" "near" "[I" : Cond) ∈ lw_g := lw_gi (lw_c1 (List.mem_of_getElem? (i := 141) rfl)) rfl
theorem wm_142 : (Cond.fieldLink "DrawingHouse$PlainWays" (138 : Nat) "DrawingHouse$Graph" "near" "[I" : Cond) ∈ lw_g := lw_gi (lw_c1 (List.mem_of_getElem? (i := 142) rfl)) rfl
theorem wm_143 : (Cond.fieldLink "DrawingHouse" (178 : Nat) "DrawingHouse$Graph" "near" "[I" : Cond) ∈ lw_g := lw_gi (lw_c1 (List.mem_of_getElem? (i := 143) rfl)) rfl
theorem wm_144 : (Cond.fieldLink "DrawingHouse$PlanarWays" (219 : Nat) "DrawingHouse$Graph" "near" "[I" : Cond) ∈ lw_g := lw_gi (lw_c1 (List.mem_of_getElem? (i := 144) rfl)) rfl
theorem wm_145 : (Cond.fieldLink "DrawingHouse$Styler" (200 : Nat) "DrawingHouse$Graph" "near" "[I" : Cond) ∈ lw_g := lw_gi (lw_c1 (List.mem_of_getElem? (i := 145) rfl)) rfl
theorem wm_146 : (Cond.fieldLink "DrawingHouse$Drawing" (217 : Nat) "DrawingHouse$Graph" "near" "[I" : Cond) ∈ lw_g := lw_gi (lw_c1 (List.mem_of_getElem? (i := 146) rfl)) rfl
theorem wm_147 : (Cond.fieldLink "DrawingHouse$Graph" (59 : Nat) "DrawingHouse$Graph" "link" "[I" : Cond) ∈ lw_g := lw_gi (lw_c1 (List.mem_of_getElem? (i := 147) rfl)) rfl
theorem wm_148 : (Cond.fieldLink "DrawingHouse$Graph" (62 : Nat) "DrawingHouse$Graph" "past" "[I" : Cond) ∈ lw_g := lw_gi (lw_c1 (List.mem_of_getElem? (i := 148) rfl)) rfl
theorem wm_149 : (Cond.fieldLink "DrawingHouse$Graph" (65 : Nat) "DrawingHouse$Graph" "done" "I" : Cond) ∈ lw_g := lw_gi (lw_c1 (List.mem_of_getElem? (i := 149) rfl)) rfl
theorem wm_150 : (Cond.fieldLink "DrawingHouse" (160 : Nat) "DrawingHouse$Graph" "done" "I" : Cond) ∈ lw_g := lw_gi (lw_c1 (List.mem_of_getElem? (i := 150) rfl)) rfl
theorem wm_151 : (Cond.fieldLink "DrawingHouse$Graph" (68 : Nat) "DrawingHouse$Graph" "undone" "I" : Cond) ∈ lw_g := lw_gi (lw_c1 (List.mem_of_getElem? (i := 151) rfl)) rfl
theorem wm_152 : (Cond.fieldLink "DrawingHouse" (163 : Nat) "DrawingHouse$Graph" "undone" "I" : Cond) ∈ lw_g := lw_gi (lw_c1 (List.mem_of_getElem? (i := 152) rfl)) rfl
theorem wm_194 : (Cond.fieldLink "DrawingHouse$Reader" (9 : Nat) "DrawingHouse$Reader" "tape" "[B" : Cond) ∈ lw_g := lw_gi (lw_c1 (List.mem_of_getElem? (i := 194) rfl)) rfl
theorem wm_195 : (Cond.fieldLink "DrawingHouse" (345 : Nat) "DrawingHouse$Reader" "tape" "[B" : Cond) ∈ lw_g := lw_gi (lw_c1 (List.mem_of_getElem? (i := 195) rfl)) rfl
theorem wm_196 : (Cond.fieldLink "DrawingHouse$Reader" (15 : Nat) "DrawingHouse$Reader" "length" "I" : Cond) ∈ lw_g := lw_gi (lw_c1 (List.mem_of_getElem? (i := 196) rfl)) rfl
theorem wm_197 : (Cond.fieldLink "DrawingHouse" (108 : Nat) "DrawingHouse$Reader" "length" "I" : Cond) ∈ lw_g := lw_gi (lw_c1 (List.mem_of_getElem? (i := 197) rfl)) rfl
theorem wm_198 : (Cond.fieldLink "DrawingHouse$Reader" (19 : Nat) "DrawingHouse$Reader" "fault" "I" : Cond) ∈ lw_g := lw_gi (lw_c1 (List.mem_of_getElem? (i := 198) rfl)) rfl
theorem wm_199 : (Cond.fieldLink "DrawingHouse" (135 : Nat) "DrawingHouse$Reader" "fault" "I" : Cond) ∈ lw_g := lw_gi (lw_c1 (List.mem_of_getElem? (i := 199) rfl)) rfl
theorem wm_200 : (Cond.fieldLink "DrawingHouse$Reader" (22 : Nat) "DrawingHouse$Reader" "faultPlace" "I" : Cond) ∈ lw_g := lw_gi (lw_c1 (List.mem_of_getElem? (i := 200) rfl)) rfl
theorem wm_201 : (Cond.fieldLink "DrawingHouse" (138 : Nat) "DrawingHouse$Reader" "faultPlace" "I" : Cond) ∈ lw_g := lw_gi (lw_c1 (List.mem_of_getElem? (i := 201) rfl)) rfl
theorem wm_202 : (Cond.fieldLink "DrawingHouse$Reader" (28 : Nat) "DrawingHouse$Reader" "graph" "LDrawingHouse$Graph;" : Cond) ∈ lw_g := lw_gi (lw_c1 (List.mem_of_getElem? (i := 202) rfl)) rfl
theorem wm_203 : (Cond.fieldLink "DrawingHouse" (122 : Nat) "DrawingHouse$Reader" "graph" "LDrawingHouse$Graph;" : Cond) ∈ lw_g := lw_gi (lw_c1 (List.mem_of_getElem? (i := 203) rfl)) rfl
theorem wm_204 : (Cond.fieldLink "DrawingHouse$Reader" (32 : Nat) "DrawingHouse$Reader" "end" "I" : Cond) ∈ lw_g := lw_gi (lw_c1 (List.mem_of_getElem? (i := 204) rfl)) rfl
theorem wm_205 : (Cond.fieldLink "DrawingHouse$Reader" (35 : Nat) "DrawingHouse$Reader" "next" "I" : Cond) ∈ lw_g := lw_gi (lw_c1 (List.mem_of_getElem? (i := 205) rfl)) rfl
theorem wm_206 : (Cond.fieldLink "DrawingHouse$Reader" (38 : Nat) "DrawingHouse$Reader" "kind" "I" : Cond) ∈ lw_g := lw_gi (lw_c1 (List.mem_of_getElem? (i := 206) rfl)) rfl
theorem wm_207 : (Cond.fieldLink "DrawingHouse$Reader" (41 : Nat) "DrawingHouse$Reader" "begin" "I" : Cond) ∈ lw_g := lw_gi (lw_c1 (List.mem_of_getElem? (i := 207) rfl)) rfl
theorem wm_208 : (Cond.fieldLink "DrawingHouse$Reader" (44 : Nat) "DrawingHouse$Reader" "number" "I" : Cond) ∈ lw_g := lw_gi (lw_c1 (List.mem_of_getElem? (i := 208) rfl)) rfl
theorem wm_209 : (Cond.fieldLink "DrawingHouse$Reader" (47 : Nat) "DrawingHouse$Reader" "open" "[I" : Cond) ∈ lw_g := lw_gi (lw_c1 (List.mem_of_getElem? (i := 209) rfl)) rfl
theorem wm_210 : (Cond.fieldLink "DrawingHouse$Reader" (51 : Nat) "DrawingHouse$Reader" "depth" "I" : Cond) ∈ lw_g := lw_gi (lw_c1 (List.mem_of_getElem? (i := 210) rfl)) rfl
theorem wm_248 : (Cond.fieldLink "DrawingHouse$Net" (9 : Nat) "DrawingHouse$Net" "planar" "I" : Cond) ∈ lw_g := lw_gi (lw_c2 (List.mem_of_getElem? (i := 8) rfl)) rfl
theorem wm_249 : (Cond.fieldLink "DrawingHouse$PlanarWays" (44 : Nat) "DrawingHouse$Net" "planar" "I" : Cond) ∈ lw_g := lw_gi (lw_c2 (List.mem_of_getElem? (i := 9) rfl)) rfl
theorem wm_250 : (Cond.fieldLink "DrawingHouse" (265 : Nat) "DrawingHouse$Net" "planar" "I" : Cond) ∈ lw_g := lw_gi (lw_c2 (List.mem_of_getElem? (i := 10) rfl)) rfl
theorem wm_251 : (Cond.fieldLink "DrawingHouse$Net" (15 : Nat) "DrawingHouse$Net" "outer" "I" : Cond) ∈ lw_g := lw_gi (lw_c2 (List.mem_of_getElem? (i := 11) rfl)) rfl
theorem wm_252 : (Cond.fieldLink "DrawingHouse$Embedder" (78 : Nat) "DrawingHouse$Net" "outer" "I" : Cond) ∈ lw_g := lw_gi (lw_c2 (List.mem_of_getElem? (i := 12) rfl)) rfl
theorem wm_253 : (Cond.fieldLink "DrawingHouse$Net" (18 : Nat) "DrawingHouse$Net" "kind" "I" : Cond) ∈ lw_g := lw_gi (lw_c2 (List.mem_of_getElem? (i := 13) rfl)) rfl
theorem wm_254 : (Cond.fieldLink "DrawingHouse$Embedder" (111 : Nat) "DrawingHouse$Net" "kind" "I" : Cond) ∈ lw_g := lw_gi (lw_c2 (List.mem_of_getElem? (i := 14) rfl)) rfl
theorem wm_255 : (Cond.fieldLink "DrawingHouse" (275 : Nat) "DrawingHouse$Net" "kind" "I" : Cond) ∈ lw_g := lw_gi (lw_c2 (List.mem_of_getElem? (i := 15) rfl)) rfl
theorem wm_256 : (Cond.fieldLink "DrawingHouse$Net" (21 : Nat) "DrawingHouse$Net" "barredEdges" "I" : Cond) ∈ lw_g := lw_gi (lw_c2 (List.mem_of_getElem? (i := 16) rfl)) rfl
theorem wm_257 : (Cond.fieldLink "DrawingHouse$Embedder" (108 : Nat) "DrawingHouse$Net" "barredEdges" "I" : Cond) ∈ lw_g := lw_gi (lw_c2 (List.mem_of_getElem? (i := 17) rfl)) rfl
theorem wm_258 : (Cond.fieldLink "DrawingHouse" (278 : Nat) "DrawingHouse$Net" "barredEdges" "I" : Cond) ∈ lw_g := lw_gi (lw_c2 (List.mem_of_getElem? (i := 18) rfl)) rfl
theorem wm_259 : (Cond.fieldLink "DrawingHouse$Net" (24 : Nat) "DrawingHouse$Net" "barred" "[I" : Cond) ∈ lw_g := lw_gi (lw_c2 (List.mem_of_getElem? (i := 19) rfl)) rfl
theorem wm_260 : (Cond.fieldLink "DrawingHouse$Embedder" (105 : Nat) "DrawingHouse$Net" "barred" "[I" : Cond) ∈ lw_g := lw_gi (lw_c2 (List.mem_of_getElem? (i := 20) rfl)) rfl
theorem wm_261 : (Cond.fieldLink "DrawingHouse" (281 : Nat) "DrawingHouse$Net" "barred" "[I" : Cond) ∈ lw_g := lw_gi (lw_c2 (List.mem_of_getElem? (i := 21) rfl)) rfl
theorem wm_262 : (Cond.fieldLink "DrawingHouse$Net" (28 : Nat) "DrawingHouse$Net" "nodes" "I" : Cond) ∈ lw_g := lw_gi (lw_c2 (List.mem_of_getElem? (i := 22) rfl)) rfl
theorem wm_263 : (Cond.fieldLink "DrawingHouse$Embedder" (85 : Nat) "DrawingHouse$Net" "nodes" "I" : Cond) ∈ lw_g := lw_gi (lw_c2 (List.mem_of_getElem? (i := 23) rfl)) rfl
theorem wm_264 : (Cond.fieldLink "DrawingHouse$PlanarWays" (86 : Nat) "DrawingHouse$Net" "nodes" "I" : Cond) ∈ lw_g := lw_gi (lw_c2 (List.mem_of_getElem? (i := 24) rfl)) rfl
theorem wm_265 : (Cond.fieldLink "DrawingHouse$Net" (31 : Nat) "DrawingHouse$Net" "edges" "I" : Cond) ∈ lw_g := lw_gi (lw_c2 (List.mem_of_getElem? (i := 25) rfl)) rfl
theorem wm_266 : (Cond.fieldLink "DrawingHouse$Embedder" (133 : Nat) "DrawingHouse$Net" "edges" "I" : Cond) ∈ lw_g := lw_gi (lw_c2 (List.mem_of_getElem? (i := 26) rfl)) rfl
theorem wm_267 : (Cond.fieldLink "DrawingHouse$Net" (34 : Nat) "DrawingHouse$Net" "tail" "[I" : Cond) ∈ lw_g := lw_gi (lw_c2 (List.mem_of_getElem? (i := 27) rfl)) rfl
theorem wm_268 : (Cond.fieldLink "DrawingHouse$Embedder" (134 : Nat) "DrawingHouse$Net" "tail" "[I" : Cond) ∈ lw_g := lw_gi (lw_c2 (List.mem_of_getElem? (i := 28) rfl)) rfl
theorem wm_269 : (Cond.fieldLink "DrawingHouse$PlanarWays" (162 : Nat) "DrawingHouse$Net" "tail" "[I" : Cond) ∈ lw_g := lw_gi (lw_c2 (List.mem_of_getElem? (i := 29) rfl)) rfl
theorem wm_270 : (Cond.fieldLink "DrawingHouse$Net" (37 : Nat) "DrawingHouse$Net" "head" "[I" : Cond) ∈ lw_g := lw_gi (lw_c2 (List.mem_of_getElem? (i := 30) rfl)) rfl
theorem wm_271 : (Cond.fieldLink "DrawingHouse$Embedder" (135 : Nat) "DrawingHouse$Net" "head" "[I" : Cond) ∈ lw_g := lw_gi (lw_c2 (List.mem_of_getElem? (i := 31) rfl)) rfl
theorem wm_272 : (Cond.fieldLink "DrawingHouse$PlanarWays" (165 : Nat) "DrawingHouse$Net" "head" "[I" : Cond) ∈ lw_g := lw_gi (lw_c2 (List.mem_of_getElem? (i := 32) rfl)) rfl
theorem wm_273 : (Cond.fieldLink "DrawingHouse$Net" (40 : Nat) "DrawingHouse$Net" "near" "[I" : Cond) ∈ lw_g := lw_gi (lw_c2 (List.mem_of_getElem? (i := 33) rfl)) rfl
theorem wm_274 : (Cond.fieldLink "DrawingHouse$Embedder" (114 : Nat) "DrawingHouse$Net" "near" "[I" : Cond) ∈ lw_g := lw_gi (lw_c2 (List.mem_of_getElem? (i := 34) rfl)) rfl
theorem wm_275 : (Cond.fieldLink "DrawingHouse$PlanarWays" (131 : Nat) "DrawingHouse$Net" "near" "[I" : Cond) ∈ lw_g := lw_gi (lw_c2 (List.mem_of_getElem? (i := 35) rfl)) rfl
theorem wm_276 : (Cond.fieldLink "DrawingHouse$Net" (43 : Nat) "DrawingHouse$Net" "link" "[I" : Cond) ∈ lw_g := lw_gi (lw_c2 (List.mem_of_getElem? (i := 36) rfl)) rfl
theorem wm_277 : (Cond.fieldLink "DrawingHouse$Net" (46 : Nat) "DrawingHouse$Net" "behind" "[I" : Cond) ∈ lw_g := lw_gi (lw_c2 (List.mem_of_getElem? (i := 37) rfl)) rfl
theorem wm_278 : (Cond.fieldLink "DrawingHouse$PlanarWays" (156 : Nat) "DrawingHouse$Net" "behind" "[I" : Cond) ∈ lw_g := lw_gi (lw_c2 (List.mem_of_getElem? (i := 38) rfl)) rfl
theorem wm_279 : (Cond.fieldLink "DrawingHouse$Embedder" (226 : Nat) "DrawingHouse$Net" "behind" "[I" : Cond) ∈ lw_g := lw_gi (lw_c2 (List.mem_of_getElem? (i := 39) rfl)) rfl
theorem wm_280 : (Cond.fieldLink "DrawingHouse$Net" (49 : Nat) "DrawingHouse$Net" "first" "[I" : Cond) ∈ lw_g := lw_gi (lw_c2 (List.mem_of_getElem? (i := 40) rfl)) rfl
theorem wm_281 : (Cond.fieldLink "DrawingHouse$Embedder" (223 : Nat) "DrawingHouse$Net" "first" "[I" : Cond) ∈ lw_g := lw_gi (lw_c2 (List.mem_of_getElem? (i := 41) rfl)) rfl
theorem wm_282 : (Cond.fieldLink "DrawingHouse$Net" (52 : Nat) "DrawingHouse$Net" "faces" "I" : Cond) ∈ lw_g := lw_gi (lw_c2 (List.mem_of_getElem? (i := 42) rfl)) rfl
theorem wm_283 : (Cond.fieldLink "DrawingHouse$PlanarWays" (122 : Nat) "DrawingHouse$Net" "faces" "I" : Cond) ∈ lw_g := lw_gi (lw_c2 (List.mem_of_getElem? (i := 43) rfl)) rfl
theorem wm_284 : (Cond.fieldLink "DrawingHouse" (272 : Nat) "DrawingHouse$Net" "faces" "I" : Cond) ∈ lw_g := lw_gi (lw_c2 (List.mem_of_getElem? (i := 44) rfl)) rfl
theorem wm_285 : (Cond.fieldLink "DrawingHouse$Net" (55 : Nat) "DrawingHouse$Net" "rowStart" "[I" : Cond) ∈ lw_g := lw_gi (lw_c2 (List.mem_of_getElem? (i := 45) rfl)) rfl
theorem wm_286 : (Cond.fieldLink "DrawingHouse$PlanarWays" (125 : Nat) "DrawingHouse$Net" "rowStart" "[I" : Cond) ∈ lw_g := lw_gi (lw_c2 (List.mem_of_getElem? (i := 46) rfl)) rfl
theorem wm_287 : (Cond.fieldLink "DrawingHouse$Net" (58 : Nat) "DrawingHouse$Net" "rowNode" "[I" : Cond) ∈ lw_g := lw_gi (lw_c2 (List.mem_of_getElem? (i := 47) rfl)) rfl
theorem wm_288 : (Cond.fieldLink "DrawingHouse$PlanarWays" (128 : Nat) "DrawingHouse$Net" "rowNode" "[I" : Cond) ∈ lw_g := lw_gi (lw_c2 (List.mem_of_getElem? (i := 48) rfl)) rfl
theorem wm_289 : (Cond.fieldLink "DrawingHouse$Net" (61 : Nat) "DrawingHouse$Net" "faceOf" "[I" : Cond) ∈ lw_g := lw_gi (lw_c2 (List.mem_of_getElem? (i := 49) rfl)) rfl
theorem wm_290 : (Cond.fieldLink "DrawingHouse$PlanarWays" (228 : Nat) "DrawingHouse$Net" "faceOf" "[I" : Cond) ∈ lw_g := lw_gi (lw_c2 (List.mem_of_getElem? (i := 50) rfl)) rfl
theorem wm_326 : (Cond.fieldLink "DrawingHouse$Embedder" (9 : Nat) "DrawingHouse$Embedder" "net" "LDrawingHouse$Net;" : Cond) ∈ lw_g := lw_gi (lw_c2 (List.mem_of_getElem? (i := 86) rfl)) rfl
theorem wm_327 : (Cond.fieldLink "DrawingHouse$Embedder" (18 : Nat) "DrawingHouse$Embedder" "probe" "LDrawingHouse$Net;" : Cond) ∈ lw_g := lw_gi (lw_c2 (List.mem_of_getElem? (i := 87) rfl)) rfl
theorem wm_328 : (Cond.fieldLink "DrawingHouse$Embedder" (21 : Nat) "DrawingHouse$Embedder" "block" "[I" : Cond) ∈ lw_g := lw_gi (lw_c2 (List.mem_of_getElem? (i := 88) rfl)) rfl
theorem wm_329 : (Cond.fieldLink "DrawingHouse$Embedder" (25 : Nat) "DrawingHouse$Embedder" "drawn" "[Z" : Cond) ∈ lw_g := lw_gi (lw_c2 (List.mem_of_getElem? (i := 89) rfl)) rfl
theorem wm_330 : (Cond.fieldLink "DrawingHouse$Embedder" (29 : Nat) "DrawingHouse$Embedder" "kept" "[Z" : Cond) ∈ lw_g := lw_gi (lw_c2 (List.mem_of_getElem? (i := 90) rfl)) rfl
theorem wm_331 : (Cond.fieldLink "DrawingHouse$Embedder" (32 : Nat) "DrawingHouse$Embedder" "blockNodes" "I" : Cond) ∈ lw_g := lw_gi (lw_c2 (List.mem_of_getElem? (i := 91) rfl)) rfl
theorem wm_332 : (Cond.fieldLink "DrawingHouse$Embedder" (36 : Nat) "DrawingHouse$Embedder" "drawnNodes" "I" : Cond) ∈ lw_g := lw_gi (lw_c2 (List.mem_of_getElem? (i := 92) rfl)) rfl
theorem wm_333 : (Cond.fieldLink "DrawingHouse$Embedder" (39 : Nat) "DrawingHouse$Embedder" "cycles" "I" : Cond) ∈ lw_g := lw_gi (lw_c2 (List.mem_of_getElem? (i := 93) rfl)) rfl
theorem wm_334 : (Cond.fieldLink "DrawingHouse$Embedder" (42 : Nat) "DrawingHouse$Embedder" "cycle" "[I" : Cond) ∈ lw_g := lw_gi (lw_c2 (List.mem_of_getElem? (i := 94) rfl)) rfl
theorem wm_335 : (Cond.fieldLink "DrawingHouse$Embedder" (45 : Nat) "DrawingHouse$Embedder" "cycleLength" "[I" : Cond) ∈ lw_g := lw_gi (lw_c2 (List.mem_of_getElem? (i := 95) rfl)) rfl
theorem wm_336 : (Cond.fieldLink "DrawingHouse$Embedder" (48 : Nat) "DrawingHouse$Embedder" "cycleNodes" "[I" : Cond) ∈ lw_g := lw_gi (lw_c2 (List.mem_of_getElem? (i := 96) rfl)) rfl
theorem wm_337 : (Cond.fieldLink "DrawingHouse$Embedder" (51 : Nat) "DrawingHouse$Embedder" "fresh" "[I" : Cond) ∈ lw_g := lw_gi (lw_c2 (List.mem_of_getElem? (i := 97) rfl)) rfl
theorem wm_338 : (Cond.fieldLink "DrawingHouse$Embedder" (54 : Nat) "DrawingHouse$Embedder" "after" "[I" : Cond) ∈ lw_g := lw_gi (lw_c2 (List.mem_of_getElem? (i := 98) rfl)) rfl
theorem wm_339 : (Cond.fieldLink "DrawingHouse$Embedder" (57 : Nat) "DrawingHouse$Embedder" "level" "[I" : Cond) ∈ lw_g := lw_gi (lw_c2 (List.mem_of_getElem? (i := 99) rfl)) rfl
theorem wm_340 : (Cond.fieldLink "DrawingHouse$Embedder" (60 : Nat) "DrawingHouse$Embedder" "way" "[I" : Cond) ∈ lw_g := lw_gi (lw_c2 (List.mem_of_getElem? (i := 100) rfl)) rfl
theorem wm_341 : (Cond.fieldLink "DrawingHouse$Embedder" (63 : Nat) "DrawingHouse$Embedder" "wayLength" "I" : Cond) ∈ lw_g := lw_gi (lw_c2 (List.mem_of_getElem? (i := 101) rfl)) rfl
theorem wm_342 : (Cond.fieldLink "DrawingHouse$Embedder" (66 : Nat) "DrawingHouse$Embedder" "pieceNodes" "I" : Cond) ∈ lw_g := lw_gi (lw_c2 (List.mem_of_getElem? (i := 102) rfl)) rfl
theorem wm_343 : (Cond.fieldLink "DrawingHouse$Embedder" (69 : Nat) "DrawingHouse$Embedder" "pieceEnds" "I" : Cond) ∈ lw_g := lw_gi (lw_c2 (List.mem_of_getElem? (i := 103) rfl)) rfl
theorem wm_344 : (Cond.fieldLink "DrawingHouse$Embedder" (72 : Nat) "DrawingHouse$Embedder" "pieceCycle" "I" : Cond) ∈ lw_g := lw_gi (lw_c2 (List.mem_of_getElem? (i := 104) rfl)) rfl
theorem wm_345 : (Cond.fieldLink "DrawingHouse$Embedder" (75 : Nat) "DrawingHouse$Embedder" "around" "[I" : Cond) ∈ lw_g := lw_gi (lw_c2 (List.mem_of_getElem? (i := 105) rfl)) rfl
theorem wm_394 : (Cond.fieldLink "DrawingHouse$Facts" (9 : Nat) "DrawingHouse$Facts" "known" "Z" : Cond) ∈ lw_g := lw_gi (lw_c2 (List.mem_of_getElem? (i := 154) rfl)) rfl
theorem wm_395 : (Cond.fieldLink "DrawingHouse" (407 : Nat) "DrawingHouse$Facts" "known" "Z" : Cond) ∈ lw_g := lw_gi (lw_c2 (List.mem_of_getElem? (i := 155) rfl)) rfl
theorem wm_396 : (Cond.fieldLink "DrawingHouse$Facts" (15 : Nat) "DrawingHouse$Facts" "parts" "I" : Cond) ∈ lw_g := lw_gi (lw_c2 (List.mem_of_getElem? (i := 156) rfl)) rfl
theorem wm_397 : (Cond.fieldLink "DrawingHouse$PlainWays" (82 : Nat) "DrawingHouse$Facts" "parts" "I" : Cond) ∈ lw_g := lw_gi (lw_c2 (List.mem_of_getElem? (i := 157) rfl)) rfl
theorem wm_398 : (Cond.fieldLink "DrawingHouse$PlanarWays" (61 : Nat) "DrawingHouse$Facts" "parts" "I" : Cond) ∈ lw_g := lw_gi (lw_c2 (List.mem_of_getElem? (i := 158) rfl)) rfl
theorem wm_399 : (Cond.fieldLink "DrawingHouse" (151 : Nat) "DrawingHouse$Facts" "parts" "I" : Cond) ∈ lw_g := lw_gi (lw_c2 (List.mem_of_getElem? (i := 159) rfl)) rfl
theorem wm_400 : (Cond.fieldLink "DrawingHouse$Facts" (19 : Nat) "DrawingHouse$Facts" "blocks" "I" : Cond) ∈ lw_g := lw_gi (lw_c2 (List.mem_of_getElem? (i := 160) rfl)) rfl
theorem wm_401 : (Cond.fieldLink "DrawingHouse$PlanarWays" (56 : Nat) "DrawingHouse$Facts" "blocks" "I" : Cond) ∈ lw_g := lw_gi (lw_c2 (List.mem_of_getElem? (i := 161) rfl)) rfl
theorem wm_402 : (Cond.fieldLink "DrawingHouse" (154 : Nat) "DrawingHouse$Facts" "blocks" "I" : Cond) ∈ lw_g := lw_gi (lw_c2 (List.mem_of_getElem? (i := 162) rfl)) rfl
theorem wm_403 : (Cond.fieldLink "DrawingHouse$Facts" (22 : Nat) "DrawingHouse$Facts" "strongs" "I" : Cond) ∈ lw_g := lw_gi (lw_c2 (List.mem_of_getElem? (i := 163) rfl)) rfl
theorem wm_404 : (Cond.fieldLink "DrawingHouse" (157 : Nat) "DrawingHouse$Facts" "strongs" "I" : Cond) ∈ lw_g := lw_gi (lw_c2 (List.mem_of_getElem? (i := 164) rfl)) rfl
theorem wm_405 : (Cond.fieldLink "DrawingHouse$Facts" (25 : Nat) "DrawingHouse$Facts" "part" "[I" : Cond) ∈ lw_g := lw_gi (lw_c2 (List.mem_of_getElem? (i := 165) rfl)) rfl
theorem wm_406 : (Cond.fieldLink "DrawingHouse$PlainWays" (109 : Nat) "DrawingHouse$Facts" "part" "[I" : Cond) ∈ lw_g := lw_gi (lw_c2 (List.mem_of_getElem? (i := 166) rfl)) rfl
theorem wm_407 : (Cond.fieldLink "DrawingHouse$PlanarWays" (101 : Nat) "DrawingHouse$Facts" "part" "[I" : Cond) ∈ lw_g := lw_gi (lw_c2 (List.mem_of_getElem? (i := 167) rfl)) rfl
theorem wm_408 : (Cond.fieldLink "DrawingHouse" (185 : Nat) "DrawingHouse$Facts" "part" "[I" : Cond) ∈ lw_g := lw_gi (lw_c2 (List.mem_of_getElem? (i := 168) rfl)) rfl
theorem wm_409 : (Cond.fieldLink "DrawingHouse$Facts" (29 : Nat) "DrawingHouse$Facts" "block" "[I" : Cond) ∈ lw_g := lw_gi (lw_c2 (List.mem_of_getElem? (i := 169) rfl)) rfl
theorem wm_410 : (Cond.fieldLink "DrawingHouse" (212 : Nat) "DrawingHouse$Facts" "block" "[I" : Cond) ∈ lw_g := lw_gi (lw_c2 (List.mem_of_getElem? (i := 170) rfl)) rfl
theorem wm_411 : (Cond.fieldLink "DrawingHouse$Styler" (244 : Nat) "DrawingHouse$Facts" "block" "[I" : Cond) ∈ lw_g := lw_gi (lw_c2 (List.mem_of_getElem? (i := 171) rfl)) rfl
theorem wm_412 : (Cond.fieldLink "DrawingHouse$Facts" (32 : Nat) "DrawingHouse$Facts" "strong" "[I" : Cond) ∈ lw_g := lw_gi (lw_c2 (List.mem_of_getElem? (i := 172) rfl)) rfl
theorem wm_413 : (Cond.fieldLink "DrawingHouse" (191 : Nat) "DrawingHouse$Facts" "strong" "[I" : Cond) ∈ lw_g := lw_gi (lw_c2 (List.mem_of_getElem? (i := 173) rfl)) rfl
theorem wm_414 : (Cond.fieldLink "DrawingHouse$Facts" (35 : Nat) "DrawingHouse$Facts" "core" "[I" : Cond) ∈ lw_g := lw_gi (lw_c2 (List.mem_of_getElem? (i := 174) rfl)) rfl
theorem wm_415 : (Cond.fieldLink "DrawingHouse" (194 : Nat) "DrawingHouse$Facts" "core" "[I" : Cond) ∈ lw_g := lw_gi (lw_c2 (List.mem_of_getElem? (i := 175) rfl)) rfl
theorem wm_416 : (Cond.fieldLink "DrawingHouse$Styler" (217 : Nat) "DrawingHouse$Facts" "core" "[I" : Cond) ∈ lw_g := lw_gi (lw_c2 (List.mem_of_getElem? (i := 176) rfl)) rfl
theorem wm_417 : (Cond.fieldLink "DrawingHouse$Facts" (38 : Nat) "DrawingHouse$Facts" "blocksAt" "[I" : Cond) ∈ lw_g := lw_gi (lw_c2 (List.mem_of_getElem? (i := 177) rfl)) rfl
theorem wm_418 : (Cond.fieldLink "DrawingHouse" (188 : Nat) "DrawingHouse$Facts" "blocksAt" "[I" : Cond) ∈ lw_g := lw_gi (lw_c2 (List.mem_of_getElem? (i := 178) rfl)) rfl
theorem wm_419 : (Cond.fieldLink "DrawingHouse$Styler" (222 : Nat) "DrawingHouse$Facts" "blocksAt" "[I" : Cond) ∈ lw_g := lw_gi (lw_c2 (List.mem_of_getElem? (i := 179) rfl)) rfl
theorem wm_420 : (Cond.fieldLink "DrawingHouse$Facts" (41 : Nat) "DrawingHouse$Facts" "turned" "[Z" : Cond) ∈ lw_g := lw_gi (lw_c2 (List.mem_of_getElem? (i := 180) rfl)) rfl
theorem wm_421 : (Cond.fieldLink "DrawingHouse$Layers" (125 : Nat) "DrawingHouse$Facts" "turned" "[Z" : Cond) ∈ lw_g := lw_gi (lw_c2 (List.mem_of_getElem? (i := 181) rfl)) rfl
theorem wm_422 : (Cond.fieldLink "DrawingHouse$Styler" (237 : Nat) "DrawingHouse$Facts" "turned" "[Z" : Cond) ∈ lw_g := lw_gi (lw_c2 (List.mem_of_getElem? (i := 182) rfl)) rfl
theorem wm_423 : (Cond.fieldLink "DrawingHouse$Facts" (45 : Nat) "DrawingHouse$Facts" "reach" "[I" : Cond) ∈ lw_g := lw_gi (lw_c2 (List.mem_of_getElem? (i := 183) rfl)) rfl
theorem wm_424 : (Cond.fieldLink "DrawingHouse$Facts" (48 : Nat) "DrawingHouse$Facts" "loop" "[I" : Cond) ∈ lw_g := lw_gi (lw_c2 (List.mem_of_getElem? (i := 184) rfl)) rfl
theorem wm_425 : (Cond.fieldLink "DrawingHouse$Facts" (51 : Nat) "DrawingHouse$Facts" "rank" "[I" : Cond) ∈ lw_g := lw_gi (lw_c2 (List.mem_of_getElem? (i := 185) rfl)) rfl
theorem wm_426 : (Cond.fieldLink "DrawingHouse$Facts" (54 : Nat) "DrawingHouse$Facts" "member" "[I" : Cond) ∈ lw_g := lw_gi (lw_c2 (List.mem_of_getElem? (i := 186) rfl)) rfl
theorem wm_427 : (Cond.fieldLink "DrawingHouse$Facts" (57 : Nat) "DrawingHouse$Facts" "least" "[I" : Cond) ∈ lw_g := lw_gi (lw_c2 (List.mem_of_getElem? (i := 187) rfl)) rfl
theorem wm_465 : (Cond.fieldLink "DrawingHouse$Drawing" (74 : Nat) "DrawingHouse$Drawing" "graph" "LDrawingHouse$Graph;" : Cond) ∈ lw_g := lw_gi (lw_c2 (List.mem_of_getElem? (i := 225) rfl)) rfl
theorem wm_466 : (Cond.fieldLink "DrawingHouse$Drawing" (9 : Nat) "DrawingHouse$Drawing" "way" "I" : Cond) ∈ lw_g := lw_gi (lw_c2 (List.mem_of_getElem? (i := 226) rfl)) rfl
theorem wm_467 : (Cond.fieldLink "DrawingHouse" (309 : Nat) "DrawingHouse$Drawing" "way" "I" : Cond) ∈ lw_g := lw_gi (lw_c2 (List.mem_of_getElem? (i := 227) rfl)) rfl
theorem wm_468 : (Cond.fieldLink "DrawingHouse$Styler" (197 : Nat) "DrawingHouse$Drawing" "way" "I" : Cond) ∈ lw_g := lw_gi (lw_c2 (List.mem_of_getElem? (i := 228) rfl)) rfl
theorem wm_469 : (Cond.fieldLink "DrawingHouse$Drawing" (15 : Nat) "DrawingHouse$Drawing" "x" "[I" : Cond) ∈ lw_g := lw_gi (lw_c2 (List.mem_of_getElem? (i := 229) rfl)) rfl
theorem wm_470 : (Cond.fieldLink "DrawingHouse$Router" (111 : Nat) "DrawingHouse$Drawing" "x" "[I" : Cond) ∈ lw_g := lw_gi (lw_c2 (List.mem_of_getElem? (i := 230) rfl)) rfl
theorem wm_471 : (Cond.fieldLink "DrawingHouse$PlainWays" (127 : Nat) "DrawingHouse$Drawing" "x" "[I" : Cond) ∈ lw_g := lw_gi (lw_c2 (List.mem_of_getElem? (i := 231) rfl)) rfl
theorem wm_472 : (Cond.fieldLink "DrawingHouse$PlanarWays" (177 : Nat) "DrawingHouse$Drawing" "x" "[I" : Cond) ∈ lw_g := lw_gi (lw_c2 (List.mem_of_getElem? (i := 232) rfl)) rfl
theorem wm_473 : (Cond.fieldLink "DrawingHouse$Styler" (225 : Nat) "DrawingHouse$Drawing" "x" "[I" : Cond) ∈ lw_g := lw_gi (lw_c2 (List.mem_of_getElem? (i := 233) rfl)) rfl
theorem wm_474 : (Cond.fieldLink "DrawingHouse" (391 : Nat) "DrawingHouse$Drawing" "x" "[I" : Cond) ∈ lw_g := lw_gi (lw_c2 (List.mem_of_getElem? (i := 234) rfl)) rfl
theorem wm_475 : (Cond.fieldLink "DrawingHouse$Layers" (259 : Nat) "DrawingHouse$Drawing" "x" "[I" : Cond) ∈ lw_g := lw_gi (lw_c2 (List.mem_of_getElem? (i := 235) rfl)) rfl
theorem wm_476 : (Cond.fieldLink "DrawingHouse$Drawing" (19 : Nat) "DrawingHouse$Drawing" "y" "[I" : Cond) ∈ lw_g := lw_gi (lw_c2 (List.mem_of_getElem? (i := 236) rfl)) rfl
theorem wm_477 : (Cond.fieldLink "DrawingHouse$PlanarWays" (87 : Nat) "DrawingHouse$Drawing" "y" "[I" : Cond) ∈ lw_g := lw_gi (lw_c2 (List.mem_of_getElem? (i := 237) rfl)) rfl
theorem wm_478 : (Cond.fieldLink "DrawingHouse$Router" (126 : Nat) "DrawingHouse$Drawing" "y" "[I" : Cond) ∈ lw_g := lw_gi (lw_c2 (List.mem_of_getElem? (i := 238) rfl)) rfl
theorem wm_479 : (Cond.fieldLink "DrawingHouse$PlainWays" (135 : Nat) "DrawingHouse$Drawing" "y" "[I" : Cond) ∈ lw_g := lw_gi (lw_c2 (List.mem_of_getElem? (i := 239) rfl)) rfl
theorem wm_480 : (Cond.fieldLink "DrawingHouse$Styler" (228 : Nat) "DrawingHouse$Drawing" "y" "[I" : Cond) ∈ lw_g := lw_gi (lw_c3 (List.mem_of_getElem? (i := 0) rfl)) rfl
theorem wm_481 : (Cond.fieldLink "DrawingHouse" (397 : Nat) "DrawingHouse$Drawing" "y" "[I" : Cond) ∈ lw_g := lw_gi (lw_c3 (List.mem_of_getElem? (i := 1) rfl)) rfl
theorem wm_482 : (Cond.fieldLink "DrawingHouse$Layers" (262 : Nat) "DrawingHouse$Drawing" "y" "[I" : Cond) ∈ lw_g := lw_gi (lw_c3 (List.mem_of_getElem? (i := 2) rfl)) rfl
theorem wm_483 : (Cond.fieldLink "DrawingHouse$Drawing" (22 : Nat) "DrawingHouse$Drawing" "bends" "[I" : Cond) ∈ lw_g := lw_gi (lw_c3 (List.mem_of_getElem? (i := 3) rfl)) rfl
theorem wm_484 : (Cond.fieldLink "DrawingHouse$Router" (98 : Nat) "DrawingHouse$Drawing" "bends" "[I" : Cond) ∈ lw_g := lw_gi (lw_c3 (List.mem_of_getElem? (i := 4) rfl)) rfl
theorem wm_485 : (Cond.fieldLink "DrawingHouse" (384 : Nat) "DrawingHouse$Drawing" "bends" "[I" : Cond) ∈ lw_g := lw_gi (lw_c3 (List.mem_of_getElem? (i := 5) rfl)) rfl
theorem wm_486 : (Cond.fieldLink "DrawingHouse$Drawing" (25 : Nat) "DrawingHouse$Drawing" "bendX" "[I" : Cond) ∈ lw_g := lw_gi (lw_c3 (List.mem_of_getElem? (i := 6) rfl)) rfl
theorem wm_487 : (Cond.fieldLink "DrawingHouse$Drawing" (28 : Nat) "DrawingHouse$Drawing" "bendY" "[I" : Cond) ∈ lw_g := lw_gi (lw_c3 (List.mem_of_getElem? (i := 7) rfl)) rfl
theorem wm_488 : (Cond.fieldLink "DrawingHouse$Drawing" (31 : Nat) "DrawingHouse$Drawing" "crossings" "I" : Cond) ∈ lw_g := lw_gi (lw_c3 (List.mem_of_getElem? (i := 8) rfl)) rfl
theorem wm_489 : (Cond.fieldLink "DrawingHouse$PlainWays" (224 : Nat) "DrawingHouse$Drawing" "crossings" "I" : Cond) ∈ lw_g := lw_gi (lw_c3 (List.mem_of_getElem? (i := 9) rfl)) rfl
theorem wm_490 : (Cond.fieldLink "DrawingHouse$Layers" (253 : Nat) "DrawingHouse$Drawing" "crossings" "I" : Cond) ∈ lw_g := lw_gi (lw_c3 (List.mem_of_getElem? (i := 10) rfl)) rfl
theorem wm_491 : (Cond.fieldLink "DrawingHouse$Drawing" (34 : Nat) "DrawingHouse$Drawing" "spans" "I" : Cond) ∈ lw_g := lw_gi (lw_c3 (List.mem_of_getElem? (i := 11) rfl)) rfl
theorem wm_492 : (Cond.fieldLink "DrawingHouse$Layers" (256 : Nat) "DrawingHouse$Drawing" "spans" "I" : Cond) ∈ lw_g := lw_gi (lw_c3 (List.mem_of_getElem? (i := 12) rfl)) rfl
theorem wm_493 : (Cond.fieldLink "DrawingHouse$Drawing" (37 : Nat) "DrawingHouse$Drawing" "band" "I" : Cond) ∈ lw_g := lw_gi (lw_c3 (List.mem_of_getElem? (i := 13) rfl)) rfl
theorem wm_494 : (Cond.fieldLink "DrawingHouse$PlainWays" (262 : Nat) "DrawingHouse$Drawing" "band" "I" : Cond) ∈ lw_g := lw_gi (lw_c3 (List.mem_of_getElem? (i := 14) rfl)) rfl
theorem wm_495 : (Cond.fieldLink "DrawingHouse$Drawing" (40 : Nat) "DrawingHouse$Drawing" "layer" "[I" : Cond) ∈ lw_g := lw_gi (lw_c3 (List.mem_of_getElem? (i := 15) rfl)) rfl
theorem wm_496 : (Cond.fieldLink "DrawingHouse$Layers" (265 : Nat) "DrawingHouse$Drawing" "layer" "[I" : Cond) ∈ lw_g := lw_gi (lw_c3 (List.mem_of_getElem? (i := 16) rfl)) rfl
theorem wm_497 : (Cond.fieldLink "DrawingHouse$Drawing" (43 : Nat) "DrawingHouse$Drawing" "turned" "[Z" : Cond) ∈ lw_g := lw_gi (lw_c3 (List.mem_of_getElem? (i := 17) rfl)) rfl
theorem wm_498 : (Cond.fieldLink "DrawingHouse$Layers" (268 : Nat) "DrawingHouse$Drawing" "turned" "[Z" : Cond) ∈ lw_g := lw_gi (lw_c3 (List.mem_of_getElem? (i := 18) rfl)) rfl
theorem wm_499 : (Cond.fieldLink "DrawingHouse$Drawing" (47 : Nat) "DrawingHouse$Drawing" "rank" "[I" : Cond) ∈ lw_g := lw_gi (lw_c3 (List.mem_of_getElem? (i := 19) rfl)) rfl
theorem wm_500 : (Cond.fieldLink "DrawingHouse$PlanarWays" (192 : Nat) "DrawingHouse$Drawing" "rank" "[I" : Cond) ∈ lw_g := lw_gi (lw_c3 (List.mem_of_getElem? (i := 20) rfl)) rfl
theorem wm_501 : (Cond.fieldLink "DrawingHouse$Drawing" (50 : Nat) "DrawingHouse$Drawing" "area" "[I" : Cond) ∈ lw_g := lw_gi (lw_c3 (List.mem_of_getElem? (i := 21) rfl)) rfl
theorem wm_502 : (Cond.fieldLink "DrawingHouse$PlainWays" (153 : Nat) "DrawingHouse$Drawing" "area" "[I" : Cond) ∈ lw_g := lw_gi (lw_c3 (List.mem_of_getElem? (i := 22) rfl)) rfl
theorem wm_503 : (Cond.fieldLink "DrawingHouse$Drawing" (53 : Nat) "DrawingHouse$Drawing" "shades" "[I" : Cond) ∈ lw_g := lw_gi (lw_c3 (List.mem_of_getElem? (i := 23) rfl)) rfl
theorem wm_504 : (Cond.fieldLink "DrawingHouse$Styler" (161 : Nat) "DrawingHouse$Drawing" "shades" "[I" : Cond) ∈ lw_g := lw_gi (lw_c3 (List.mem_of_getElem? (i := 24) rfl)) rfl
theorem wm_505 : (Cond.fieldLink "DrawingHouse" (361 : Nat) "DrawingHouse$Drawing" "shades" "[I" : Cond) ∈ lw_g := lw_gi (lw_c3 (List.mem_of_getElem? (i := 25) rfl)) rfl
theorem wm_506 : (Cond.fieldLink "DrawingHouse$Drawing" (56 : Nat) "DrawingHouse$Drawing" "labelX" "[I" : Cond) ∈ lw_g := lw_gi (lw_c3 (List.mem_of_getElem? (i := 26) rfl)) rfl
theorem wm_507 : (Cond.fieldLink "DrawingHouse$Drawing" (59 : Nat) "DrawingHouse$Drawing" "labelY" "[I" : Cond) ∈ lw_g := lw_gi (lw_c3 (List.mem_of_getElem? (i := 27) rfl)) rfl
theorem wm_508 : (Cond.fieldLink "DrawingHouse$Drawing" (62 : Nat) "DrawingHouse$Drawing" "leastX" "I" : Cond) ∈ lw_g := lw_gi (lw_c3 (List.mem_of_getElem? (i := 28) rfl)) rfl
theorem wm_509 : (Cond.fieldLink "DrawingHouse$Drawing" (65 : Nat) "DrawingHouse$Drawing" "leastY" "I" : Cond) ∈ lw_g := lw_gi (lw_c3 (List.mem_of_getElem? (i := 29) rfl)) rfl
theorem wm_510 : (Cond.fieldLink "DrawingHouse$Drawing" (68 : Nat) "DrawingHouse$Drawing" "mostX" "I" : Cond) ∈ lw_g := lw_gi (lw_c3 (List.mem_of_getElem? (i := 30) rfl)) rfl
theorem wm_511 : (Cond.fieldLink "DrawingHouse$Drawing" (71 : Nat) "DrawingHouse$Drawing" "mostY" "I" : Cond) ∈ lw_g := lw_gi (lw_c3 (List.mem_of_getElem? (i := 31) rfl)) rfl
theorem wm_555 : (Cond.fieldLink "DrawingHouse" (13 : Nat) "DrawingHouse" "graphs" "[LDrawingHouse$Graph;" : Cond) ∈ lw_g := lw_gi (lw_c3 (List.mem_of_getElem? (i := 75) rfl)) rfl
theorem wm_556 : (Cond.fieldLink "DrawingHouse" (19 : Nat) "DrawingHouse" "facts" "[LDrawingHouse$Facts;" : Cond) ∈ lw_g := lw_gi (lw_c3 (List.mem_of_getElem? (i := 76) rfl)) rfl
theorem wm_557 : (Cond.fieldLink "DrawingHouse" (25 : Nat) "DrawingHouse" "nets" "[LDrawingHouse$Net;" : Cond) ∈ lw_g := lw_gi (lw_c3 (List.mem_of_getElem? (i := 77) rfl)) rfl
theorem wm_558 : (Cond.fieldLink "DrawingHouse" (31 : Nat) "DrawingHouse" "drawings" "[LDrawingHouse$Drawing;" : Cond) ∈ lw_g := lw_gi (lw_c3 (List.mem_of_getElem? (i := 78) rfl)) rfl
theorem wm_559 : (Cond.fieldLink "DrawingHouse" (38 : Nat) "DrawingHouse" "reader" "LDrawingHouse$Reader;" : Cond) ∈ lw_g := lw_gi (lw_c3 (List.mem_of_getElem? (i := 79) rfl)) rfl
theorem wm_560 : (Cond.fieldLink "DrawingHouse" (45 : Nat) "DrawingHouse" "embedder" "LDrawingHouse$Embedder;" : Cond) ∈ lw_g := lw_gi (lw_c3 (List.mem_of_getElem? (i := 80) rfl)) rfl
theorem wm_561 : (Cond.fieldLink "DrawingHouse" (49 : Nat) "DrawingHouse" "became" "[I" : Cond) ∈ lw_g := lw_gi (lw_c3 (List.mem_of_getElem? (i := 81) rfl)) rfl
theorem wm_562 : (Cond.fieldLink "DrawingHouse" (53 : Nat) "DrawingHouse" "becameNodes" "I" : Cond) ∈ lw_g := lw_gi (lw_c3 (List.mem_of_getElem? (i := 82) rfl)) rfl
theorem wm_563 : (Cond.fieldLink "DrawingHouse" (57 : Nat) "DrawingHouse" "steps" "I" : Cond) ∈ lw_g := lw_gi (lw_c3 (List.mem_of_getElem? (i := 83) rfl)) rfl
theorem wm_564 : (Cond.fieldLink "DrawingHouse" (60 : Nat) "DrawingHouse" "written" "[B" : Cond) ∈ lw_g := lw_gi (lw_c3 (List.mem_of_getElem? (i := 84) rfl)) rfl
theorem wm_565 : (Cond.fieldLink "DrawingHouse" (64 : Nat) "DrawingHouse" "spare" "[B" : Cond) ∈ lw_g := lw_gi (lw_c3 (List.mem_of_getElem? (i := 85) rfl)) rfl
theorem wm_566 : (Cond.fieldLink "DrawingHouse" (67 : Nat) "DrawingHouse" "writtenLength" "I" : Cond) ∈ lw_g := lw_gi (lw_c3 (List.mem_of_getElem? (i := 86) rfl)) rfl
theorem wm_567 : (Cond.fieldLink "DrawingHouse" (70 : Nat) "DrawingHouse" "spareLength" "I" : Cond) ∈ lw_g := lw_gi (lw_c3 (List.mem_of_getElem? (i := 87) rfl)) rfl
theorem wm_568 : (Cond.fieldLink "DrawingHouse" (73 : Nat) "DrawingHouse" "plane" "[I" : Cond) ∈ lw_g := lw_gi (lw_c3 (List.mem_of_getElem? (i := 88) rfl)) rfl
theorem wm_569 : (Cond.fieldLink "DrawingHouse" (76 : Nat) "DrawingHouse" "planeWidth" "I" : Cond) ∈ lw_g := lw_gi (lw_c3 (List.mem_of_getElem? (i := 89) rfl)) rfl
theorem wm_570 : (Cond.fieldLink "DrawingHouse" (79 : Nat) "DrawingHouse" "planeHeight" "I" : Cond) ∈ lw_g := lw_gi (lw_c3 (List.mem_of_getElem? (i := 90) rfl)) rfl
theorem wm_571 : (Cond.fieldLink "DrawingHouse" (82 : Nat) "DrawingHouse" "styler" "LDrawingHouse$Styler;" : Cond) ∈ lw_g := lw_gi (lw_c3 (List.mem_of_getElem? (i := 91) rfl)) rfl
theorem wm_572 : (Cond.fieldLink "DrawingHouse" (86 : Nat) "DrawingHouse" "layers" "LDrawingHouse$Layers;" : Cond) ∈ lw_g := lw_gi (lw_c3 (List.mem_of_getElem? (i := 92) rfl)) rfl
theorem wm_573 : (Cond.fieldLink "DrawingHouse" (90 : Nat) "DrawingHouse" "planarWays" "LDrawingHouse$PlanarWays;" : Cond) ∈ lw_g := lw_gi (lw_c3 (List.mem_of_getElem? (i := 93) rfl)) rfl
theorem wm_574 : (Cond.fieldLink "DrawingHouse" (94 : Nat) "DrawingHouse" "plainWays" "LDrawingHouse$PlainWays;" : Cond) ∈ lw_g := lw_gi (lw_c3 (List.mem_of_getElem? (i := 94) rfl)) rfl
theorem wm_575 : (Cond.fieldLink "DrawingHouse" (98 : Nat) "DrawingHouse" "router" "LDrawingHouse$Router;" : Cond) ∈ lw_g := lw_gi (lw_c3 (List.mem_of_getElem? (i := 95) rfl)) rfl
theorem wm_1198 : (Cond.fieldLink "DrawingHouse$Stretch" (9 : Nat) "DrawingHouse$Stretch" "nodes" "I" : Cond) ∈ lw_g := lw_gi (lw_c5 (List.mem_of_getElem? (i := 238) rfl)) rfl
theorem wm_1199 : (Cond.fieldLink "DrawingHouse$Stretch" (15 : Nat) "DrawingHouse$Stretch" "arcs" "I" : Cond) ∈ lw_g := lw_gi (lw_c5 (List.mem_of_getElem? (i := 239) rfl)) rfl
theorem wm_1200 : (Cond.fieldLink "DrawingHouse$Stretch" (18 : Nat) "DrawingHouse$Stretch" "from" "[I" : Cond) ∈ lw_g := lw_gi (lw_c6 (List.mem_of_getElem? (i := 0) rfl)) rfl
theorem wm_1201 : (Cond.fieldLink "DrawingHouse$Stretch" (22 : Nat) "DrawingHouse$Stretch" "to" "[I" : Cond) ∈ lw_g := lw_gi (lw_c6 (List.mem_of_getElem? (i := 1) rfl)) rfl
theorem wm_1202 : (Cond.fieldLink "DrawingHouse$Stretch" (25 : Nat) "DrawingHouse$Stretch" "room" "[I" : Cond) ∈ lw_g := lw_gi (lw_c6 (List.mem_of_getElem? (i := 2) rfl)) rfl
theorem wm_1203 : (Cond.fieldLink "DrawingHouse$Stretch" (28 : Nat) "DrawingHouse$Stretch" "gain" "[I" : Cond) ∈ lw_g := lw_gi (lw_c6 (List.mem_of_getElem? (i := 3) rfl)) rfl
theorem wm_1204 : (Cond.fieldLink "DrawingHouse$Stretch" (31 : Nat) "DrawingHouse$Stretch" "place" "[I" : Cond) ∈ lw_g := lw_gi (lw_c6 (List.mem_of_getElem? (i := 4) rfl)) rfl
theorem wm_1205 : (Cond.fieldLink "DrawingHouse$Layers" (169 : Nat) "DrawingHouse$Stretch" "place" "[I" : Cond) ∈ lw_g := lw_gi (lw_c6 (List.mem_of_getElem? (i := 5) rfl)) rfl
theorem wm_1206 : (Cond.fieldLink "DrawingHouse$Stretch" (34 : Nat) "DrawingHouse$Stretch" "by" "[I" : Cond) ∈ lw_g := lw_gi (lw_c6 (List.mem_of_getElem? (i := 6) rfl)) rfl
theorem wm_1207 : (Cond.fieldLink "DrawingHouse$Stretch" (37 : Nat) "DrawingHouse$Stretch" "mark" "[I" : Cond) ∈ lw_g := lw_gi (lw_c6 (List.mem_of_getElem? (i := 7) rfl)) rfl
theorem wm_1242 : (Cond.fieldLink "DrawingHouse$Layers" (12 : Nat) "DrawingHouse$Layers" "stretch" "LDrawingHouse$Stretch;" : Cond) ∈ lw_g := lw_gi (lw_c6 (List.mem_of_getElem? (i := 42) rfl)) rfl
theorem wm_1243 : (Cond.fieldLink "DrawingHouse$Layers" (18 : Nat) "DrawingHouse$Layers" "graph" "LDrawingHouse$Graph;" : Cond) ∈ lw_g := lw_gi (lw_c6 (List.mem_of_getElem? (i := 43) rfl)) rfl
theorem wm_1244 : (Cond.fieldLink "DrawingHouse$Layers" (22 : Nat) "DrawingHouse$Layers" "layerCount" "I" : Cond) ∈ lw_g := lw_gi (lw_c6 (List.mem_of_getElem? (i := 44) rfl)) rfl
theorem wm_1245 : (Cond.fieldLink "DrawingHouse$Layers" (26 : Nat) "DrawingHouse$Layers" "items" "I" : Cond) ∈ lw_g := lw_gi (lw_c6 (List.mem_of_getElem? (i := 45) rfl)) rfl
theorem wm_1246 : (Cond.fieldLink "DrawingHouse$Layers" (29 : Nat) "DrawingHouse$Layers" "layerOf" "[I" : Cond) ∈ lw_g := lw_gi (lw_c6 (List.mem_of_getElem? (i := 46) rfl)) rfl
theorem wm_1247 : (Cond.fieldLink "DrawingHouse$Layers" (33 : Nat) "DrawingHouse$Layers" "firstJoint" "[I" : Cond) ∈ lw_g := lw_gi (lw_c6 (List.mem_of_getElem? (i := 47) rfl)) rfl
theorem wm_1248 : (Cond.fieldLink "DrawingHouse$Layers" (36 : Nat) "DrawingHouse$Layers" "pieceUpper" "[I" : Cond) ∈ lw_g := lw_gi (lw_c6 (List.mem_of_getElem? (i := 48) rfl)) rfl
theorem wm_1249 : (Cond.fieldLink "DrawingHouse$Layers" (39 : Nat) "DrawingHouse$Layers" "pieceLower" "[I" : Cond) ∈ lw_g := lw_gi (lw_c6 (List.mem_of_getElem? (i := 49) rfl)) rfl
theorem wm_1250 : (Cond.fieldLink "DrawingHouse$Layers" (42 : Nat) "DrawingHouse$Layers" "pieceWeight" "[I" : Cond) ∈ lw_g := lw_gi (lw_c6 (List.mem_of_getElem? (i := 50) rfl)) rfl
theorem wm_1251 : (Cond.fieldLink "DrawingHouse$Layers" (45 : Nat) "DrawingHouse$Layers" "pieceStart" "[I" : Cond) ∈ lw_g := lw_gi (lw_c6 (List.mem_of_getElem? (i := 51) rfl)) rfl
theorem wm_1252 : (Cond.fieldLink "DrawingHouse$Layers" (48 : Nat) "DrawingHouse$Layers" "layerStart" "[I" : Cond) ∈ lw_g := lw_gi (lw_c6 (List.mem_of_getElem? (i := 52) rfl)) rfl
theorem wm_1253 : (Cond.fieldLink "DrawingHouse$Layers" (51 : Nat) "DrawingHouse$Layers" "listed" "[I" : Cond) ∈ lw_g := lw_gi (lw_c6 (List.mem_of_getElem? (i := 53) rfl)) rfl
theorem wm_1254 : (Cond.fieldLink "DrawingHouse$Layers" (54 : Nat) "DrawingHouse$Layers" "slot" "[I" : Cond) ∈ lw_g := lw_gi (lw_c6 (List.mem_of_getElem? (i := 54) rfl)) rfl
theorem wm_1255 : (Cond.fieldLink "DrawingHouse$Layers" (57 : Nat) "DrawingHouse$Layers" "row" "[I" : Cond) ∈ lw_g := lw_gi (lw_c6 (List.mem_of_getElem? (i := 55) rfl)) rfl
theorem wm_1256 : (Cond.fieldLink "DrawingHouse$Layers" (60 : Nat) "DrawingHouse$Layers" "place" "[I" : Cond) ∈ lw_g := lw_gi (lw_c6 (List.mem_of_getElem? (i := 56) rfl)) rfl
theorem wm_1257 : (Cond.fieldLink "DrawingHouse$Layers" (63 : Nat) "DrawingHouse$Layers" "sum" "[I" : Cond) ∈ lw_g := lw_gi (lw_c6 (List.mem_of_getElem? (i := 57) rfl)) rfl
theorem wm_1258 : (Cond.fieldLink "DrawingHouse$Layers" (66 : Nat) "DrawingHouse$Layers" "joined" "[I" : Cond) ∈ lw_g := lw_gi (lw_c6 (List.mem_of_getElem? (i := 58) rfl)) rfl
theorem wm_1259 : (Cond.fieldLink "DrawingHouse$Layers" (69 : Nat) "DrawingHouse$Layers" "orders" "[I" : Cond) ∈ lw_g := lw_gi (lw_c6 (List.mem_of_getElem? (i := 59) rfl)) rfl
theorem wm_1260 : (Cond.fieldLink "DrawingHouse$Layers" (72 : Nat) "DrawingHouse$Layers" "least" "[I" : Cond) ∈ lw_g := lw_gi (lw_c6 (List.mem_of_getElem? (i := 60) rfl)) rfl
theorem wm_1261 : (Cond.fieldLink "DrawingHouse$Layers" (75 : Nat) "DrawingHouse$Layers" "low" "[I" : Cond) ∈ lw_g := lw_gi (lw_c6 (List.mem_of_getElem? (i := 61) rfl)) rfl
theorem wm_1262 : (Cond.fieldLink "DrawingHouse$Layers" (78 : Nat) "DrawingHouse$Layers" "pair" "[I" : Cond) ∈ lw_g := lw_gi (lw_c6 (List.mem_of_getElem? (i := 62) rfl)) rfl
theorem wm_1473 : (Cond.fieldLink "DrawingHouse$PlanarWays" (12 : Nat) "DrawingHouse$PlanarWays" "net" "LDrawingHouse$Net;" : Cond) ∈ lw_g := lw_gi (lw_c7 (List.mem_of_getElem? (i := 33) rfl)) rfl
theorem wm_1474 : (Cond.fieldLink "DrawingHouse$PlanarWays" (18 : Nat) "DrawingHouse$PlanarWays" "order" "[I" : Cond) ∈ lw_g := lw_gi (lw_c7 (List.mem_of_getElem? (i := 34) rfl)) rfl
theorem wm_1475 : (Cond.fieldLink "DrawingHouse$PlanarWays" (22 : Nat) "DrawingHouse$PlanarWays" "line" "[I" : Cond) ∈ lw_g := lw_gi (lw_c7 (List.mem_of_getElem? (i := 35) rfl)) rfl
theorem wm_1476 : (Cond.fieldLink "DrawingHouse$PlanarWays" (25 : Nat) "DrawingHouse$PlanarWays" "lineLength" "I" : Cond) ∈ lw_g := lw_gi (lw_c7 (List.mem_of_getElem? (i := 36) rfl)) rfl
theorem wm_1477 : (Cond.fieldLink "DrawingHouse$PlanarWays" (29 : Nat) "DrawingHouse$PlanarWays" "under" "[I" : Cond) ∈ lw_g := lw_gi (lw_c7 (List.mem_of_getElem? (i := 37) rfl)) rfl
theorem wm_1478 : (Cond.fieldLink "DrawingHouse$PlanarWays" (32 : Nat) "DrawingHouse$PlanarWays" "level" "[I" : Cond) ∈ lw_g := lw_gi (lw_c7 (List.mem_of_getElem? (i := 38) rfl)) rfl
theorem wm_1479 : (Cond.fieldLink "DrawingHouse$PlanarWays" (35 : Nat) "DrawingHouse$PlanarWays" "way" "[I" : Cond) ∈ lw_g := lw_gi (lw_c7 (List.mem_of_getElem? (i := 39) rfl)) rfl
theorem wm_1480 : (Cond.fieldLink "DrawingHouse$PlanarWays" (38 : Nat) "DrawingHouse$PlanarWays" "faceX" "[I" : Cond) ∈ lw_g := lw_gi (lw_c7 (List.mem_of_getElem? (i := 40) rfl)) rfl
theorem wm_1481 : (Cond.fieldLink "DrawingHouse$PlanarWays" (41 : Nat) "DrawingHouse$PlanarWays" "edgeX" "[I" : Cond) ∈ lw_g := lw_gi (lw_c7 (List.mem_of_getElem? (i := 41) rfl)) rfl
theorem wm_1625 : (Cond.fieldLink "DrawingHouse$PlainWays" (9 : Nat) "DrawingHouse$PlainWays" "graph" "LDrawingHouse$Graph;" : Cond) ∈ lw_g := lw_gi (lw_c7 (List.mem_of_getElem? (i := 185) rfl)) rfl
theorem wm_1626 : (Cond.fieldLink "DrawingHouse$PlainWays" (15 : Nat) "DrawingHouse$PlainWays" "drawing" "LDrawingHouse$Drawing;" : Cond) ∈ lw_g := lw_gi (lw_c7 (List.mem_of_getElem? (i := 186) rfl)) rfl
theorem wm_1627 : (Cond.fieldLink "DrawingHouse$PlainWays" (19 : Nat) "DrawingHouse$PlainWays" "order" "[I" : Cond) ∈ lw_g := lw_gi (lw_c7 (List.mem_of_getElem? (i := 187) rfl)) rfl
theorem wm_1628 : (Cond.fieldLink "DrawingHouse$PlainWays" (23 : Nat) "DrawingHouse$PlainWays" "best" "[I" : Cond) ∈ lw_g := lw_gi (lw_c7 (List.mem_of_getElem? (i := 188) rfl)) rfl
theorem wm_1629 : (Cond.fieldLink "DrawingHouse$PlainWays" (26 : Nat) "DrawingHouse$PlainWays" "level" "[I" : Cond) ∈ lw_g := lw_gi (lw_c7 (List.mem_of_getElem? (i := 189) rfl)) rfl
theorem wm_1630 : (Cond.fieldLink "DrawingHouse$PlainWays" (29 : Nat) "DrawingHouse$PlainWays" "parent" "[I" : Cond) ∈ lw_g := lw_gi (lw_c7 (List.mem_of_getElem? (i := 190) rfl)) rfl
theorem wm_1631 : (Cond.fieldLink "DrawingHouse$PlainWays" (32 : Nat) "DrawingHouse$PlainWays" "under" "[I" : Cond) ∈ lw_g := lw_gi (lw_c7 (List.mem_of_getElem? (i := 191) rfl)) rfl
theorem wm_1632 : (Cond.fieldLink "DrawingHouse$PlainWays" (35 : Nat) "DrawingHouse$PlainWays" "kids" "[I" : Cond) ∈ lw_g := lw_gi (lw_c7 (List.mem_of_getElem? (i := 192) rfl)) rfl
theorem wm_1633 : (Cond.fieldLink "DrawingHouse$PlainWays" (38 : Nat) "DrawingHouse$PlainWays" "fewest" "I" : Cond) ∈ lw_g := lw_gi (lw_c7 (List.mem_of_getElem? (i := 193) rfl)) rfl
theorem wm_1634 : (Cond.fieldLink "DrawingHouse$PlainWays" (42 : Nat) "DrawingHouse$PlainWays" "item" "[I" : Cond) ∈ lw_g := lw_gi (lw_c7 (List.mem_of_getElem? (i := 194) rfl)) rfl
theorem wm_1635 : (Cond.fieldLink "DrawingHouse$PlainWays" (45 : Nat) "DrawingHouse$PlainWays" "itemSize" "[I" : Cond) ∈ lw_g := lw_gi (lw_c7 (List.mem_of_getElem? (i := 195) rfl)) rfl
theorem wm_1636 : (Cond.fieldLink "DrawingHouse$PlainWays" (48 : Nat) "DrawingHouse$PlainWays" "items" "I" : Cond) ∈ lw_g := lw_gi (lw_c7 (List.mem_of_getElem? (i := 196) rfl)) rfl
theorem wm_1637 : (Cond.fieldLink "DrawingHouse$PlainWays" (51 : Nat) "DrawingHouse$PlainWays" "space" "[I" : Cond) ∈ lw_g := lw_gi (lw_c7 (List.mem_of_getElem? (i := 197) rfl)) rfl
theorem wm_1638 : (Cond.fieldLink "DrawingHouse$PlainWays" (54 : Nat) "DrawingHouse$PlainWays" "shapeLong" "J" : Cond) ∈ lw_g := lw_gi (lw_c7 (List.mem_of_getElem? (i := 198) rfl)) rfl
theorem wm_1639 : (Cond.fieldLink "DrawingHouse$PlainWays" (58 : Nat) "DrawingHouse$PlainWays" "shapeShort" "J" : Cond) ∈ lw_g := lw_gi (lw_c7 (List.mem_of_getElem? (i := 199) rfl)) rfl
theorem wm_1640 : (Cond.fieldLink "DrawingHouse$PlainWays" (61 : Nat) "DrawingHouse$PlainWays" "placeX" "[J" : Cond) ∈ lw_g := lw_gi (lw_c7 (List.mem_of_getElem? (i := 200) rfl)) rfl
theorem wm_1641 : (Cond.fieldLink "DrawingHouse$PlainWays" (65 : Nat) "DrawingHouse$PlainWays" "placeY" "[J" : Cond) ∈ lw_g := lw_gi (lw_c7 (List.mem_of_getElem? (i := 201) rfl)) rfl
theorem wm_1642 : (Cond.fieldLink "DrawingHouse$PlainWays" (68 : Nat) "DrawingHouse$PlainWays" "pullX" "[J" : Cond) ∈ lw_g := lw_gi (lw_c7 (List.mem_of_getElem? (i := 202) rfl)) rfl
theorem wm_1643 : (Cond.fieldLink "DrawingHouse$PlainWays" (71 : Nat) "DrawingHouse$PlainWays" "pullY" "[J" : Cond) ∈ lw_g := lw_gi (lw_c7 (List.mem_of_getElem? (i := 203) rfl)) rfl
theorem wm_1791 : (Cond.constantLong "DrawingHouse$PlainWays" (245 : Nat) (65536 : Int64) : Cond) ∈ lw_g := lw_gi (lw_c8 (List.mem_of_getElem? (i := 111) rfl)) rfl
theorem wm_1796 : (Cond.constantLong "DrawingHouse$PlainWays" (254 : Nat) (1024 : Int64) : Cond) ∈ lw_g := lw_gi (lw_c8 (List.mem_of_getElem? (i := 116) rfl)) rfl
theorem wm_1797 : (Cond.constantLong "DrawingHouse$PlainWays" (238 : Nat) (16 : Int64) : Cond) ∈ lw_g := lw_gi (lw_c8 (List.mem_of_getElem? (i := 117) rfl)) rfl
theorem wm_1867 : (Cond.fieldLink "DrawingHouse$Router" (9 : Nat) "DrawingHouse$Router" "graph" "LDrawingHouse$Graph;" : Cond) ∈ lw_g := lw_gi (lw_c8 (List.mem_of_getElem? (i := 187) rfl)) rfl
theorem wm_1868 : (Cond.fieldLink "DrawingHouse$Router" (15 : Nat) "DrawingHouse$Router" "drawing" "LDrawingHouse$Drawing;" : Cond) ∈ lw_g := lw_gi (lw_c8 (List.mem_of_getElem? (i := 188) rfl)) rfl
theorem wm_1869 : (Cond.fieldLink "DrawingHouse$Router" (19 : Nat) "DrawingHouse$Router" "left" "I" : Cond) ∈ lw_g := lw_gi (lw_c8 (List.mem_of_getElem? (i := 189) rfl)) rfl
theorem wm_1870 : (Cond.fieldLink "DrawingHouse$Router" (23 : Nat) "DrawingHouse$Router" "top" "I" : Cond) ∈ lw_g := lw_gi (lw_c8 (List.mem_of_getElem? (i := 190) rfl)) rfl
theorem wm_1871 : (Cond.fieldLink "DrawingHouse$Router" (26 : Nat) "DrawingHouse$Router" "width" "I" : Cond) ∈ lw_g := lw_gi (lw_c8 (List.mem_of_getElem? (i := 191) rfl)) rfl
theorem wm_1872 : (Cond.fieldLink "DrawingHouse$Router" (29 : Nat) "DrawingHouse$Router" "height" "I" : Cond) ∈ lw_g := lw_gi (lw_c8 (List.mem_of_getElem? (i := 192) rfl)) rfl
theorem wm_1873 : (Cond.fieldLink "DrawingHouse$Router" (32 : Nat) "DrawingHouse$Router" "start" "I" : Cond) ∈ lw_g := lw_gi (lw_c8 (List.mem_of_getElem? (i := 193) rfl)) rfl
theorem wm_1874 : (Cond.fieldLink "DrawingHouse$Router" (35 : Nat) "DrawingHouse$Router" "goal" "I" : Cond) ∈ lw_g := lw_gi (lw_c8 (List.mem_of_getElem? (i := 194) rfl)) rfl
theorem wm_1875 : (Cond.fieldLink "DrawingHouse$Router" (38 : Nat) "DrawingHouse$Router" "whole" "I" : Cond) ∈ lw_g := lw_gi (lw_c8 (List.mem_of_getElem? (i := 195) rfl)) rfl
theorem wm_1876 : (Cond.fieldLink "DrawingHouse$Router" (41 : Nat) "DrawingHouse$Router" "barred" "[Z" : Cond) ∈ lw_g := lw_gi (lw_c8 (List.mem_of_getElem? (i := 196) rfl)) rfl
theorem wm_1877 : (Cond.fieldLink "DrawingHouse$Router" (45 : Nat) "DrawingHouse$Router" "cost" "[I" : Cond) ∈ lw_g := lw_gi (lw_c8 (List.mem_of_getElem? (i := 197) rfl)) rfl
theorem wm_1878 : (Cond.fieldLink "DrawingHouse$Router" (49 : Nat) "DrawingHouse$Router" "list" "[I" : Cond) ∈ lw_g := lw_gi (lw_c8 (List.mem_of_getElem? (i := 198) rfl)) rfl
theorem wm_1879 : (Cond.fieldLink "DrawingHouse$Router" (53 : Nat) "DrawingHouse$Router" "entryState" "[I" : Cond) ∈ lw_g := lw_gi (lw_c8 (List.mem_of_getElem? (i := 199) rfl)) rfl
theorem wm_1880 : (Cond.fieldLink "DrawingHouse$Router" (56 : Nat) "DrawingHouse$Router" "entryNext" "[I" : Cond) ∈ lw_g := lw_gi (lw_c8 (List.mem_of_getElem? (i := 200) rfl)) rfl
theorem wm_1881 : (Cond.fieldLink "DrawingHouse$Router" (59 : Nat) "DrawingHouse$Router" "entries" "I" : Cond) ∈ lw_g := lw_gi (lw_c8 (List.mem_of_getElem? (i := 201) rfl)) rfl
theorem wm_1882 : (Cond.fieldLink "DrawingHouse$Router" (62 : Nat) "DrawingHouse$Router" "turnX" "[I" : Cond) ∈ lw_g := lw_gi (lw_c8 (List.mem_of_getElem? (i := 202) rfl)) rfl
theorem wm_1883 : (Cond.fieldLink "DrawingHouse$Router" (65 : Nat) "DrawingHouse$Router" "turnY" "[I" : Cond) ∈ lw_g := lw_gi (lw_c8 (List.mem_of_getElem? (i := 203) rfl)) rfl
theorem wm_1884 : (Cond.fieldLink "DrawingHouse$Router" (68 : Nat) "DrawingHouse$Router" "turns" "I" : Cond) ∈ lw_g := lw_gi (lw_c8 (List.mem_of_getElem? (i := 204) rfl)) rfl
theorem wm_1935 : (Cond.constantLong "DrawingHouse$Router" (129 : Nat) (6000 : Int64) : Cond) ∈ lw_g := lw_gi (lw_c9 (List.mem_of_getElem? (i := 15) rfl)) rfl
theorem wm_2079 : (Cond.constantLong "DrawingHouse$Drawing" (189 : Nat) (-1 : Int64) : Cond) ∈ lw_g := lw_gi (lw_c9 (List.mem_of_getElem? (i := 159) rfl)) rfl
theorem wm_2084 : (Cond.constantLong "DrawingHouse" (340 : Nat) (-1 : Int64) : Cond) ∈ lw_g := lw_gi (lw_c9 (List.mem_of_getElem? (i := 164) rfl)) rfl
theorem wm_2096 : (Cond.fieldLink "DrawingHouse$Styler" (9 : Nat) "DrawingHouse$Styler" "rules" "I" : Cond) ∈ lw_g := lw_gi (lw_c9 (List.mem_of_getElem? (i := 176) rfl)) rfl
theorem wm_2097 : (Cond.fieldLink "DrawingHouse" (358 : Nat) "DrawingHouse$Styler" "rules" "I" : Cond) ∈ lw_g := lw_gi (lw_c9 (List.mem_of_getElem? (i := 177) rfl)) rfl
theorem wm_2098 : (Cond.fieldLink "DrawingHouse$Styler" (15 : Nat) "DrawingHouse$Styler" "fault" "I" : Cond) ∈ lw_g := lw_gi (lw_c9 (List.mem_of_getElem? (i := 178) rfl)) rfl
theorem wm_2099 : (Cond.fieldLink "DrawingHouse" (352 : Nat) "DrawingHouse$Styler" "fault" "I" : Cond) ∈ lw_g := lw_gi (lw_c9 (List.mem_of_getElem? (i := 179) rfl)) rfl
theorem wm_2100 : (Cond.fieldLink "DrawingHouse$Styler" (18 : Nat) "DrawingHouse$Styler" "faultPlace" "I" : Cond) ∈ lw_g := lw_gi (lw_c9 (List.mem_of_getElem? (i := 180) rfl)) rfl
theorem wm_2101 : (Cond.fieldLink "DrawingHouse" (353 : Nat) "DrawingHouse$Styler" "faultPlace" "I" : Cond) ∈ lw_g := lw_gi (lw_c9 (List.mem_of_getElem? (i := 181) rfl)) rfl
theorem wm_2102 : (Cond.fieldLink "DrawingHouse$Styler" (21 : Nat) "DrawingHouse$Styler" "bytes" "[B" : Cond) ∈ lw_g := lw_gi (lw_c9 (List.mem_of_getElem? (i := 182) rfl)) rfl
theorem wm_2103 : (Cond.fieldLink "DrawingHouse$Styler" (25 : Nat) "DrawingHouse$Styler" "end" "I" : Cond) ∈ lw_g := lw_gi (lw_c9 (List.mem_of_getElem? (i := 183) rfl)) rfl
theorem wm_2104 : (Cond.fieldLink "DrawingHouse$Styler" (28 : Nat) "DrawingHouse$Styler" "next" "I" : Cond) ∈ lw_g := lw_gi (lw_c9 (List.mem_of_getElem? (i := 184) rfl)) rfl
theorem wm_2105 : (Cond.fieldLink "DrawingHouse$Styler" (31 : Nat) "DrawingHouse$Styler" "kind" "I" : Cond) ∈ lw_g := lw_gi (lw_c9 (List.mem_of_getElem? (i := 185) rfl)) rfl
theorem wm_2106 : (Cond.fieldLink "DrawingHouse$Styler" (34 : Nat) "DrawingHouse$Styler" "begin" "I" : Cond) ∈ lw_g := lw_gi (lw_c9 (List.mem_of_getElem? (i := 186) rfl)) rfl
theorem wm_2107 : (Cond.fieldLink "DrawingHouse$Styler" (37 : Nat) "DrawingHouse$Styler" "number" "I" : Cond) ∈ lw_g := lw_gi (lw_c9 (List.mem_of_getElem? (i := 187) rfl)) rfl
theorem wm_2108 : (Cond.fieldLink "DrawingHouse$Styler" (42 : Nat) "DrawingHouse$Styler" "words" "Ljava/lang/String;" : Cond) ∈ lw_g := lw_gi (lw_c9 (List.mem_of_getElem? (i := 188) rfl)) rfl
theorem wm_2109 : (Cond.fieldLink "DrawingHouse$Styler" (46 : Nat) "DrawingHouse$Styler" "code" "[I" : Cond) ∈ lw_g := lw_gi (lw_c9 (List.mem_of_getElem? (i := 189) rfl)) rfl
theorem wm_2110 : (Cond.fieldLink "DrawingHouse$Styler" (50 : Nat) "DrawingHouse$Styler" "codeLength" "I" : Cond) ∈ lw_g := lw_gi (lw_c9 (List.mem_of_getElem? (i := 190) rfl)) rfl
theorem wm_2111 : (Cond.fieldLink "DrawingHouse$Styler" (53 : Nat) "DrawingHouse$Styler" "ruleStart" "[I" : Cond) ∈ lw_g := lw_gi (lw_c9 (List.mem_of_getElem? (i := 191) rfl)) rfl
theorem wm_2112 : (Cond.fieldLink "DrawingHouse$Styler" (56 : Nat) "DrawingHouse$Styler" "ruleKind" "[I" : Cond) ∈ lw_g := lw_gi (lw_c9 (List.mem_of_getElem? (i := 192) rfl)) rfl
theorem wm_2113 : (Cond.fieldLink "DrawingHouse$Styler" (59 : Nat) "DrawingHouse$Styler" "stack" "[J" : Cond) ∈ lw_g := lw_gi (lw_c9 (List.mem_of_getElem? (i := 193) rfl)) rfl
theorem wm_2114 : (Cond.fieldLink "DrawingHouse$Styler" (63 : Nat) "DrawingHouse$Styler" "height" "I" : Cond) ∈ lw_g := lw_gi (lw_c9 (List.mem_of_getElem? (i := 194) rfl)) rfl
theorem wm_2115 : (Cond.fieldLink "DrawingHouse$Styler" (66 : Nat) "DrawingHouse$Styler" "value" "[J" : Cond) ∈ lw_g := lw_gi (lw_c9 (List.mem_of_getElem? (i := 195) rfl)) rfl
theorem wm_2302 : (Cond.constantLong "DrawingHouse$Styler" (255 : Nat) (255 : Int64) : Cond) ∈ lw_g := lw_gi (lw_c10 (List.mem_of_getElem? (i := 142) rfl)) rfl
theorem wm_2433 : (Cond.fieldLink "DrawingHouseModel" (383 : Nat) "DrawingHouseModel" "taped" "I" : Cond) ∈ lw_g := lw_gi (lw_c11 (List.mem_of_getElem? (i := 33) rfl)) rfl
theorem wm_2434 : (Cond.fieldLink "DrawingHouseModel" (9 : Nat) "DrawingHouseModel" "tape" "[B" : Cond) ∈ lw_g := lw_gi (lw_c11 (List.mem_of_getElem? (i := 34) rfl)) rfl
theorem wm_2435 : (Cond.fieldLink "DrawingHouseModel" (16 : Nat) "DrawingHouseModel" "all" "[I" : Cond) ∈ lw_g := lw_gi (lw_c11 (List.mem_of_getElem? (i := 35) rfl)) rfl
theorem wm_2436 : (Cond.fieldLink "DrawingHouseModel" (20 : Nat) "DrawingHouseModel" "now" "[I" : Cond) ∈ lw_g := lw_gi (lw_c11 (List.mem_of_getElem? (i := 36) rfl)) rfl
theorem wm_2437 : (Cond.fieldLink "DrawingHouseModel" (23 : Nat) "DrawingHouseModel" "latest" "[I" : Cond) ∈ lw_g := lw_gi (lw_c11 (List.mem_of_getElem? (i := 37) rfl)) rfl
theorem wm_2438 : (Cond.fieldLink "DrawingHouseModel" (391 : Nat) "DrawingHouseModel" "\x72" "I" : Cond) ∈ lw_g := lw_gi (lw_c11 (List.mem_of_getElem? (i := 38) rfl)) rfl
theorem wm_2439 : (Cond.fieldLink "DrawingHouseModel" (26 : Nat) "DrawingHouseModel" "fresh" "[I" : Cond) ∈ lw_g := lw_gi (lw_c11 (List.mem_of_getElem? (i := 39) rfl)) rfl
theorem wm_2440 : (Cond.fieldLink "DrawingHouseModel" (409 : Nat) "DrawingHouseModel" "isTold" "Z" : Cond) ∈ lw_g := lw_gi (lw_c11 (List.mem_of_getElem? (i := 40) rfl)) rfl
theorem wm_2441 : (Cond.fieldLink "DrawingHouseModel" (413 : Nat) "DrawingHouseModel" "fault" "I" : Cond) ∈ lw_g := lw_gi (lw_c11 (List.mem_of_getElem? (i := 41) rfl)) rfl
theorem wm_2442 : (Cond.fieldLink "DrawingHouseModel" (416 : Nat) "DrawingHouseModel" "faultPlace" "I" : Cond) ∈ lw_g := lw_gi (lw_c11 (List.mem_of_getElem? (i := 42) rfl)) rfl
theorem wm_2443 : (Cond.fieldLink "DrawingHouseModel" (419 : Nat) "DrawingHouseModel" "limit" "I" : Cond) ∈ lw_g := lw_gi (lw_c11 (List.mem_of_getElem? (i := 43) rfl)) rfl
theorem wm_2444 : (Cond.fieldLink "DrawingHouseModel" (422 : Nat) "DrawingHouseModel" "pos" "I" : Cond) ∈ lw_g := lw_gi (lw_c11 (List.mem_of_getElem? (i := 44) rfl)) rfl
theorem wm_2445 : (Cond.fieldLink "DrawingHouseModel" (434 : Nat) "DrawingHouseModel" "kind" "I" : Cond) ∈ lw_g := lw_gi (lw_c11 (List.mem_of_getElem? (i := 45) rfl)) rfl
theorem wm_2446 : (Cond.fieldLink "DrawingHouseModel" (428 : Nat) "DrawingHouseModel" "place" "I" : Cond) ∈ lw_g := lw_gi (lw_c11 (List.mem_of_getElem? (i := 46) rfl)) rfl
theorem wm_2447 : (Cond.fieldLink "DrawingHouseModel" (437 : Nat) "DrawingHouseModel" "value" "I" : Cond) ∈ lw_g := lw_gi (lw_c11 (List.mem_of_getElem? (i := 47) rfl)) rfl
theorem wm_2448 : (Cond.fieldLink "DrawingHouseModel" (431 : Nat) "DrawingHouseModel" "from" "I" : Cond) ∈ lw_g := lw_gi (lw_c11 (List.mem_of_getElem? (i := 48) rfl)) rfl
theorem wm_2449 : (Cond.fieldLink "DrawingHouseModel" (29 : Nat) "DrawingHouseModel" "partOf" "[I" : Cond) ∈ lw_g := lw_gi (lw_c11 (List.mem_of_getElem? (i := 49) rfl)) rfl
theorem wm_2450 : (Cond.fieldLink "DrawingHouseModel" (32 : Nat) "DrawingHouseModel" "blockOf" "[I" : Cond) ∈ lw_g := lw_gi (lw_c11 (List.mem_of_getElem? (i := 50) rfl)) rfl
theorem wm_2451 : (Cond.fieldLink "DrawingHouseModel" (35 : Nat) "DrawingHouseModel" "strongOf" "[I" : Cond) ∈ lw_g := lw_gi (lw_c11 (List.mem_of_getElem? (i := 51) rfl)) rfl
theorem wm_2452 : (Cond.fieldLink "DrawingHouseModel" (38 : Nat) "DrawingHouseModel" "farOf" "[I" : Cond) ∈ lw_g := lw_gi (lw_c11 (List.mem_of_getElem? (i := 52) rfl)) rfl
theorem wm_2453 : (Cond.fieldLink "DrawingHouseModel" (41 : Nat) "DrawingHouseModel" "line" "[I" : Cond) ∈ lw_g := lw_gi (lw_c11 (List.mem_of_getElem? (i := 53) rfl)) rfl
theorem wm_2454 : (Cond.fieldLink "DrawingHouseModel" (44 : Nat) "DrawingHouseModel" "reach" "[Z" : Cond) ∈ lw_g := lw_gi (lw_c11 (List.mem_of_getElem? (i := 54) rfl)) rfl
theorem wm_2455 : (Cond.fieldLink "DrawingHouseModel" (48 : Nat) "DrawingHouseModel" "left" "[Z" : Cond) ∈ lw_g := lw_gi (lw_c11 (List.mem_of_getElem? (i := 55) rfl)) rfl
theorem wm_2456 : (Cond.fieldLink "DrawingHouseModel" (51 : Nat) "DrawingHouseModel" "map" "[I" : Cond) ∈ lw_g := lw_gi (lw_c11 (List.mem_of_getElem? (i := 56) rfl)) rfl
theorem wm_2457 : (Cond.fieldLink "DrawingHouseModel" (54 : Nat) "DrawingHouseModel" "mapTried" "[I" : Cond) ∈ lw_g := lw_gi (lw_c11 (List.mem_of_getElem? (i := 57) rfl)) rfl
theorem wm_2458 : (Cond.fieldLink "DrawingHouseModel" (581 : Nat) "DrawingHouseModel" "isMapped" "Z" : Cond) ∈ lw_g := lw_gi (lw_c11 (List.mem_of_getElem? (i := 58) rfl)) rfl
theorem wm_2459 : (Cond.fieldLink "DrawingHouseModel" (584 : Nat) "DrawingHouseModel" "mapNodes" "I" : Cond) ∈ lw_g := lw_gi (lw_c11 (List.mem_of_getElem? (i := 59) rfl)) rfl
theorem wm_2460 : (Cond.fieldLink "DrawingHouseModel" (572 : Nat) "DrawingHouseModel" "steps" "I" : Cond) ∈ lw_g := lw_gi (lw_c11 (List.mem_of_getElem? (i := 60) rfl)) rfl
theorem wm_2461 : (Cond.fieldLink "DrawingHouseModel" (566 : Nat) "DrawingHouseModel" "rowA" "I" : Cond) ∈ lw_g := lw_gi (lw_c11 (List.mem_of_getElem? (i := 61) rfl)) rfl
theorem wm_2462 : (Cond.fieldLink "DrawingHouseModel" (569 : Nat) "DrawingHouseModel" "rowB" "I" : Cond) ∈ lw_g := lw_gi (lw_c11 (List.mem_of_getElem? (i := 62) rfl)) rfl
theorem wm_2463 : (Cond.fieldLink "DrawingHouseModel" (575 : Nat) "DrawingHouseModel" "hasSteps" "Z" : Cond) ∈ lw_g := lw_gi (lw_c11 (List.mem_of_getElem? (i := 63) rfl)) rfl
theorem wm_2464 : (Cond.fieldLink "DrawingHouseModel" (594 : Nat) "DrawingHouseModel" "pn" "I" : Cond) ∈ lw_g := lw_gi (lw_c11 (List.mem_of_getElem? (i := 64) rfl)) rfl
theorem wm_2465 : (Cond.fieldLink "DrawingHouseModel" (597 : Nat) "DrawingHouseModel" "pm" "I" : Cond) ∈ lw_g := lw_gi (lw_c11 (List.mem_of_getElem? (i := 65) rfl)) rfl
theorem wm_2466 : (Cond.fieldLink "DrawingHouseModel" (57 : Nat) "DrawingHouseModel" "pt" "[I" : Cond) ∈ lw_g := lw_gi (lw_c11 (List.mem_of_getElem? (i := 66) rfl)) rfl
theorem wm_2467 : (Cond.fieldLink "DrawingHouseModel" (60 : Nat) "DrawingHouseModel" "ph" "[I" : Cond) ∈ lw_g := lw_gi (lw_c11 (List.mem_of_getElem? (i := 67) rfl)) rfl
theorem wm_2468 : (Cond.fieldLink "DrawingHouseModel" (63 : Nat) "DrawingHouseModel" "alive" "[Z" : Cond) ∈ lw_g := lw_gi (lw_c11 (List.mem_of_getElem? (i := 68) rfl)) rfl
theorem wm_2469 : (Cond.fieldLink "DrawingHouseModel" (66 : Nat) "DrawingHouseModel" "rotMany" "[I" : Cond) ∈ lw_g := lw_gi (lw_c11 (List.mem_of_getElem? (i := 69) rfl)) rfl
theorem wm_2470 : (Cond.fieldLink "DrawingHouseModel" (69 : Nat) "DrawingHouseModel" "rot" "[I" : Cond) ∈ lw_g := lw_gi (lw_c11 (List.mem_of_getElem? (i := 70) rfl)) rfl
theorem wm_2471 : (Cond.fieldLink "DrawingHouseModel" (72 : Nat) "DrawingHouseModel" "seen" "[Z" : Cond) ∈ lw_g := lw_gi (lw_c11 (List.mem_of_getElem? (i := 71) rfl)) rfl
theorem wm_2472 : (Cond.fieldLink "DrawingHouseModel" (612 : Nat) "DrawingHouseModel" "faces" "I" : Cond) ∈ lw_g := lw_gi (lw_c11 (List.mem_of_getElem? (i := 72) rfl)) rfl
theorem wm_2473 : (Cond.fieldLink "DrawingHouseModel" (75 : Nat) "DrawingHouseModel" "faceMany" "[I" : Cond) ∈ lw_g := lw_gi (lw_c11 (List.mem_of_getElem? (i := 73) rfl)) rfl
theorem wm_2474 : (Cond.fieldLink "DrawingHouseModel" (78 : Nat) "DrawingHouseModel" "face" "[I" : Cond) ∈ lw_g := lw_gi (lw_c11 (List.mem_of_getElem? (i := 74) rfl)) rfl
theorem wm_2475 : (Cond.fieldLink "DrawingHouseModel" (81 : Nat) "DrawingHouseModel" "drawnNode" "[Z" : Cond) ∈ lw_g := lw_gi (lw_c11 (List.mem_of_getElem? (i := 75) rfl)) rfl
theorem wm_2476 : (Cond.fieldLink "DrawingHouseModel" (84 : Nat) "DrawingHouseModel" "drawnEdge" "[Z" : Cond) ∈ lw_g := lw_gi (lw_c11 (List.mem_of_getElem? (i := 76) rfl)) rfl
theorem wm_2477 : (Cond.fieldLink "DrawingHouseModel" (87 : Nat) "DrawingHouseModel" "pieceOf" "[I" : Cond) ∈ lw_g := lw_gi (lw_c11 (List.mem_of_getElem? (i := 77) rfl)) rfl
theorem wm_2478 : (Cond.fieldLink "DrawingHouseModel" (619 : Nat) "DrawingHouseModel" "wayMany" "I" : Cond) ∈ lw_g := lw_gi (lw_c11 (List.mem_of_getElem? (i := 78) rfl)) rfl
theorem wm_2479 : (Cond.fieldLink "DrawingHouseModel" (90 : Nat) "DrawingHouseModel" "way" "[I" : Cond) ∈ lw_g := lw_gi (lw_c11 (List.mem_of_getElem? (i := 79) rfl)) rfl
theorem wm_2480 : (Cond.fieldLink "DrawingHouseModel" (93 : Nat) "DrawingHouseModel" "toGoal" "[I" : Cond) ∈ lw_g := lw_gi (lw_c11 (List.mem_of_getElem? (i := 80) rfl)) rfl
theorem wm_2481 : (Cond.fieldLink "DrawingHouseModel" (649 : Nat) "DrawingHouseModel" "onlyPiece" "I" : Cond) ∈ lw_g := lw_gi (lw_c11 (List.mem_of_getElem? (i := 81) rfl)) rfl
theorem wm_2482 : (Cond.fieldLink "DrawingHouseModel" (96 : Nat) "DrawingHouseModel" "ends" "[I" : Cond) ∈ lw_g := lw_gi (lw_c11 (List.mem_of_getElem? (i := 82) rfl)) rfl
theorem wm_2483 : (Cond.fieldLink "DrawingHouseModel" (99 : Nat) "DrawingHouseModel" "faceNodes" "[I" : Cond) ∈ lw_g := lw_gi (lw_c11 (List.mem_of_getElem? (i := 83) rfl)) rfl
theorem wm_2484 : (Cond.fieldLink "DrawingHouseModel" (102 : Nat) "DrawingHouseModel" "bestWay" "[I" : Cond) ∈ lw_g := lw_gi (lw_c11 (List.mem_of_getElem? (i := 84) rfl)) rfl
theorem wm_2485 : (Cond.fieldLink "DrawingHouseModel" (683 : Nat) "DrawingHouseModel" "rounds" "I" : Cond) ∈ lw_g := lw_gi (lw_c11 (List.mem_of_getElem? (i := 85) rfl)) rfl
theorem wm_2486 : (Cond.fieldLink "DrawingHouseModel" (105 : Nat) "DrawingHouseModel" "roundOf" "[I" : Cond) ∈ lw_g := lw_gi (lw_c11 (List.mem_of_getElem? (i := 86) rfl)) rfl
theorem wm_2487 : (Cond.fieldLink "DrawingHouseModel" (108 : Nat) "DrawingHouseModel" "dartAt" "[I" : Cond) ∈ lw_g := lw_gi (lw_c11 (List.mem_of_getElem? (i := 87) rfl)) rfl
theorem wm_2488 : (Cond.fieldLink "DrawingHouseModel" (111 : Nat) "DrawingHouseModel" "roundBegin" "[I" : Cond) ∈ lw_g := lw_gi (lw_c11 (List.mem_of_getElem? (i := 88) rfl)) rfl
theorem wm_2489 : (Cond.fieldLink "DrawingHouseModel" (114 : Nat) "DrawingHouseModel" "roundDart" "[I" : Cond) ∈ lw_g := lw_gi (lw_c11 (List.mem_of_getElem? (i := 89) rfl)) rfl
theorem wm_2490 : (Cond.fieldLink "DrawingHouseModel" (695 : Nat) "DrawingHouseModel" "barredMany" "I" : Cond) ∈ lw_g := lw_gi (lw_c11 (List.mem_of_getElem? (i := 90) rfl)) rfl
theorem wm_2491 : (Cond.fieldLink "DrawingHouseModel" (698 : Nat) "DrawingHouseModel" "barredKind" "I" : Cond) ∈ lw_g := lw_gi (lw_c11 (List.mem_of_getElem? (i := 91) rfl)) rfl
theorem wm_2492 : (Cond.fieldLink "DrawingHouseModel" (117 : Nat) "DrawingHouseModel" "barred" "[I" : Cond) ∈ lw_g := lw_gi (lw_c11 (List.mem_of_getElem? (i := 92) rfl)) rfl
theorem wm_2493 : (Cond.fieldLink "DrawingHouseModel" (120 : Nat) "DrawingHouseModel" "drawn" "[I" : Cond) ∈ lw_g := lw_gi (lw_c11 (List.mem_of_getElem? (i := 93) rfl)) rfl
theorem wm_2494 : (Cond.fieldLink "DrawingHouseModel" (123 : Nat) "DrawingHouseModel" "nodeX" "[I" : Cond) ∈ lw_g := lw_gi (lw_c11 (List.mem_of_getElem? (i := 94) rfl)) rfl
theorem wm_2495 : (Cond.fieldLink "DrawingHouseModel" (126 : Nat) "DrawingHouseModel" "nodeY" "[I" : Cond) ∈ lw_g := lw_gi (lw_c11 (List.mem_of_getElem? (i := 95) rfl)) rfl
theorem wm_2496 : (Cond.fieldLink "DrawingHouseModel" (129 : Nat) "DrawingHouseModel" "bendMany" "[I" : Cond) ∈ lw_g := lw_gi (lw_c11 (List.mem_of_getElem? (i := 96) rfl)) rfl
theorem wm_2497 : (Cond.fieldLink "DrawingHouseModel" (132 : Nat) "DrawingHouseModel" "bendX" "[I" : Cond) ∈ lw_g := lw_gi (lw_c11 (List.mem_of_getElem? (i := 97) rfl)) rfl
theorem wm_2498 : (Cond.fieldLink "DrawingHouseModel" (135 : Nat) "DrawingHouseModel" "bendY" "[I" : Cond) ∈ lw_g := lw_gi (lw_c11 (List.mem_of_getElem? (i := 98) rfl)) rfl
theorem wm_2499 : (Cond.fieldLink "DrawingHouseModel" (138 : Nat) "DrawingHouseModel" "toldCross" "[I" : Cond) ∈ lw_g := lw_gi (lw_c11 (List.mem_of_getElem? (i := 99) rfl)) rfl
theorem wm_2500 : (Cond.fieldLink "DrawingHouseModel" (141 : Nat) "DrawingHouseModel" "toldSum" "[I" : Cond) ∈ lw_g := lw_gi (lw_c11 (List.mem_of_getElem? (i := 100) rfl)) rfl
theorem wm_2501 : (Cond.fieldLink "DrawingHouseModel" (144 : Nat) "DrawingHouseModel" "toldLayer" "[I" : Cond) ∈ lw_g := lw_gi (lw_c11 (List.mem_of_getElem? (i := 101) rfl)) rfl
theorem wm_2502 : (Cond.fieldLink "DrawingHouseModel" (147 : Nat) "DrawingHouseModel" "toldTurned" "[I" : Cond) ∈ lw_g := lw_gi (lw_c11 (List.mem_of_getElem? (i := 102) rfl)) rfl
theorem wm_2503 : (Cond.fieldLink "DrawingHouseModel" (150 : Nat) "DrawingHouseModel" "toldArea" "[I" : Cond) ∈ lw_g := lw_gi (lw_c11 (List.mem_of_getElem? (i := 103) rfl)) rfl
theorem wm_2504 : (Cond.fieldLink "DrawingHouseModel" (153 : Nat) "DrawingHouseModel" "toldGroup" "[I" : Cond) ∈ lw_g := lw_gi (lw_c11 (List.mem_of_getElem? (i := 104) rfl)) rfl
theorem wm_2505 : (Cond.fieldLink "DrawingHouseModel" (156 : Nat) "DrawingHouseModel" "shades" "[I" : Cond) ∈ lw_g := lw_gi (lw_c11 (List.mem_of_getElem? (i := 105) rfl)) rfl
theorem wm_2506 : (Cond.fieldLink "DrawingHouseModel" (159 : Nat) "DrawingHouseModel" "nx" "[I" : Cond) ∈ lw_g := lw_gi (lw_c11 (List.mem_of_getElem? (i := 106) rfl)) rfl
theorem wm_2507 : (Cond.fieldLink "DrawingHouseModel" (162 : Nat) "DrawingHouseModel" "ny" "[I" : Cond) ∈ lw_g := lw_gi (lw_c11 (List.mem_of_getElem? (i := 107) rfl)) rfl
theorem wm_2508 : (Cond.fieldLink "DrawingHouseModel" (165 : Nat) "DrawingHouseModel" "bm" "[I" : Cond) ∈ lw_g := lw_gi (lw_c11 (List.mem_of_getElem? (i := 108) rfl)) rfl
theorem wm_2509 : (Cond.fieldLink "DrawingHouseModel" (168 : Nat) "DrawingHouseModel" "bx" "[I" : Cond) ∈ lw_g := lw_gi (lw_c11 (List.mem_of_getElem? (i := 109) rfl)) rfl
theorem wm_2510 : (Cond.fieldLink "DrawingHouseModel" (171 : Nat) "DrawingHouseModel" "by" "[I" : Cond) ∈ lw_g := lw_gi (lw_c11 (List.mem_of_getElem? (i := 110) rfl)) rfl
theorem wm_2511 : (Cond.fieldLink "DrawingHouseModel" (783 : Nat) "DrawingHouseModel" "pointMany" "I" : Cond) ∈ lw_g := lw_gi (lw_c11 (List.mem_of_getElem? (i := 111) rfl)) rfl
theorem wm_2512 : (Cond.fieldLink "DrawingHouseModel" (777 : Nat) "DrawingHouseModel" "costMany" "I" : Cond) ∈ lw_g := lw_gi (lw_c11 (List.mem_of_getElem? (i := 112) rfl)) rfl
theorem wm_2513 : (Cond.fieldLink "DrawingHouseModel" (780 : Nat) "DrawingHouseModel" "apartMany" "I" : Cond) ∈ lw_g := lw_gi (lw_c11 (List.mem_of_getElem? (i := 113) rfl)) rfl
theorem wm_2514 : (Cond.fieldLink "DrawingHouseModel" (174 : Nat) "DrawingHouseModel" "spot" "[I" : Cond) ∈ lw_g := lw_gi (lw_c11 (List.mem_of_getElem? (i := 114) rfl)) rfl
theorem wm_2515 : (Cond.fieldLink "DrawingHouseModel" (177 : Nat) "DrawingHouseModel" "costA" "[I" : Cond) ∈ lw_g := lw_gi (lw_c11 (List.mem_of_getElem? (i := 115) rfl)) rfl
theorem wm_2516 : (Cond.fieldLink "DrawingHouseModel" (180 : Nat) "DrawingHouseModel" "costB" "[I" : Cond) ∈ lw_g := lw_gi (lw_c11 (List.mem_of_getElem? (i := 116) rfl)) rfl
theorem wm_2517 : (Cond.fieldLink "DrawingHouseModel" (183 : Nat) "DrawingHouseModel" "costW" "[I" : Cond) ∈ lw_g := lw_gi (lw_c11 (List.mem_of_getElem? (i := 117) rfl)) rfl
theorem wm_2518 : (Cond.fieldLink "DrawingHouseModel" (186 : Nat) "DrawingHouseModel" "costPlain" "[Z" : Cond) ∈ lw_g := lw_gi (lw_c11 (List.mem_of_getElem? (i := 118) rfl)) rfl
theorem wm_2519 : (Cond.fieldLink "DrawingHouseModel" (189 : Nat) "DrawingHouseModel" "apartA" "[I" : Cond) ∈ lw_g := lw_gi (lw_c11 (List.mem_of_getElem? (i := 119) rfl)) rfl
theorem wm_2520 : (Cond.fieldLink "DrawingHouseModel" (192 : Nat) "DrawingHouseModel" "apartB" "[I" : Cond) ∈ lw_g := lw_gi (lw_c11 (List.mem_of_getElem? (i := 120) rfl)) rfl
theorem wm_2521 : (Cond.fieldLink "DrawingHouseModel" (195 : Nat) "DrawingHouseModel" "apart" "[I" : Cond) ∈ lw_g := lw_gi (lw_c11 (List.mem_of_getElem? (i := 121) rfl)) rfl
theorem wm_2522 : (Cond.fieldLink "DrawingHouseModel" (198 : Nat) "DrawingHouseModel" "flow" "[I" : Cond) ∈ lw_g := lw_gi (lw_c11 (List.mem_of_getElem? (i := 122) rfl)) rfl
theorem wm_2523 : (Cond.fieldLink "DrawingHouseModel" (201 : Nat) "DrawingHouseModel" "cameBy" "[I" : Cond) ∈ lw_g := lw_gi (lw_c11 (List.mem_of_getElem? (i := 123) rfl)) rfl
theorem wm_2524 : (Cond.fieldLink "DrawingHouseModel" (204 : Nat) "DrawingHouseModel" "queue" "[I" : Cond) ∈ lw_g := lw_gi (lw_c11 (List.mem_of_getElem? (i := 124) rfl)) rfl
theorem wm_2525 : (Cond.fieldLink "DrawingHouseModel" (207 : Nat) "DrawingHouseModel" "goes" "[I" : Cond) ∈ lw_g := lw_gi (lw_c11 (List.mem_of_getElem? (i := 125) rfl)) rfl
theorem wm_2526 : (Cond.fieldLink "DrawingHouseModel" (792 : Nat) "DrawingHouseModel" "pushes" "I" : Cond) ∈ lw_g := lw_gi (lw_c11 (List.mem_of_getElem? (i := 126) rfl)) rfl
theorem wm_2527 : (Cond.fieldLink "DrawingHouseModel" (210 : Nat) "DrawingHouseModel" "turned" "[Z" : Cond) ∈ lw_g := lw_gi (lw_c11 (List.mem_of_getElem? (i := 127) rfl)) rfl
theorem wm_2528 : (Cond.fieldLink "DrawingHouseModel" (213 : Nat) "DrawingHouseModel" "order" "[I" : Cond) ∈ lw_g := lw_gi (lw_c11 (List.mem_of_getElem? (i := 128) rfl)) rfl
theorem wm_2529 : (Cond.fieldLink "DrawingHouseModel" (216 : Nat) "DrawingHouseModel" "best" "[I" : Cond) ∈ lw_g := lw_gi (lw_c11 (List.mem_of_getElem? (i := 129) rfl)) rfl
theorem wm_2530 : (Cond.fieldLink "DrawingHouseModel" (219 : Nat) "DrawingHouseModel" "member" "[I" : Cond) ∈ lw_g := lw_gi (lw_c11 (List.mem_of_getElem? (i := 130) rfl)) rfl
theorem wm_2531 : (Cond.fieldLink "DrawingHouseModel" (795 : Nat) "DrawingHouseModel" "members" "I" : Cond) ∈ lw_g := lw_gi (lw_c11 (List.mem_of_getElem? (i := 131) rfl)) rfl
theorem wm_2532 : (Cond.fieldLink "DrawingHouseModel" (844 : Nat) "DrawingHouseModel" "items" "I" : Cond) ∈ lw_g := lw_gi (lw_c11 (List.mem_of_getElem? (i := 132) rfl)) rfl
theorem wm_2533 : (Cond.fieldLink "DrawingHouseModel" (852 : Nat) "DrawingHouseModel" "layerMany" "I" : Cond) ∈ lw_g := lw_gi (lw_c11 (List.mem_of_getElem? (i := 133) rfl)) rfl
theorem wm_2534 : (Cond.fieldLink "DrawingHouseModel" (222 : Nat) "DrawingHouseModel" "itemLayer" "[I" : Cond) ∈ lw_g := lw_gi (lw_c11 (List.mem_of_getElem? (i := 134) rfl)) rfl
theorem wm_2535 : (Cond.fieldLink "DrawingHouseModel" (225 : Nat) "DrawingHouseModel" "itemEdge" "[I" : Cond) ∈ lw_g := lw_gi (lw_c11 (List.mem_of_getElem? (i := 135) rfl)) rfl
theorem wm_2536 : (Cond.fieldLink "DrawingHouseModel" (228 : Nat) "DrawingHouseModel" "firstJoint" "[I" : Cond) ∈ lw_g := lw_gi (lw_c11 (List.mem_of_getElem? (i := 136) rfl)) rfl
theorem wm_2537 : (Cond.fieldLink "DrawingHouseModel" (231 : Nat) "DrawingHouseModel" "layerSize" "[I" : Cond) ∈ lw_g := lw_gi (lw_c11 (List.mem_of_getElem? (i := 137) rfl)) rfl
theorem wm_2538 : (Cond.fieldLink "DrawingHouseModel" (234 : Nat) "DrawingHouseModel" "layerItem" "[I" : Cond) ∈ lw_g := lw_gi (lw_c11 (List.mem_of_getElem? (i := 138) rfl)) rfl
theorem wm_2539 : (Cond.fieldLink "DrawingHouseModel" (847 : Nat) "DrawingHouseModel" "lines" "I" : Cond) ∈ lw_g := lw_gi (lw_c11 (List.mem_of_getElem? (i := 139) rfl)) rfl
theorem wm_2540 : (Cond.fieldLink "DrawingHouseModel" (237 : Nat) "DrawingHouseModel" "lineA" "[I" : Cond) ∈ lw_g := lw_gi (lw_c11 (List.mem_of_getElem? (i := 140) rfl)) rfl
theorem wm_2541 : (Cond.fieldLink "DrawingHouseModel" (240 : Nat) "DrawingHouseModel" "lineB" "[I" : Cond) ∈ lw_g := lw_gi (lw_c11 (List.mem_of_getElem? (i := 141) rfl)) rfl
theorem wm_2542 : (Cond.fieldLink "DrawingHouseModel" (243 : Nat) "DrawingHouseModel" "permBegin" "[I" : Cond) ∈ lw_g := lw_gi (lw_c11 (List.mem_of_getElem? (i := 142) rfl)) rfl
theorem wm_2543 : (Cond.fieldLink "DrawingHouseModel" (246 : Nat) "DrawingHouseModel" "permMany" "[I" : Cond) ∈ lw_g := lw_gi (lw_c11 (List.mem_of_getElem? (i := 143) rfl)) rfl
theorem wm_2544 : (Cond.fieldLink "DrawingHouseModel" (249 : Nat) "DrawingHouseModel" "perm" "[B" : Cond) ∈ lw_g := lw_gi (lw_c11 (List.mem_of_getElem? (i := 144) rfl)) rfl
theorem wm_2545 : (Cond.fieldLink "DrawingHouseModel" (253 : Nat) "DrawingHouseModel" "rest" "[I" : Cond) ∈ lw_g := lw_gi (lw_c11 (List.mem_of_getElem? (i := 145) rfl)) rfl
theorem wm_2546 : (Cond.fieldLink "DrawingHouseModel" (256 : Nat) "DrawingHouseModel" "worse" "[I" : Cond) ∈ lw_g := lw_gi (lw_c11 (List.mem_of_getElem? (i := 146) rfl)) rfl
theorem wm_2547 : (Cond.fieldLink "DrawingHouseModel" (259 : Nat) "DrawingHouseModel" "listed" "[I" : Cond) ∈ lw_g := lw_gi (lw_c11 (List.mem_of_getElem? (i := 147) rfl)) rfl
theorem wm_2548 : (Cond.fieldLink "DrawingHouseModel" (262 : Nat) "DrawingHouseModel" "inOrder" "[I" : Cond) ∈ lw_g := lw_gi (lw_c11 (List.mem_of_getElem? (i := 148) rfl)) rfl
theorem wm_2549 : (Cond.fieldLink "DrawingHouseModel" (265 : Nat) "DrawingHouseModel" "row" "[I" : Cond) ∈ lw_g := lw_gi (lw_c11 (List.mem_of_getElem? (i := 149) rfl)) rfl
theorem wm_2550 : (Cond.fieldLink "DrawingHouseModel" (268 : Nat) "DrawingHouseModel" "kept" "[I" : Cond) ∈ lw_g := lw_gi (lw_c11 (List.mem_of_getElem? (i := 150) rfl)) rfl
theorem wm_2551 : (Cond.fieldLink "DrawingHouseModel" (271 : Nat) "DrawingHouseModel" "meanA" "[J" : Cond) ∈ lw_g := lw_gi (lw_c11 (List.mem_of_getElem? (i := 151) rfl)) rfl
theorem wm_2552 : (Cond.fieldLink "DrawingHouseModel" (275 : Nat) "DrawingHouseModel" "meanB" "[J" : Cond) ∈ lw_g := lw_gi (lw_c11 (List.mem_of_getElem? (i := 152) rfl)) rfl
theorem wm_2553 : (Cond.fieldLink "DrawingHouseModel" (904 : Nat) "DrawingHouseModel" "upper" "I" : Cond) ∈ lw_g := lw_gi (lw_c11 (List.mem_of_getElem? (i := 153) rfl)) rfl
theorem wm_2554 : (Cond.fieldLink "DrawingHouseModel" (278 : Nat) "DrawingHouseModel" "upperNode" "[I" : Cond) ∈ lw_g := lw_gi (lw_c11 (List.mem_of_getElem? (i := 154) rfl)) rfl
theorem wm_2555 : (Cond.fieldLink "DrawingHouseModel" (281 : Nat) "DrawingHouseModel" "under" "[I" : Cond) ∈ lw_g := lw_gi (lw_c11 (List.mem_of_getElem? (i := 155) rfl)) rfl
theorem wm_2556 : (Cond.fieldLink "DrawingHouseModel" (284 : Nat) "DrawingHouseModel" "number" "[I" : Cond) ∈ lw_g := lw_gi (lw_c11 (List.mem_of_getElem? (i := 156) rfl)) rfl
theorem wm_2557 : (Cond.fieldLink "DrawingHouseModel" (936 : Nat) "DrawingHouseModel" "rowMany" "I" : Cond) ∈ lw_g := lw_gi (lw_c11 (List.mem_of_getElem? (i := 157) rfl)) rfl
theorem wm_2558 : (Cond.fieldLink "DrawingHouseModel" (287 : Nat) "DrawingHouseModel" "toldNumber" "[I" : Cond) ∈ lw_g := lw_gi (lw_c11 (List.mem_of_getElem? (i := 158) rfl)) rfl
theorem wm_2559 : (Cond.fieldLink "DrawingHouseModel" (290 : Nat) "DrawingHouseModel" "above" "[I" : Cond) ∈ lw_g := lw_gi (lw_c11 (List.mem_of_getElem? (i := 159) rfl)) rfl
theorem wm_2560 : (Cond.fieldLink "DrawingHouseModel" (293 : Nat) "DrawingHouseModel" "level" "[I" : Cond) ∈ lw_g := lw_gi (lw_c11 (List.mem_of_getElem? (i := 160) rfl)) rfl
theorem wm_2561 : (Cond.fieldLink "DrawingHouseModel" (296 : Nat) "DrawingHouseModel" "root" "[I" : Cond) ∈ lw_g := lw_gi (lw_c11 (List.mem_of_getElem? (i := 161) rfl)) rfl
theorem wm_2562 : (Cond.fieldLink "DrawingHouseModel" (299 : Nat) "DrawingHouseModel" "itemOf" "[I" : Cond) ∈ lw_g := lw_gi (lw_c11 (List.mem_of_getElem? (i := 162) rfl)) rfl
theorem wm_2563 : (Cond.fieldLink "DrawingHouseModel" (302 : Nat) "DrawingHouseModel" "itemSize" "[I" : Cond) ∈ lw_g := lw_gi (lw_c11 (List.mem_of_getElem? (i := 163) rfl)) rfl
theorem wm_2564 : (Cond.fieldLink "DrawingHouseModel" (971 : Nat) "DrawingHouseModel" "itemMany" "I" : Cond) ∈ lw_g := lw_gi (lw_c11 (List.mem_of_getElem? (i := 164) rfl)) rfl
theorem wm_2565 : (Cond.fieldLink "DrawingHouseModel" (977 : Nat) "DrawingHouseModel" "shapeA" "J" : Cond) ∈ lw_g := lw_gi (lw_c11 (List.mem_of_getElem? (i := 165) rfl)) rfl
theorem wm_2566 : (Cond.fieldLink "DrawingHouseModel" (981 : Nat) "DrawingHouseModel" "shapeB" "J" : Cond) ∈ lw_g := lw_gi (lw_c11 (List.mem_of_getElem? (i := 166) rfl)) rfl
theorem wm_2567 : (Cond.fieldLink "DrawingHouseModel" (305 : Nat) "DrawingHouseModel" "fx" "[J" : Cond) ∈ lw_g := lw_gi (lw_c11 (List.mem_of_getElem? (i := 167) rfl)) rfl
theorem wm_2568 : (Cond.fieldLink "DrawingHouseModel" (308 : Nat) "DrawingHouseModel" "fy" "[J" : Cond) ∈ lw_g := lw_gi (lw_c11 (List.mem_of_getElem? (i := 168) rfl)) rfl
theorem wm_2569 : (Cond.fieldLink "DrawingHouseModel" (311 : Nat) "DrawingHouseModel" "wx" "[J" : Cond) ∈ lw_g := lw_gi (lw_c11 (List.mem_of_getElem? (i := 169) rfl)) rfl
theorem wm_2570 : (Cond.fieldLink "DrawingHouseModel" (314 : Nat) "DrawingHouseModel" "wy" "[J" : Cond) ∈ lw_g := lw_gi (lw_c11 (List.mem_of_getElem? (i := 170) rfl)) rfl
theorem wm_2571 : (Cond.fieldLink "DrawingHouseModel" (1020 : Nat) "DrawingHouseModel" "g0" "I" : Cond) ∈ lw_g := lw_gi (lw_c11 (List.mem_of_getElem? (i := 171) rfl)) rfl
theorem wm_2572 : (Cond.fieldLink "DrawingHouseModel" (317 : Nat) "DrawingHouseModel" "costOf" "[I" : Cond) ∈ lw_g := lw_gi (lw_c11 (List.mem_of_getElem? (i := 172) rfl)) rfl
theorem wm_2573 : (Cond.fieldLink "DrawingHouseModel" (321 : Nat) "DrawingHouseModel" "bucket" "[I" : Cond) ∈ lw_g := lw_gi (lw_c11 (List.mem_of_getElem? (i := 173) rfl)) rfl
theorem wm_2574 : (Cond.fieldLink "DrawingHouseModel" (324 : Nat) "DrawingHouseModel" "bucketMany" "[I" : Cond) ∈ lw_g := lw_gi (lw_c11 (List.mem_of_getElem? (i := 174) rfl)) rfl
theorem wm_2575 : (Cond.fieldLink "DrawingHouseModel" (327 : Nat) "DrawingHouseModel" "barredPoint" "[Z" : Cond) ∈ lw_g := lw_gi (lw_c11 (List.mem_of_getElem? (i := 175) rfl)) rfl
theorem wm_2576 : (Cond.fieldLink "DrawingHouseModel" (1037 : Nat) "DrawingHouseModel" "left0" "I" : Cond) ∈ lw_g := lw_gi (lw_c11 (List.mem_of_getElem? (i := 176) rfl)) rfl
theorem wm_2577 : (Cond.fieldLink "DrawingHouseModel" (1040 : Nat) "DrawingHouseModel" "top0" "I" : Cond) ∈ lw_g := lw_gi (lw_c11 (List.mem_of_getElem? (i := 177) rfl)) rfl
theorem wm_2578 : (Cond.fieldLink "DrawingHouseModel" (1043 : Nat) "DrawingHouseModel" "wide" "I" : Cond) ∈ lw_g := lw_gi (lw_c11 (List.mem_of_getElem? (i := 178) rfl)) rfl
theorem wm_2579 : (Cond.fieldLink "DrawingHouseModel" (1046 : Nat) "DrawingHouseModel" "tall" "I" : Cond) ∈ lw_g := lw_gi (lw_c11 (List.mem_of_getElem? (i := 179) rfl)) rfl
theorem wm_2580 : (Cond.fieldLink "DrawingHouseModel" (330 : Nat) "DrawingHouseModel" "turnX" "[I" : Cond) ∈ lw_g := lw_gi (lw_c11 (List.mem_of_getElem? (i := 180) rfl)) rfl
theorem wm_2581 : (Cond.fieldLink "DrawingHouseModel" (333 : Nat) "DrawingHouseModel" "turnY" "[I" : Cond) ∈ lw_g := lw_gi (lw_c11 (List.mem_of_getElem? (i := 181) rfl)) rfl
theorem wm_2582 : (Cond.fieldLink "DrawingHouseModel" (1079 : Nat) "DrawingHouseModel" "labels" "I" : Cond) ∈ lw_g := lw_gi (lw_c11 (List.mem_of_getElem? (i := 182) rfl)) rfl
theorem wm_2583 : (Cond.fieldLink "DrawingHouseModel" (336 : Nat) "DrawingHouseModel" "labelX" "[I" : Cond) ∈ lw_g := lw_gi (lw_c11 (List.mem_of_getElem? (i := 183) rfl)) rfl
theorem wm_2584 : (Cond.fieldLink "DrawingHouseModel" (339 : Nat) "DrawingHouseModel" "labelY" "[I" : Cond) ∈ lw_g := lw_gi (lw_c11 (List.mem_of_getElem? (i := 184) rfl)) rfl
theorem wm_2585 : (Cond.fieldLink "DrawingHouseModel" (1142 : Nat) "DrawingHouseModel" "leastX" "I" : Cond) ∈ lw_g := lw_gi (lw_c11 (List.mem_of_getElem? (i := 185) rfl)) rfl
theorem wm_2586 : (Cond.fieldLink "DrawingHouseModel" (1145 : Nat) "DrawingHouseModel" "mostX" "I" : Cond) ∈ lw_g := lw_gi (lw_c11 (List.mem_of_getElem? (i := 186) rfl)) rfl
theorem wm_2587 : (Cond.fieldLink "DrawingHouseModel" (1148 : Nat) "DrawingHouseModel" "leastY" "I" : Cond) ∈ lw_g := lw_gi (lw_c11 (List.mem_of_getElem? (i := 187) rfl)) rfl
theorem wm_2588 : (Cond.fieldLink "DrawingHouseModel" (1151 : Nat) "DrawingHouseModel" "mostY" "I" : Cond) ∈ lw_g := lw_gi (lw_c11 (List.mem_of_getElem? (i := 188) rfl)) rfl
theorem wm_2589 : (Cond.fieldLink "DrawingHouseModel" (1160 : Nat) "DrawingHouseModel" "tokens" "I" : Cond) ∈ lw_g := lw_gi (lw_c11 (List.mem_of_getElem? (i := 189) rfl)) rfl
theorem wm_2590 : (Cond.fieldLink "DrawingHouseModel" (1169 : Nat) "DrawingHouseModel" "cur" "I" : Cond) ∈ lw_g := lw_gi (lw_c11 (List.mem_of_getElem? (i := 190) rfl)) rfl
theorem wm_2591 : (Cond.fieldLink "DrawingHouseModel" (1175 : Nat) "DrawingHouseModel" "opened" "I" : Cond) ∈ lw_g := lw_gi (lw_c11 (List.mem_of_getElem? (i := 191) rfl)) rfl
theorem wm_2592 : (Cond.fieldLink "DrawingHouseModel" (342 : Nat) "DrawingHouseModel" "tokenKind" "[I" : Cond) ∈ lw_g := lw_gi (lw_c11 (List.mem_of_getElem? (i := 192) rfl)) rfl
theorem wm_2593 : (Cond.fieldLink "DrawingHouseModel" (345 : Nat) "DrawingHouseModel" "tokenValue" "[J" : Cond) ∈ lw_g := lw_gi (lw_c11 (List.mem_of_getElem? (i := 193) rfl)) rfl
theorem wm_2594 : (Cond.fieldLink "DrawingHouseModel" (348 : Nat) "DrawingHouseModel" "tokenPlace" "[I" : Cond) ∈ lw_g := lw_gi (lw_c11 (List.mem_of_getElem? (i := 194) rfl)) rfl
theorem wm_2595 : (Cond.fieldLink "DrawingHouseModel" (351 : Nat) "DrawingHouseModel" "tokenEnd" "[I" : Cond) ∈ lw_g := lw_gi (lw_c11 (List.mem_of_getElem? (i := 195) rfl)) rfl
theorem wm_2596 : (Cond.fieldLink "DrawingHouseModel" (1195 : Nat) "DrawingHouseModel" "styleKind" "I" : Cond) ∈ lw_g := lw_gi (lw_c11 (List.mem_of_getElem? (i := 196) rfl)) rfl
theorem wm_2597 : (Cond.fieldLink "DrawingHouseModel" (1181 : Nat) "DrawingHouseModel" "styleOne" "I" : Cond) ∈ lw_g := lw_gi (lw_c11 (List.mem_of_getElem? (i := 197) rfl)) rfl
theorem wm_2598 : (Cond.fieldLink "DrawingHouseModel" (354 : Nat) "DrawingHouseModel" "partOfBlocks" "[I" : Cond) ∈ lw_g := lw_gi (lw_c11 (List.mem_of_getElem? (i := 198) rfl)) rfl
theorem wm_2599 : (Cond.fieldLink "DrawingHouseModel" (357 : Nat) "DrawingHouseModel" "coreOf" "[I" : Cond) ∈ lw_g := lw_gi (lw_c11 (List.mem_of_getElem? (i := 199) rfl)) rfl
theorem wm_2600 : (Cond.fieldLink "DrawingHouseModel" (360 : Nat) "DrawingHouseModel" "turnedNow" "[Z" : Cond) ∈ lw_g := lw_gi (lw_c11 (List.mem_of_getElem? (i := 200) rfl)) rfl
theorem wm_2601 : (Cond.fieldLink "DrawingHouseModel" (1326 : Nat) "DrawingHouseModel" "octets" "I" : Cond) ∈ lw_g := lw_gi (lw_c11 (List.mem_of_getElem? (i := 201) rfl)) rfl
theorem wm_2602 : (Cond.fieldLink "DrawingHouseModel" (1277 : Nat) "DrawingHouseModel" "texts" "I" : Cond) ∈ lw_g := lw_gi (lw_c11 (List.mem_of_getElem? (i := 202) rfl)) rfl
theorem wm_2603 : (Cond.fieldLink "DrawingHouseModel" (363 : Nat) "DrawingHouseModel" "octet" "[B" : Cond) ∈ lw_g := lw_gi (lw_c11 (List.mem_of_getElem? (i := 203) rfl)) rfl
theorem wm_2604 : (Cond.fieldLink "DrawingHouseModel" (366 : Nat) "DrawingHouseModel" "written" "[B" : Cond) ∈ lw_g := lw_gi (lw_c11 (List.mem_of_getElem? (i := 204) rfl)) rfl
theorem wm_2605 : (Cond.fieldLink "DrawingHouseModel" (1329 : Nat) "DrawingHouseModel" "dotWide" "I" : Cond) ∈ lw_g := lw_gi (lw_c11 (List.mem_of_getElem? (i := 205) rfl)) rfl
theorem wm_2606 : (Cond.fieldLink "DrawingHouseModel" (1332 : Nat) "DrawingHouseModel" "dotTall" "I" : Cond) ∈ lw_g := lw_gi (lw_c11 (List.mem_of_getElem? (i := 206) rfl)) rfl
theorem wm_2607 : (Cond.fieldLink "DrawingHouseModel" (369 : Nat) "DrawingHouseModel" "dots" "[I" : Cond) ∈ lw_g := lw_gi (lw_c11 (List.mem_of_getElem? (i := 207) rfl)) rfl
theorem wm_2969 : (Cond.methodLink "DrawingHouseModel" (387 : Nat) ({ cls := "DrawingHouseModel", name := "in", desc := "(III)Z" } : MethodName) : Cond) ∈ lw_g := lw_gi (lw_c13 (List.mem_of_getElem? (i := 89) rfl)) rfl
theorem wm_2970 : (Cond.static ({ cls := "DrawingHouseModel", name := "in", desc := "(III)Z" } : MethodName) : Cond) ∈ lw_g := lw_gi (lw_c13 (List.mem_of_getElem? (i := 90) rfl)) rfl
theorem wm_2971 : (Cond.code ({ cls := "DrawingHouseModel", name := "in", desc := "(III)Z" } : MethodName) prog_15_method_3_code (3 : Nat) (Option.some ClassFile.FieldType.boolean) : Cond) ∈ lw_g := lw_gi (lw_c13 (List.mem_of_getElem? (i := 91) rfl)) rfl
theorem wm_2976 : (Cond.methodLink "DrawingHouseModel" (521 : Nat) ({ cls := "DrawingHouseModel", name := "isPlace", desc := "(I)Z" } : MethodName) : Cond) ∈ lw_g := lw_gi (lw_c13 (List.mem_of_getElem? (i := 96) rfl)) rfl
theorem wm_2977 : (Cond.static ({ cls := "DrawingHouseModel", name := "isPlace", desc := "(I)Z" } : MethodName) : Cond) ∈ lw_g := lw_gi (lw_c13 (List.mem_of_getElem? (i := 97) rfl)) rfl
theorem wm_2978 : (Cond.code ({ cls := "DrawingHouseModel", name := "isPlace", desc := "(I)Z" } : MethodName) prog_15_method_9_code (1 : Nat) (Option.some ClassFile.FieldType.boolean) : Cond) ∈ lw_g := lw_gi (lw_c13 (List.mem_of_getElem? (i := 98) rfl)) rfl
theorem wm_3022 : (Cond.methodLink "DrawingHouseModel" (475 : Nat) ({ cls := "DrawingHouseModel", name := "nodes", desc := "()I" } : MethodName) : Cond) ∈ lw_g := lw_gi (lw_c13 (List.mem_of_getElem? (i := 142) rfl)) rfl
theorem wm_3024 : (Cond.instanceMethod ({ cls := "DrawingHouseModel", name := "nodes", desc := "()I" } : MethodName) : Cond) ∈ lw_g := lw_gi (lw_c13 (List.mem_of_getElem? (i := 144) rfl)) rfl
theorem wm_3025 : (Cond.code ({ cls := "DrawingHouseModel", name := "nodes", desc := "()I" } : MethodName) prog_15_method_11_code (1 : Nat) (Option.some ClassFile.FieldType.int) : Cond) ∈ lw_g := lw_gi (lw_c13 (List.mem_of_getElem? (i := 145) rfl)) rfl
theorem wm_3030 : (Cond.methodLink "DrawingHouseModel" (488 : Nat) ({ cls := "DrawingHouseModel", name := "between", desc := "(II)I" } : MethodName) : Cond) ∈ lw_g := lw_gi (lw_c13 (List.mem_of_getElem? (i := 150) rfl)) rfl
theorem wm_3032 : (Cond.instanceMethod ({ cls := "DrawingHouseModel", name := "between", desc := "(II)I" } : MethodName) : Cond) ∈ lw_g := lw_gi (lw_c13 (List.mem_of_getElem? (i := 152) rfl)) rfl
theorem wm_3033 : (Cond.code ({ cls := "DrawingHouseModel", name := "between", desc := "(II)I" } : MethodName) prog_15_method_23_code (4 : Nat) (Option.some ClassFile.FieldType.int) : Cond) ∈ lw_g := lw_gi (lw_c13 (List.mem_of_getElem? (i := 153) rfl)) rfl
theorem wm_3034 : (Cond.methodLink "DrawingHouseModel" (401 : Nat) ({ cls := "DrawingHouseModel", name := "edges", desc := "()I" } : MethodName) : Cond) ∈ lw_g := lw_gi (lw_c13 (List.mem_of_getElem? (i := 154) rfl)) rfl
theorem wm_3036 : (Cond.instanceMethod ({ cls := "DrawingHouseModel", name := "edges", desc := "()I" } : MethodName) : Cond) ∈ lw_g := lw_gi (lw_c13 (List.mem_of_getElem? (i := 156) rfl)) rfl
theorem wm_3037 : (Cond.code ({ cls := "DrawingHouseModel", name := "edges", desc := "()I" } : MethodName) prog_15_method_12_code (1 : Nat) (Option.some ClassFile.FieldType.int) : Cond) ∈ lw_g := lw_gi (lw_c13 (List.mem_of_getElem? (i := 157) rfl)) rfl
theorem wm_3042 : (Cond.methodLink "DrawingHouseModel" (394 : Nat) ({ cls := "DrawingHouseModel", name := "tail", desc := "(I)I" } : MethodName) : Cond) ∈ lw_g := lw_gi (lw_c13 (List.mem_of_getElem? (i := 162) rfl)) rfl
theorem wm_3044 : (Cond.instanceMethod ({ cls := "DrawingHouseModel", name := "tail", desc := "(I)I" } : MethodName) : Cond) ∈ lw_g := lw_gi (lw_c13 (List.mem_of_getElem? (i := 164) rfl)) rfl
theorem wm_3045 : (Cond.code ({ cls := "DrawingHouseModel", name := "tail", desc := "(I)I" } : MethodName) prog_15_method_14_code (2 : Nat) (Option.some ClassFile.FieldType.int) : Cond) ∈ lw_g := lw_gi (lw_c13 (List.mem_of_getElem? (i := 165) rfl)) rfl
theorem wm_3046 : (Cond.methodLink "DrawingHouseModel" (398 : Nat) ({ cls := "DrawingHouseModel", name := "head", desc := "(I)I" } : MethodName) : Cond) ∈ lw_g := lw_gi (lw_c13 (List.mem_of_getElem? (i := 166) rfl)) rfl
theorem wm_3048 : (Cond.instanceMethod ({ cls := "DrawingHouseModel", name := "head", desc := "(I)I" } : MethodName) : Cond) ∈ lw_g := lw_gi (lw_c13 (List.mem_of_getElem? (i := 168) rfl)) rfl
theorem wm_3049 : (Cond.code ({ cls := "DrawingHouseModel", name := "head", desc := "(I)I" } : MethodName) prog_15_method_15_code (2 : Nat) (Option.some ClassFile.FieldType.int) : Cond) ∈ lw_g := lw_gi (lw_c13 (List.mem_of_getElem? (i := 169) rfl)) rfl
theorem wm_3088 : (Cond.methodLink "DrawingHouseModel" (527 : Nat) ({ cls := "DrawingHouseModel", name := "take", desc := "(I)V" } : MethodName) : Cond) ∈ lw_g := lw_gi (lw_c13 (List.mem_of_getElem? (i := 208) rfl)) rfl
theorem wm_3090 : (Cond.instanceMethod ({ cls := "DrawingHouseModel", name := "take", desc := "(I)V" } : MethodName) : Cond) ∈ lw_g := lw_gi (lw_c13 (List.mem_of_getElem? (i := 210) rfl)) rfl
theorem wm_3091 : (Cond.code ({ cls := "DrawingHouseModel", name := "take", desc := "(I)V" } : MethodName) prog_15_method_10_code (2 : Nat) (Option.none : Option ClassFile.FieldType) : Cond) ∈ lw_g := lw_gi (lw_c13 (List.mem_of_getElem? (i := 211) rfl)) rfl
theorem wm_3183 : (Cond.constant "DrawingHouseModel" (546 : Nat) (1000000 : Int32) : Cond) ∈ lw_g := lw_gi (lw_c14 (List.mem_of_getElem? (i := 63) rfl)) rfl
theorem wm_3248 : (Cond.methodLink "DrawingHouseModel" (704 : Nat) ({ cls := "DrawingHouseModel", name := "isPlanar", desc := "()Z" } : MethodName) : Cond) ∈ lw_g := lw_gi (lw_c14 (List.mem_of_getElem? (i := 128) rfl)) rfl
theorem wm_3250 : (Cond.instanceMethod ({ cls := "DrawingHouseModel", name := "isPlanar", desc := "()Z" } : MethodName) : Cond) ∈ lw_g := lw_gi (lw_c14 (List.mem_of_getElem? (i := 130) rfl)) rfl
theorem wm_3251 : (Cond.code ({ cls := "DrawingHouseModel", name := "isPlanar", desc := "()Z" } : MethodName) prog_15_method_91_code (1 : Nat) (Option.some ClassFile.FieldType.boolean) : Cond) ∈ lw_g := lw_gi (lw_c14 (List.mem_of_getElem? (i := 131) rfl)) rfl
theorem wm_3252 : (Cond.methodLink "DrawingHouseModel" (707 : Nat) ({ cls := "DrawingHouseModel", name := "goRound", desc := "()V" } : MethodName) : Cond) ∈ lw_g := lw_gi (lw_c14 (List.mem_of_getElem? (i := 132) rfl)) rfl
theorem wm_3254 : (Cond.instanceMethod ({ cls := "DrawingHouseModel", name := "goRound", desc := "()V" } : MethodName) : Cond) ∈ lw_g := lw_gi (lw_c14 (List.mem_of_getElem? (i := 134) rfl)) rfl
theorem wm_3255 : (Cond.code ({ cls := "DrawingHouseModel", name := "goRound", desc := "()V" } : MethodName) prog_15_method_90_code (4 : Nat) (Option.none : Option ClassFile.FieldType) : Cond) ∈ lw_g := lw_gi (lw_c14 (List.mem_of_getElem? (i := 135) rfl)) rfl
theorem wm_3272 : (Cond.methodLink "DrawingHouseModel" (713 : Nat) ({ cls := "DrawingHouseModel", name := "fromOf", desc := "(I)I" } : MethodName) : Cond) ∈ lw_g := lw_gi (lw_c14 (List.mem_of_getElem? (i := 152) rfl)) rfl
theorem wm_3274 : (Cond.instanceMethod ({ cls := "DrawingHouseModel", name := "fromOf", desc := "(I)I" } : MethodName) : Cond) ∈ lw_g := lw_gi (lw_c14 (List.mem_of_getElem? (i := 154) rfl)) rfl
theorem wm_3275 : (Cond.code ({ cls := "DrawingHouseModel", name := "fromOf", desc := "(I)I" } : MethodName) prog_15_method_87_code (2 : Nat) (Option.some ClassFile.FieldType.int) : Cond) ∈ lw_g := lw_gi (lw_c14 (List.mem_of_getElem? (i := 155) rfl)) rfl
theorem wm_3288 : (Cond.methodLink "DrawingHouseModel" (719 : Nat) ({ cls := "DrawingHouseModel", name := "strong", desc := "(Z)I" } : MethodName) : Cond) ∈ lw_g := lw_gi (lw_c14 (List.mem_of_getElem? (i := 168) rfl)) rfl
theorem wm_3290 : (Cond.instanceMethod ({ cls := "DrawingHouseModel", name := "strong", desc := "(Z)I" } : MethodName) : Cond) ∈ lw_g := lw_gi (lw_c14 (List.mem_of_getElem? (i := 170) rfl)) rfl
theorem wm_3291 : (Cond.code ({ cls := "DrawingHouseModel", name := "strong", desc := "(Z)I" } : MethodName) prog_15_method_53_code (5 : Nat) (Option.some ClassFile.FieldType.int) : Cond) ∈ lw_g := lw_gi (lw_c14 (List.mem_of_getElem? (i := 171) rfl)) rfl
theorem wm_3336 : (Cond.methodLink "DrawingHouseModel" (737 : Nat) ({ cls := "DrawingHouseModel", name := "weight", desc := "(I)I" } : MethodName) : Cond) ∈ lw_g := lw_gi (lw_c14 (List.mem_of_getElem? (i := 216) rfl)) rfl
theorem wm_3338 : (Cond.instanceMethod ({ cls := "DrawingHouseModel", name := "weight", desc := "(I)I" } : MethodName) : Cond) ∈ lw_g := lw_gi (lw_c14 (List.mem_of_getElem? (i := 218) rfl)) rfl
theorem wm_3339 : (Cond.code ({ cls := "DrawingHouseModel", name := "weight", desc := "(I)I" } : MethodName) prog_15_method_16_code (2 : Nat) (Option.some ClassFile.FieldType.int) : Cond) ∈ lw_g := lw_gi (lw_c14 (List.mem_of_getElem? (i := 219) rfl)) rfl
theorem wm_3367 : (Cond.code ({ cls := "DrawingHouseModel", name := "draw", desc := "(III)I" } : MethodName) prog_15_method_107_code (5 : Nat) (Option.some ClassFile.FieldType.int) : Cond) ∈ lw_g := lw_gi (lw_c15 (List.mem_of_getElem? (i := 7) rfl)) rfl
theorem wm_3368 : (Cond.methodLink "DrawingHouseModel" (748 : Nat) ({ cls := "DrawingHouseModel", name := "layers", desc := "(I)I" } : MethodName) : Cond) ∈ lw_g := lw_gi (lw_c15 (List.mem_of_getElem? (i := 8) rfl)) rfl
theorem wm_3370 : (Cond.instanceMethod ({ cls := "DrawingHouseModel", name := "layers", desc := "(I)I" } : MethodName) : Cond) ∈ lw_g := lw_gi (lw_c15 (List.mem_of_getElem? (i := 10) rfl)) rfl
theorem wm_3371 : (Cond.code ({ cls := "DrawingHouseModel", name := "layers", desc := "(I)I" } : MethodName) prog_15_method_124_code (10 : Nat) (Option.some ClassFile.FieldType.int) : Cond) ∈ lw_g := lw_gi (lw_c15 (List.mem_of_getElem? (i := 11) rfl)) rfl
theorem wm_3372 : (Cond.methodLink "DrawingHouseModel" (813 : Nat) ({ cls := "DrawingHouseModel", name := "turnEdges", desc := "()V" } : MethodName) : Cond) ∈ lw_g := lw_gi (lw_c15 (List.mem_of_getElem? (i := 12) rfl)) rfl
theorem wm_3374 : (Cond.instanceMethod ({ cls := "DrawingHouseModel", name := "turnEdges", desc := "()V" } : MethodName) : Cond) ∈ lw_g := lw_gi (lw_c15 (List.mem_of_getElem? (i := 14) rfl)) rfl
theorem wm_3375 : (Cond.code ({ cls := "DrawingHouseModel", name := "turnEdges", desc := "()V" } : MethodName) prog_15_method_117_code (4 : Nat) (Option.none : Option ClassFile.FieldType) : Cond) ∈ lw_g := lw_gi (lw_c15 (List.mem_of_getElem? (i := 15) rfl)) rfl
theorem wm_3376 : (Cond.methodLink "DrawingHouseModel" (798 : Nat) ({ cls := "DrawingHouseModel", name := "bestOrder", desc := "()V" } : MethodName) : Cond) ∈ lw_g := lw_gi (lw_c15 (List.mem_of_getElem? (i := 16) rfl)) rfl
theorem wm_3378 : (Cond.instanceMethod ({ cls := "DrawingHouseModel", name := "bestOrder", desc := "()V" } : MethodName) : Cond) ∈ lw_g := lw_gi (lw_c15 (List.mem_of_getElem? (i := 18) rfl)) rfl
theorem wm_3379 : (Cond.code ({ cls := "DrawingHouseModel", name := "bestOrder", desc := "()V" } : MethodName) prog_15_method_119_code (8 : Nat) (Option.none : Option ClassFile.FieldType) : Cond) ∈ lw_g := lw_gi (lw_c15 (List.mem_of_getElem? (i := 19) rfl)) rfl
theorem wm_3384 : (Cond.methodLink "DrawingHouseModel" (801 : Nat) ({ cls := "DrawingHouseModel", name := "greedyOrder", desc := "()V" } : MethodName) : Cond) ∈ lw_g := lw_gi (lw_c15 (List.mem_of_getElem? (i := 24) rfl)) rfl
theorem wm_3386 : (Cond.instanceMethod ({ cls := "DrawingHouseModel", name := "greedyOrder", desc := "()V" } : MethodName) : Cond) ∈ lw_g := lw_gi (lw_c15 (List.mem_of_getElem? (i := 26) rfl)) rfl
theorem wm_3387 : (Cond.code ({ cls := "DrawingHouseModel", name := "greedyOrder", desc := "()V" } : MethodName) prog_15_method_121_code (13 : Nat) (Option.none : Option ClassFile.FieldType) : Cond) ∈ lw_g := lw_gi (lw_c15 (List.mem_of_getElem? (i := 27) rfl)) rfl
theorem wm_3388 : (Cond.methodLink "DrawingHouseModel" (804 : Nat) ({ cls := "DrawingHouseModel", name := "placeIn", desc := "(I)I" } : MethodName) : Cond) ∈ lw_g := lw_gi (lw_c15 (List.mem_of_getElem? (i := 28) rfl)) rfl
theorem wm_3390 : (Cond.instanceMethod ({ cls := "DrawingHouseModel", name := "placeIn", desc := "(I)I" } : MethodName) : Cond) ∈ lw_g := lw_gi (lw_c15 (List.mem_of_getElem? (i := 30) rfl)) rfl
theorem wm_3391 : (Cond.code ({ cls := "DrawingHouseModel", name := "placeIn", desc := "(I)I" } : MethodName) prog_15_method_118_code (3 : Nat) (Option.some ClassFile.FieldType.int) : Cond) ∈ lw_g := lw_gi (lw_c15 (List.mem_of_getElem? (i := 31) rfl)) rfl
theorem wm_3392 : (Cond.methodLink "DrawingHouseModel" (816 : Nat) ({ cls := "DrawingHouseModel", name := "from", desc := "(I)I" } : MethodName) : Cond) ∈ lw_g := lw_gi (lw_c15 (List.mem_of_getElem? (i := 32) rfl)) rfl
theorem wm_3394 : (Cond.instanceMethod ({ cls := "DrawingHouseModel", name := "from", desc := "(I)I" } : MethodName) : Cond) ∈ lw_g := lw_gi (lw_c15 (List.mem_of_getElem? (i := 34) rfl)) rfl
theorem wm_3395 : (Cond.code ({ cls := "DrawingHouseModel", name := "from", desc := "(I)I" } : MethodName) prog_15_method_122_code (2 : Nat) (Option.some ClassFile.FieldType.int) : Cond) ∈ lw_g := lw_gi (lw_c15 (List.mem_of_getElem? (i := 35) rfl)) rfl
theorem wm_3396 : (Cond.methodLink "DrawingHouseModel" (818 : Nat) ({ cls := "DrawingHouseModel", name := "to", desc := "(I)I" } : MethodName) : Cond) ∈ lw_g := lw_gi (lw_c15 (List.mem_of_getElem? (i := 36) rfl)) rfl
theorem wm_3398 : (Cond.instanceMethod ({ cls := "DrawingHouseModel", name := "to", desc := "(I)I" } : MethodName) : Cond) ∈ lw_g := lw_gi (lw_c15 (List.mem_of_getElem? (i := 38) rfl)) rfl
theorem wm_3399 : (Cond.code ({ cls := "DrawingHouseModel", name := "to", desc := "(I)I" } : MethodName) prog_15_method_123_code (2 : Nat) (Option.some ClassFile.FieldType.int) : Cond) ∈ lw_g := lw_gi (lw_c15 (List.mem_of_getElem? (i := 39) rfl)) rfl
theorem wm_3400 : (Cond.methodLink "DrawingHouseModel" (821 : Nat) ({ cls := "DrawingHouseModel", name := "cost", desc := "(IIIZ)V" } : MethodName) : Cond) ∈ lw_g := lw_gi (lw_c15 (List.mem_of_getElem? (i := 40) rfl)) rfl
theorem wm_3402 : (Cond.instanceMethod ({ cls := "DrawingHouseModel", name := "cost", desc := "(IIIZ)V" } : MethodName) : Cond) ∈ lw_g := lw_gi (lw_c15 (List.mem_of_getElem? (i := 42) rfl)) rfl
theorem wm_3403 : (Cond.code ({ cls := "DrawingHouseModel", name := "cost", desc := "(IIIZ)V" } : MethodName) prog_15_method_111_code (5 : Nat) (Option.none : Option ClassFile.FieldType) : Cond) ∈ lw_g := lw_gi (lw_c15 (List.mem_of_getElem? (i := 43) rfl)) rfl
theorem wm_3404 : (Cond.methodLink "DrawingHouseModel" (825 : Nat) ({ cls := "DrawingHouseModel", name := "apart", desc := "(III)V" } : MethodName) : Cond) ∈ lw_g := lw_gi (lw_c15 (List.mem_of_getElem? (i := 44) rfl)) rfl
theorem wm_3406 : (Cond.instanceMethod ({ cls := "DrawingHouseModel", name := "apart", desc := "(III)V" } : MethodName) : Cond) ∈ lw_g := lw_gi (lw_c15 (List.mem_of_getElem? (i := 46) rfl)) rfl
theorem wm_3407 : (Cond.code ({ cls := "DrawingHouseModel", name := "apart", desc := "(III)V" } : MethodName) prog_15_method_112_code (4 : Nat) (Option.none : Option ClassFile.FieldType) : Cond) ∈ lw_g := lw_gi (lw_c15 (List.mem_of_getElem? (i := 47) rfl)) rfl
theorem wm_3408 : (Cond.methodLink "DrawingHouseModel" (827 : Nat) ({ cls := "DrawingHouseModel", name := "rise", desc := "()V" } : MethodName) : Cond) ∈ lw_g := lw_gi (lw_c15 (List.mem_of_getElem? (i := 48) rfl)) rfl
theorem wm_3410 : (Cond.instanceMethod ({ cls := "DrawingHouseModel", name := "rise", desc := "()V" } : MethodName) : Cond) ∈ lw_g := lw_gi (lw_c15 (List.mem_of_getElem? (i := 50) rfl)) rfl
theorem wm_3411 : (Cond.code ({ cls := "DrawingHouseModel", name := "rise", desc := "()V" } : MethodName) prog_15_method_113_code (7 : Nat) (Option.none : Option ClassFile.FieldType) : Cond) ∈ lw_g := lw_gi (lw_c15 (List.mem_of_getElem? (i := 51) rfl)) rfl
theorem wm_3420 : (Cond.methodLink "DrawingHouseModel" (830 : Nat) ({ cls := "DrawingHouseModel", name := "list", desc := "(I)V" } : MethodName) : Cond) ∈ lw_g := lw_gi (lw_c15 (List.mem_of_getElem? (i := 60) rfl)) rfl
theorem wm_3422 : (Cond.instanceMethod ({ cls := "DrawingHouseModel", name := "list", desc := "(I)V" } : MethodName) : Cond) ∈ lw_g := lw_gi (lw_c15 (List.mem_of_getElem? (i := 62) rfl)) rfl
theorem wm_3423 : (Cond.code ({ cls := "DrawingHouseModel", name := "list", desc := "(I)V" } : MethodName) prog_15_method_125_code (5 : Nat) (Option.none : Option ClassFile.FieldType) : Cond) ∈ lw_g := lw_gi (lw_c15 (List.mem_of_getElem? (i := 63) rfl)) rfl
theorem wm_3424 : (Cond.methodLink "DrawingHouseModel" (850 : Nat) ({ cls := "DrawingHouseModel", name := "line", desc := "(II)V" } : MethodName) : Cond) ∈ lw_g := lw_gi (lw_c15 (List.mem_of_getElem? (i := 64) rfl)) rfl
theorem wm_3426 : (Cond.instanceMethod ({ cls := "DrawingHouseModel", name := "line", desc := "(II)V" } : MethodName) : Cond) ∈ lw_g := lw_gi (lw_c15 (List.mem_of_getElem? (i := 66) rfl)) rfl
theorem wm_3427 : (Cond.code ({ cls := "DrawingHouseModel", name := "line", desc := "(II)V" } : MethodName) prog_15_method_126_code (3 : Nat) (Option.none : Option ClassFile.FieldType) : Cond) ∈ lw_g := lw_gi (lw_c15 (List.mem_of_getElem? (i := 67) rfl)) rfl
theorem wm_3428 : (Cond.methodLink "DrawingHouseModel" (855 : Nat) ({ cls := "DrawingHouseModel", name := "max", desc := "(II)I" } : MethodName) : Cond) ∈ lw_g := lw_gi (lw_c15 (List.mem_of_getElem? (i := 68) rfl)) rfl
theorem wm_3429 : (Cond.static ({ cls := "DrawingHouseModel", name := "max", desc := "(II)I" } : MethodName) : Cond) ∈ lw_g := lw_gi (lw_c15 (List.mem_of_getElem? (i := 69) rfl)) rfl
theorem wm_3430 : (Cond.code ({ cls := "DrawingHouseModel", name := "max", desc := "(II)I" } : MethodName) prog_15_method_4_code (2 : Nat) (Option.some ClassFile.FieldType.int) : Cond) ∈ lw_g := lw_gi (lw_c15 (List.mem_of_getElem? (i := 70) rfl)) rfl
theorem wm_3431 : (Cond.methodLink "DrawingHouseModel" (833 : Nat) ({ cls := "DrawingHouseModel", name := "isSmall", desc := "()Z" } : MethodName) : Cond) ∈ lw_g := lw_gi (lw_c15 (List.mem_of_getElem? (i := 71) rfl)) rfl
theorem wm_3433 : (Cond.instanceMethod ({ cls := "DrawingHouseModel", name := "isSmall", desc := "()Z" } : MethodName) : Cond) ∈ lw_g := lw_gi (lw_c15 (List.mem_of_getElem? (i := 73) rfl)) rfl
theorem wm_3434 : (Cond.code ({ cls := "DrawingHouseModel", name := "isSmall", desc := "()Z" } : MethodName) prog_15_method_127_code (2 : Nat) (Option.some ClassFile.FieldType.boolean) : Cond) ∈ lw_g := lw_gi (lw_c15 (List.mem_of_getElem? (i := 74) rfl)) rfl
theorem wm_3435 : (Cond.methodLink "DrawingHouseModel" (836 : Nat) ({ cls := "DrawingHouseModel", name := "exactOrders", desc := "()I" } : MethodName) : Cond) ∈ lw_g := lw_gi (lw_c15 (List.mem_of_getElem? (i := 75) rfl)) rfl
theorem wm_3437 : (Cond.instanceMethod ({ cls := "DrawingHouseModel", name := "exactOrders", desc := "()I" } : MethodName) : Cond) ∈ lw_g := lw_gi (lw_c15 (List.mem_of_getElem? (i := 77) rfl)) rfl
theorem wm_3438 : (Cond.code ({ cls := "DrawingHouseModel", name := "exactOrders", desc := "()I" } : MethodName) prog_15_method_133_code (7 : Nat) (Option.some ClassFile.FieldType.int) : Cond) ∈ lw_g := lw_gi (lw_c15 (List.mem_of_getElem? (i := 78) rfl)) rfl
theorem wm_3455 : (Cond.methodLink "DrawingHouseModel" (839 : Nat) ({ cls := "DrawingHouseModel", name := "sweeps", desc := "()I" } : MethodName) : Cond) ∈ lw_g := lw_gi (lw_c15 (List.mem_of_getElem? (i := 95) rfl)) rfl
theorem wm_3457 : (Cond.instanceMethod ({ cls := "DrawingHouseModel", name := "sweeps", desc := "()I" } : MethodName) : Cond) ∈ lw_g := lw_gi (lw_c15 (List.mem_of_getElem? (i := 97) rfl)) rfl
theorem wm_3458 : (Cond.code ({ cls := "DrawingHouseModel", name := "sweeps", desc := "()I" } : MethodName) prog_15_method_135_code (6 : Nat) (Option.some ClassFile.FieldType.int) : Cond) ∈ lw_g := lw_gi (lw_c15 (List.mem_of_getElem? (i := 98) rfl)) rfl
theorem wm_3467 : (Cond.methodLink "DrawingHouseModel" (842 : Nat) ({ cls := "DrawingHouseModel", name := "across", desc := "()V" } : MethodName) : Cond) ∈ lw_g := lw_gi (lw_c15 (List.mem_of_getElem? (i := 107) rfl)) rfl
theorem wm_3469 : (Cond.instanceMethod ({ cls := "DrawingHouseModel", name := "across", desc := "()V" } : MethodName) : Cond) ∈ lw_g := lw_gi (lw_c15 (List.mem_of_getElem? (i := 109) rfl)) rfl
theorem wm_3470 : (Cond.code ({ cls := "DrawingHouseModel", name := "across", desc := "()V" } : MethodName) prog_15_method_138_code (5 : Nat) (Option.none : Option ClassFile.FieldType) : Cond) ∈ lw_g := lw_gi (lw_c15 (List.mem_of_getElem? (i := 110) rfl)) rfl
theorem wm_3471 : (Cond.methodLink "DrawingHouseModel" (877 : Nat) ({ cls := "DrawingHouseModel", name := "halfOf", desc := "(I)I" } : MethodName) : Cond) ∈ lw_g := lw_gi (lw_c15 (List.mem_of_getElem? (i := 111) rfl)) rfl
theorem wm_3473 : (Cond.instanceMethod ({ cls := "DrawingHouseModel", name := "halfOf", desc := "(I)I" } : MethodName) : Cond) ∈ lw_g := lw_gi (lw_c15 (List.mem_of_getElem? (i := 113) rfl)) rfl
theorem wm_3474 : (Cond.code ({ cls := "DrawingHouseModel", name := "halfOf", desc := "(I)I" } : MethodName) prog_15_method_137_code (2 : Nat) (Option.some ClassFile.FieldType.int) : Cond) ∈ lw_g := lw_gi (lw_c15 (List.mem_of_getElem? (i := 114) rfl)) rfl
theorem wm_3475 : (Cond.methodLink "DrawingHouseModel" (751 : Nat) ({ cls := "DrawingHouseModel", name := "grid", desc := "()I" } : MethodName) : Cond) ∈ lw_g := lw_gi (lw_c15 (List.mem_of_getElem? (i := 115) rfl)) rfl
theorem wm_3477 : (Cond.instanceMethod ({ cls := "DrawingHouseModel", name := "grid", desc := "()I" } : MethodName) : Cond) ∈ lw_g := lw_gi (lw_c15 (List.mem_of_getElem? (i := 117) rfl)) rfl
theorem wm_3478 : (Cond.code ({ cls := "DrawingHouseModel", name := "grid", desc := "()I" } : MethodName) prog_15_method_143_code (7 : Nat) (Option.some ClassFile.FieldType.int) : Cond) ∈ lw_g := lw_gi (lw_c15 (List.mem_of_getElem? (i := 118) rfl)) rfl
theorem wm_3479 : (Cond.methodLink "DrawingHouseModel" (883 : Nat) ({ cls := "DrawingHouseModel", name := "apartNode", desc := "()I" } : MethodName) : Cond) ∈ lw_g := lw_gi (lw_c15 (List.mem_of_getElem? (i := 119) rfl)) rfl
theorem wm_3481 : (Cond.instanceMethod ({ cls := "DrawingHouseModel", name := "apartNode", desc := "()I" } : MethodName) : Cond) ∈ lw_g := lw_gi (lw_c15 (List.mem_of_getElem? (i := 121) rfl)) rfl
theorem wm_3482 : (Cond.code ({ cls := "DrawingHouseModel", name := "apartNode", desc := "()I" } : MethodName) prog_15_method_144_code (2 : Nat) (Option.some ClassFile.FieldType.int) : Cond) ∈ lw_g := lw_gi (lw_c15 (List.mem_of_getElem? (i := 122) rfl)) rfl
theorem wm_3483 : (Cond.methodLink "DrawingHouseModel" (886 : Nat) ({ cls := "DrawingHouseModel", name := "newLine", desc := "(II)I" } : MethodName) : Cond) ∈ lw_g := lw_gi (lw_c15 (List.mem_of_getElem? (i := 123) rfl)) rfl
theorem wm_3485 : (Cond.instanceMethod ({ cls := "DrawingHouseModel", name := "newLine", desc := "(II)I" } : MethodName) : Cond) ∈ lw_g := lw_gi (lw_c15 (List.mem_of_getElem? (i := 125) rfl)) rfl
theorem wm_3486 : (Cond.code ({ cls := "DrawingHouseModel", name := "newLine", desc := "(II)I" } : MethodName) prog_15_method_142_code (3 : Nat) (Option.some ClassFile.FieldType.int) : Cond) ∈ lw_g := lw_gi (lw_c15 (List.mem_of_getElem? (i := 126) rfl)) rfl
theorem wm_3487 : (Cond.methodLink "DrawingHouseModel" (880 : Nat) ({ cls := "DrawingHouseModel", name := "putAt", desc := "(III)V" } : MethodName) : Cond) ∈ lw_g := lw_gi (lw_c15 (List.mem_of_getElem? (i := 127) rfl)) rfl
theorem wm_3489 : (Cond.instanceMethod ({ cls := "DrawingHouseModel", name := "putAt", desc := "(III)V" } : MethodName) : Cond) ∈ lw_g := lw_gi (lw_c15 (List.mem_of_getElem? (i := 129) rfl)) rfl
theorem wm_3490 : (Cond.code ({ cls := "DrawingHouseModel", name := "putAt", desc := "(III)V" } : MethodName) prog_15_method_141_code (5 : Nat) (Option.none : Option ClassFile.FieldType) : Cond) ∈ lw_g := lw_gi (lw_c15 (List.mem_of_getElem? (i := 130) rfl)) rfl
theorem wm_3491 : (Cond.methodLink "DrawingHouseModel" (889 : Nat) ({ cls := "DrawingHouseModel", name := "cut", desc := "()Z" } : MethodName) : Cond) ∈ lw_g := lw_gi (lw_c15 (List.mem_of_getElem? (i := 131) rfl)) rfl
theorem wm_3493 : (Cond.instanceMethod ({ cls := "DrawingHouseModel", name := "cut", desc := "()Z" } : MethodName) : Cond) ∈ lw_g := lw_gi (lw_c15 (List.mem_of_getElem? (i := 133) rfl)) rfl
theorem wm_3494 : (Cond.code ({ cls := "DrawingHouseModel", name := "cut", desc := "()Z" } : MethodName) prog_15_method_145_code (9 : Nat) (Option.some ClassFile.FieldType.boolean) : Cond) ∈ lw_g := lw_gi (lw_c15 (List.mem_of_getElem? (i := 134) rfl)) rfl
theorem wm_3503 : (Cond.methodLink "DrawingHouseModel" (892 : Nat) ({ cls := "DrawingHouseModel", name := "canonical", desc := "(III)V" } : MethodName) : Cond) ∈ lw_g := lw_gi (lw_c15 (List.mem_of_getElem? (i := 143) rfl)) rfl
theorem wm_3505 : (Cond.instanceMethod ({ cls := "DrawingHouseModel", name := "canonical", desc := "(III)V" } : MethodName) : Cond) ∈ lw_g := lw_gi (lw_c15 (List.mem_of_getElem? (i := 145) rfl)) rfl
theorem wm_3506 : (Cond.code ({ cls := "DrawingHouseModel", name := "canonical", desc := "(III)V" } : MethodName) prog_15_method_146_code (7 : Nat) (Option.none : Option ClassFile.FieldType) : Cond) ∈ lw_g := lw_gi (lw_c15 (List.mem_of_getElem? (i := 146) rfl)) rfl
theorem wm_3515 : (Cond.methodLink "DrawingHouseModel" (895 : Nat) ({ cls := "DrawingHouseModel", name := "shift", desc := "()V" } : MethodName) : Cond) ∈ lw_g := lw_gi (lw_c15 (List.mem_of_getElem? (i := 155) rfl)) rfl
theorem wm_3517 : (Cond.instanceMethod ({ cls := "DrawingHouseModel", name := "shift", desc := "()V" } : MethodName) : Cond) ∈ lw_g := lw_gi (lw_c15 (List.mem_of_getElem? (i := 157) rfl)) rfl
theorem wm_3518 : (Cond.code ({ cls := "DrawingHouseModel", name := "shift", desc := "()V" } : MethodName) prog_15_method_149_code (12 : Nat) (Option.none : Option ClassFile.FieldType) : Cond) ∈ lw_g := lw_gi (lw_c15 (List.mem_of_getElem? (i := 158) rfl)) rfl
theorem wm_3523 : (Cond.methodLink "DrawingHouseModel" (754 : Nat) ({ cls := "DrawingHouseModel", name := "bars", desc := "(I)I" } : MethodName) : Cond) ∈ lw_g := lw_gi (lw_c15 (List.mem_of_getElem? (i := 163) rfl)) rfl
theorem wm_3525 : (Cond.instanceMethod ({ cls := "DrawingHouseModel", name := "bars", desc := "(I)I" } : MethodName) : Cond) ∈ lw_g := lw_gi (lw_c15 (List.mem_of_getElem? (i := 165) rfl)) rfl
theorem wm_3526 : (Cond.code ({ cls := "DrawingHouseModel", name := "bars", desc := "(I)I" } : MethodName) prog_15_method_151_code (8 : Nat) (Option.some ClassFile.FieldType.int) : Cond) ∈ lw_g := lw_gi (lw_c15 (List.mem_of_getElem? (i := 166) rfl)) rfl
theorem wm_3557 : (Cond.methodLink "DrawingHouseModel" (757 : Nat) ({ cls := "DrawingHouseModel", name := "tree", desc := "(I)I" } : MethodName) : Cond) ∈ lw_g := lw_gi (lw_c15 (List.mem_of_getElem? (i := 197) rfl)) rfl
theorem wm_3559 : (Cond.instanceMethod ({ cls := "DrawingHouseModel", name := "tree", desc := "(I)I" } : MethodName) : Cond) ∈ lw_g := lw_gi (lw_c15 (List.mem_of_getElem? (i := 199) rfl)) rfl
theorem wm_3560 : (Cond.code ({ cls := "DrawingHouseModel", name := "tree", desc := "(I)I" } : MethodName) prog_15_method_159_code (9 : Nat) (Option.some ClassFile.FieldType.int) : Cond) ∈ lw_g := lw_gi (lw_c15 (List.mem_of_getElem? (i := 200) rfl)) rfl
theorem wm_3581 : (Cond.methodLink "DrawingHouseModel" (760 : Nat) ({ cls := "DrawingHouseModel", name := "areas", desc := "(II)I" } : MethodName) : Cond) ∈ lw_g := lw_gi (lw_c15 (List.mem_of_getElem? (i := 221) rfl)) rfl
theorem wm_3583 : (Cond.instanceMethod ({ cls := "DrawingHouseModel", name := "areas", desc := "(II)I" } : MethodName) : Cond) ∈ lw_g := lw_gi (lw_c15 (List.mem_of_getElem? (i := 223) rfl)) rfl
theorem wm_3584 : (Cond.code ({ cls := "DrawingHouseModel", name := "areas", desc := "(II)I" } : MethodName) prog_15_method_165_code (5 : Nat) (Option.some ClassFile.FieldType.int) : Cond) ∈ lw_g := lw_gi (lw_c15 (List.mem_of_getElem? (i := 224) rfl)) rfl
theorem wm_3605 : (Cond.methodLink "DrawingHouseModel" (763 : Nat) ({ cls := "DrawingHouseModel", name := "ring", desc := "(I)I" } : MethodName) : Cond) ∈ lw_g := lw_gi (lw_c16 (List.mem_of_getElem? (i := 5) rfl)) rfl
theorem wm_3607 : (Cond.instanceMethod ({ cls := "DrawingHouseModel", name := "ring", desc := "(I)I" } : MethodName) : Cond) ∈ lw_g := lw_gi (lw_c16 (List.mem_of_getElem? (i := 7) rfl)) rfl
theorem wm_3608 : (Cond.code ({ cls := "DrawingHouseModel", name := "ring", desc := "(I)I" } : MethodName) prog_15_method_172_code (8 : Nat) (Option.some ClassFile.FieldType.int) : Cond) ∈ lw_g := lw_gi (lw_c16 (List.mem_of_getElem? (i := 8) rfl)) rfl
theorem wm_3617 : (Cond.methodLink "DrawingHouseModel" (766 : Nat) ({ cls := "DrawingHouseModel", name := "forces", desc := "(I)I" } : MethodName) : Cond) ∈ lw_g := lw_gi (lw_c16 (List.mem_of_getElem? (i := 17) rfl)) rfl
theorem wm_3619 : (Cond.instanceMethod ({ cls := "DrawingHouseModel", name := "forces", desc := "(I)I" } : MethodName) : Cond) ∈ lw_g := lw_gi (lw_c16 (List.mem_of_getElem? (i := 19) rfl)) rfl
theorem wm_3620 : (Cond.code ({ cls := "DrawingHouseModel", name := "forces", desc := "(I)I" } : MethodName) prog_15_method_175_code (7 : Nat) (Option.some ClassFile.FieldType.int) : Cond) ∈ lw_g := lw_gi (lw_c16 (List.mem_of_getElem? (i := 20) rfl)) rfl
theorem wm_3625 : (Cond.constantLong "DrawingHouseModel" (1007 : Nat) (-1 : Int64) : Cond) ∈ lw_g := lw_gi (lw_c16 (List.mem_of_getElem? (i := 25) rfl)) rfl
theorem wm_3626 : (Cond.constantLong "DrawingHouseModel" (1009 : Nat) (65536 : Int64) : Cond) ∈ lw_g := lw_gi (lw_c16 (List.mem_of_getElem? (i := 26) rfl)) rfl
theorem wm_3630 : (Cond.constantLong "DrawingHouseModel" (994 : Nat) (1073741824 : Int64) : Cond) ∈ lw_g := lw_gi (lw_c16 (List.mem_of_getElem? (i := 30) rfl)) rfl
theorem wm_3631 : (Cond.constantLong "DrawingHouseModel" (1015 : Nat) (1024 : Int64) : Cond) ∈ lw_g := lw_gi (lw_c16 (List.mem_of_getElem? (i := 31) rfl)) rfl
theorem wm_3635 : (Cond.constantLong "DrawingHouseModel" (1003 : Nat) (16 : Int64) : Cond) ∈ lw_g := lw_gi (lw_c16 (List.mem_of_getElem? (i := 35) rfl)) rfl
theorem wm_3637 : (Cond.methodLink "DrawingHouseModel" (769 : Nat) ({ cls := "DrawingHouseModel", name := "matrix", desc := "(I)I" } : MethodName) : Cond) ∈ lw_g := lw_gi (lw_c16 (List.mem_of_getElem? (i := 37) rfl)) rfl
theorem wm_3639 : (Cond.instanceMethod ({ cls := "DrawingHouseModel", name := "matrix", desc := "(I)I" } : MethodName) : Cond) ∈ lw_g := lw_gi (lw_c16 (List.mem_of_getElem? (i := 39) rfl)) rfl
theorem wm_3640 : (Cond.code ({ cls := "DrawingHouseModel", name := "matrix", desc := "(I)I" } : MethodName) prog_15_method_178_code (7 : Nat) (Option.some ClassFile.FieldType.int) : Cond) ∈ lw_g := lw_gi (lw_c16 (List.mem_of_getElem? (i := 40) rfl)) rfl
theorem wm_3645 : (Cond.methodLink "DrawingHouseModel" (772 : Nat) ({ cls := "DrawingHouseModel", name := "keep", desc := "(II)V" } : MethodName) : Cond) ∈ lw_g := lw_gi (lw_c16 (List.mem_of_getElem? (i := 45) rfl)) rfl
theorem wm_3647 : (Cond.instanceMethod ({ cls := "DrawingHouseModel", name := "keep", desc := "(II)V" } : MethodName) : Cond) ∈ lw_g := lw_gi (lw_c16 (List.mem_of_getElem? (i := 47) rfl)) rfl
theorem wm_3648 : (Cond.code ({ cls := "DrawingHouseModel", name := "keep", desc := "(II)V" } : MethodName) prog_15_method_106_code (5 : Nat) (Option.none : Option ClassFile.FieldType) : Cond) ∈ lw_g := lw_gi (lw_c16 (List.mem_of_getElem? (i := 48) rfl)) rfl
theorem wm_3680 : (Cond.constantLong "DrawingHouseModel" (1049 : Nat) (6000 : Int64) : Cond) ∈ lw_g := lw_gi (lw_c16 (List.mem_of_getElem? (i := 80) rfl)) rfl
theorem wm_3692 : (Cond.code ({ cls := "DrawingHouseModel", name := "spread", desc := "(I)V" } : MethodName) prog_15_method_192_code (7 : Nat) (Option.none : Option ClassFile.FieldType) : Cond) ∈ lw_g := lw_gi (lw_c16 (List.mem_of_getElem? (i := 92) rfl)) rfl
theorem wm_3693 : (Cond.methodLink "DrawingHouseModel" (1070 : Nat) ({ cls := "DrawingHouseModel", name := "reached", desc := "(II)V" } : MethodName) : Cond) ∈ lw_g := lw_gi (lw_c16 (List.mem_of_getElem? (i := 93) rfl)) rfl
theorem wm_3695 : (Cond.instanceMethod ({ cls := "DrawingHouseModel", name := "reached", desc := "(II)V" } : MethodName) : Cond) ∈ lw_g := lw_gi (lw_c16 (List.mem_of_getElem? (i := 95) rfl)) rfl
theorem wm_3696 : (Cond.code ({ cls := "DrawingHouseModel", name := "reached", desc := "(II)V" } : MethodName) prog_15_method_193_code (4 : Nat) (Option.none : Option ClassFile.FieldType) : Cond) ∈ lw_g := lw_gi (lw_c16 (List.mem_of_getElem? (i := 96) rfl)) rfl
theorem wm_3697 : (Cond.methodLink "DrawingHouseModel" (1073 : Nat) ({ cls := "DrawingHouseModel", name := "backFrom", desc := "(II)V" } : MethodName) : Cond) ∈ lw_g := lw_gi (lw_c16 (List.mem_of_getElem? (i := 97) rfl)) rfl
theorem wm_3699 : (Cond.instanceMethod ({ cls := "DrawingHouseModel", name := "backFrom", desc := "(II)V" } : MethodName) : Cond) ∈ lw_g := lw_gi (lw_c16 (List.mem_of_getElem? (i := 99) rfl)) rfl
theorem wm_3700 : (Cond.code ({ cls := "DrawingHouseModel", name := "backFrom", desc := "(II)V" } : MethodName) prog_15_method_194_code (9 : Nat) (Option.none : Option ClassFile.FieldType) : Cond) ∈ lw_g := lw_gi (lw_c16 (List.mem_of_getElem? (i := 100) rfl)) rfl
theorem wm_3701 : (Cond.methodLink "DrawingHouseModel" (1064 : Nat) ({ cls := "DrawingHouseModel", name := "dx", desc := "(I)I" } : MethodName) : Cond) ∈ lw_g := lw_gi (lw_c16 (List.mem_of_getElem? (i := 101) rfl)) rfl
theorem wm_3702 : (Cond.static ({ cls := "DrawingHouseModel", name := "dx", desc := "(I)I" } : MethodName) : Cond) ∈ lw_g := lw_gi (lw_c16 (List.mem_of_getElem? (i := 102) rfl)) rfl
theorem wm_3703 : (Cond.code ({ cls := "DrawingHouseModel", name := "dx", desc := "(I)I" } : MethodName) prog_15_method_190_code (1 : Nat) (Option.some ClassFile.FieldType.int) : Cond) ∈ lw_g := lw_gi (lw_c16 (List.mem_of_getElem? (i := 103) rfl)) rfl
theorem wm_3704 : (Cond.methodLink "DrawingHouseModel" (1067 : Nat) ({ cls := "DrawingHouseModel", name := "dy", desc := "(I)I" } : MethodName) : Cond) ∈ lw_g := lw_gi (lw_c16 (List.mem_of_getElem? (i := 104) rfl)) rfl
theorem wm_3705 : (Cond.static ({ cls := "DrawingHouseModel", name := "dy", desc := "(I)I" } : MethodName) : Cond) ∈ lw_g := lw_gi (lw_c16 (List.mem_of_getElem? (i := 105) rfl)) rfl
theorem wm_3706 : (Cond.code ({ cls := "DrawingHouseModel", name := "dy", desc := "(I)I" } : MethodName) prog_15_method_191_code (1 : Nat) (Option.some ClassFile.FieldType.int) : Cond) ∈ lw_g := lw_gi (lw_c16 (List.mem_of_getElem? (i := 106) rfl)) rfl
theorem wm_3710 : (Cond.code ({ cls := "DrawingHouseModel", name := "bendsBecome", desc := "(IIII)I" } : MethodName) prog_15_method_195_code (15 : Nat) (Option.some ClassFile.FieldType.int) : Cond) ∈ lw_g := lw_gi (lw_c16 (List.mem_of_getElem? (i := 110) rfl)) rfl
theorem wm_3711 : (Cond.methodLink "DrawingHouseModel" (1076 : Nat) ({ cls := "DrawingHouseModel", name := "stepTo", desc := "(II)I" } : MethodName) : Cond) ∈ lw_g := lw_gi (lw_c16 (List.mem_of_getElem? (i := 111) rfl)) rfl
theorem wm_3713 : (Cond.instanceMethod ({ cls := "DrawingHouseModel", name := "stepTo", desc := "(II)I" } : MethodName) : Cond) ∈ lw_g := lw_gi (lw_c16 (List.mem_of_getElem? (i := 113) rfl)) rfl
theorem wm_3714 : (Cond.code ({ cls := "DrawingHouseModel", name := "stepTo", desc := "(II)I" } : MethodName) prog_15_method_189_code (6 : Nat) (Option.some ClassFile.FieldType.int) : Cond) ∈ lw_g := lw_gi (lw_c16 (List.mem_of_getElem? (i := 114) rfl)) rfl
theorem wm_3770 : (Cond.constantLong "DrawingHouseModel" (1140 : Nat) (2 : Int64) : Cond) ∈ lw_g := lw_gi (lw_c16 (List.mem_of_getElem? (i := 170) rfl)) rfl
theorem wm_3799 : (Cond.constantLong "DrawingHouseModel" (1163 : Nat) (99999 : Int64) : Cond) ∈ lw_g := lw_gi (lw_c16 (List.mem_of_getElem? (i := 199) rfl)) rfl
theorem wm_3800 : (Cond.constantLong "DrawingHouseModel" (1165 : Nat) (10 : Int64) : Cond) ∈ lw_g := lw_gi (lw_c16 (List.mem_of_getElem? (i := 200) rfl)) rfl
theorem wm_3801 : (Cond.constantLong "DrawingHouseModel" (1167 : Nat) (48 : Int64) : Cond) ∈ lw_g := lw_gi (lw_c16 (List.mem_of_getElem? (i := 201) rfl)) rfl
theorem wm_3885 : (Cond.constantLong "DrawingHouseModel" (1215 : Nat) (255 : Int64) : Cond) ∈ lw_g := lw_gi (lw_c17 (List.mem_of_getElem? (i := 45) rfl)) rfl
theorem wm_3928 : (Cond.constantLong "DrawingHouseModel" (1283 : Nat) (9 : Int64) : Cond) ∈ lw_g := lw_gi (lw_c17 (List.mem_of_getElem? (i := 88) rfl)) rfl
theorem wv_13_3 : (Cond.selects "DrawingHouseModel" ⟨"DrawingHouseModel", "nodes", "()I"⟩ ⟨"DrawingHouseModel", "nodes", "()I"⟩ : Cond) ∈ lw_g := lw_gi (List.mem_append_left _ (List.mem_map.mpr ⟨_, lw_v13 (List.mem_of_getElem? (i := 3) rfl), rfl⟩)) rfl
theorem wv_13_5 : (Cond.selects "DrawingHouseModel" ⟨"DrawingHouseModel", "between", "(II)I"⟩ ⟨"DrawingHouseModel", "between", "(II)I"⟩ : Cond) ∈ lw_g := lw_gi (List.mem_append_left _ (List.mem_map.mpr ⟨_, lw_v13 (List.mem_of_getElem? (i := 5) rfl), rfl⟩)) rfl
theorem wv_13_6 : (Cond.selects "DrawingHouseModel" ⟨"DrawingHouseModel", "edges", "()I"⟩ ⟨"DrawingHouseModel", "edges", "()I"⟩ : Cond) ∈ lw_g := lw_gi (List.mem_append_left _ (List.mem_map.mpr ⟨_, lw_v13 (List.mem_of_getElem? (i := 6) rfl), rfl⟩)) rfl
theorem wv_13_8 : (Cond.selects "DrawingHouseModel" ⟨"DrawingHouseModel", "tail", "(I)I"⟩ ⟨"DrawingHouseModel", "tail", "(I)I"⟩ : Cond) ∈ lw_g := lw_gi (List.mem_append_left _ (List.mem_map.mpr ⟨_, lw_v13 (List.mem_of_getElem? (i := 8) rfl), rfl⟩)) rfl
theorem wv_13_9 : (Cond.selects "DrawingHouseModel" ⟨"DrawingHouseModel", "head", "(I)I"⟩ ⟨"DrawingHouseModel", "head", "(I)I"⟩ : Cond) ∈ lw_g := lw_gi (List.mem_append_left _ (List.mem_map.mpr ⟨_, lw_v13 (List.mem_of_getElem? (i := 9) rfl), rfl⟩)) rfl
theorem wv_14_2 : (Cond.selects "DrawingHouseModel" ⟨"DrawingHouseModel", "take", "(I)V"⟩ ⟨"DrawingHouseModel", "take", "(I)V"⟩ : Cond) ∈ lw_g := lw_gi (List.mem_append_left _ (List.mem_map.mpr ⟨_, lw_v14 (List.mem_of_getElem? (i := 2) rfl), rfl⟩)) rfl
theorem wv_16_5 : (Cond.selects "DrawingHouseModel" ⟨"DrawingHouseModel", "isPlanar", "()Z"⟩ ⟨"DrawingHouseModel", "isPlanar", "()Z"⟩ : Cond) ∈ lw_g := lw_gi (List.mem_append_left _ (List.mem_map.mpr ⟨_, lw_v16 (List.mem_of_getElem? (i := 5) rfl), rfl⟩)) rfl
theorem wv_16_6 : (Cond.selects "DrawingHouseModel" ⟨"DrawingHouseModel", "goRound", "()V"⟩ ⟨"DrawingHouseModel", "goRound", "()V"⟩ : Cond) ∈ lw_g := lw_gi (List.mem_append_left _ (List.mem_map.mpr ⟨_, lw_v16 (List.mem_of_getElem? (i := 6) rfl), rfl⟩)) rfl
theorem wv_16_10 : (Cond.selects "DrawingHouseModel" ⟨"DrawingHouseModel", "fromOf", "(I)I"⟩ ⟨"DrawingHouseModel", "fromOf", "(I)I"⟩ : Cond) ∈ lw_g := lw_gi (List.mem_append_left _ (List.mem_map.mpr ⟨_, lw_v16 (List.mem_of_getElem? (i := 10) rfl), rfl⟩)) rfl
theorem wv_16_13 : (Cond.selects "DrawingHouseModel" ⟨"DrawingHouseModel", "strong", "(Z)I"⟩ ⟨"DrawingHouseModel", "strong", "(Z)I"⟩ : Cond) ∈ lw_g := lw_gi (List.mem_append_left _ (List.mem_map.mpr ⟨_, lw_v16 (List.mem_of_getElem? (i := 13) rfl), rfl⟩)) rfl
theorem wv_17_7 : (Cond.selects "DrawingHouseModel" ⟨"DrawingHouseModel", "weight", "(I)I"⟩ ⟨"DrawingHouseModel", "weight", "(I)I"⟩ : Cond) ∈ lw_g := lw_gi (List.mem_append_left _ (List.mem_map.mpr ⟨_, lw_v17 (List.mem_of_getElem? (i := 7) rfl), rfl⟩)) rfl
theorem wv_17_11 : (Cond.selects "DrawingHouseModel" ⟨"DrawingHouseModel", "layers", "(I)I"⟩ ⟨"DrawingHouseModel", "layers", "(I)I"⟩ : Cond) ∈ lw_g := lw_gi (List.mem_append_left _ (List.mem_map.mpr ⟨_, lw_v17 (List.mem_of_getElem? (i := 11) rfl), rfl⟩)) rfl
theorem wv_17_12 : (Cond.selects "DrawingHouseModel" ⟨"DrawingHouseModel", "turnEdges", "()V"⟩ ⟨"DrawingHouseModel", "turnEdges", "()V"⟩ : Cond) ∈ lw_g := lw_gi (List.mem_append_left _ (List.mem_map.mpr ⟨_, lw_v17 (List.mem_of_getElem? (i := 12) rfl), rfl⟩)) rfl
theorem wv_17_13 : (Cond.selects "DrawingHouseModel" ⟨"DrawingHouseModel", "bestOrder", "()V"⟩ ⟨"DrawingHouseModel", "bestOrder", "()V"⟩ : Cond) ∈ lw_g := lw_gi (List.mem_append_left _ (List.mem_map.mpr ⟨_, lw_v17 (List.mem_of_getElem? (i := 13) rfl), rfl⟩)) rfl
theorem wv_17_15 : (Cond.selects "DrawingHouseModel" ⟨"DrawingHouseModel", "greedyOrder", "()V"⟩ ⟨"DrawingHouseModel", "greedyOrder", "()V"⟩ : Cond) ∈ lw_g := lw_gi (List.mem_append_left _ (List.mem_map.mpr ⟨_, lw_v17 (List.mem_of_getElem? (i := 15) rfl), rfl⟩)) rfl
theorem wv_18_0 : (Cond.selects "DrawingHouseModel" ⟨"DrawingHouseModel", "placeIn", "(I)I"⟩ ⟨"DrawingHouseModel", "placeIn", "(I)I"⟩ : Cond) ∈ lw_g := lw_gi (List.mem_append_left _ (List.mem_map.mpr ⟨_, lw_v18 (List.mem_of_getElem? (i := 0) rfl), rfl⟩)) rfl
theorem wv_18_1 : (Cond.selects "DrawingHouseModel" ⟨"DrawingHouseModel", "from", "(I)I"⟩ ⟨"DrawingHouseModel", "from", "(I)I"⟩ : Cond) ∈ lw_g := lw_gi (List.mem_append_left _ (List.mem_map.mpr ⟨_, lw_v18 (List.mem_of_getElem? (i := 1) rfl), rfl⟩)) rfl
theorem wv_18_2 : (Cond.selects "DrawingHouseModel" ⟨"DrawingHouseModel", "to", "(I)I"⟩ ⟨"DrawingHouseModel", "to", "(I)I"⟩ : Cond) ∈ lw_g := lw_gi (List.mem_append_left _ (List.mem_map.mpr ⟨_, lw_v18 (List.mem_of_getElem? (i := 2) rfl), rfl⟩)) rfl
theorem wv_18_3 : (Cond.selects "DrawingHouseModel" ⟨"DrawingHouseModel", "cost", "(IIIZ)V"⟩ ⟨"DrawingHouseModel", "cost", "(IIIZ)V"⟩ : Cond) ∈ lw_g := lw_gi (List.mem_append_left _ (List.mem_map.mpr ⟨_, lw_v18 (List.mem_of_getElem? (i := 3) rfl), rfl⟩)) rfl
theorem wv_18_4 : (Cond.selects "DrawingHouseModel" ⟨"DrawingHouseModel", "apart", "(III)V"⟩ ⟨"DrawingHouseModel", "apart", "(III)V"⟩ : Cond) ∈ lw_g := lw_gi (List.mem_append_left _ (List.mem_map.mpr ⟨_, lw_v18 (List.mem_of_getElem? (i := 4) rfl), rfl⟩)) rfl
theorem wv_18_5 : (Cond.selects "DrawingHouseModel" ⟨"DrawingHouseModel", "rise", "()V"⟩ ⟨"DrawingHouseModel", "rise", "()V"⟩ : Cond) ∈ lw_g := lw_gi (List.mem_append_left _ (List.mem_map.mpr ⟨_, lw_v18 (List.mem_of_getElem? (i := 5) rfl), rfl⟩)) rfl
theorem wv_18_8 : (Cond.selects "DrawingHouseModel" ⟨"DrawingHouseModel", "list", "(I)V"⟩ ⟨"DrawingHouseModel", "list", "(I)V"⟩ : Cond) ∈ lw_g := lw_gi (List.mem_append_left _ (List.mem_map.mpr ⟨_, lw_v18 (List.mem_of_getElem? (i := 8) rfl), rfl⟩)) rfl
theorem wv_18_9 : (Cond.selects "DrawingHouseModel" ⟨"DrawingHouseModel", "line", "(II)V"⟩ ⟨"DrawingHouseModel", "line", "(II)V"⟩ : Cond) ∈ lw_g := lw_gi (List.mem_append_left _ (List.mem_map.mpr ⟨_, lw_v18 (List.mem_of_getElem? (i := 9) rfl), rfl⟩)) rfl
theorem wv_18_10 : (Cond.selects "DrawingHouseModel" ⟨"DrawingHouseModel", "isSmall", "()Z"⟩ ⟨"DrawingHouseModel", "isSmall", "()Z"⟩ : Cond) ∈ lw_g := lw_gi (List.mem_append_left _ (List.mem_map.mpr ⟨_, lw_v18 (List.mem_of_getElem? (i := 10) rfl), rfl⟩)) rfl
theorem wv_18_11 : (Cond.selects "DrawingHouseModel" ⟨"DrawingHouseModel", "exactOrders", "()I"⟩ ⟨"DrawingHouseModel", "exactOrders", "()I"⟩ : Cond) ∈ lw_g := lw_gi (List.mem_append_left _ (List.mem_map.mpr ⟨_, lw_v18 (List.mem_of_getElem? (i := 11) rfl), rfl⟩)) rfl
theorem wv_19_0 : (Cond.selects "DrawingHouseModel" ⟨"DrawingHouseModel", "sweeps", "()I"⟩ ⟨"DrawingHouseModel", "sweeps", "()I"⟩ : Cond) ∈ lw_g := lw_gi (List.mem_append_left _ (List.mem_map.mpr ⟨_, lw_v19 (List.mem_of_getElem? (i := 0) rfl), rfl⟩)) rfl
theorem wv_19_3 : (Cond.selects "DrawingHouseModel" ⟨"DrawingHouseModel", "across", "()V"⟩ ⟨"DrawingHouseModel", "across", "()V"⟩ : Cond) ∈ lw_g := lw_gi (List.mem_append_left _ (List.mem_map.mpr ⟨_, lw_v19 (List.mem_of_getElem? (i := 3) rfl), rfl⟩)) rfl
theorem wv_19_4 : (Cond.selects "DrawingHouseModel" ⟨"DrawingHouseModel", "halfOf", "(I)I"⟩ ⟨"DrawingHouseModel", "halfOf", "(I)I"⟩ : Cond) ∈ lw_g := lw_gi (List.mem_append_left _ (List.mem_map.mpr ⟨_, lw_v19 (List.mem_of_getElem? (i := 4) rfl), rfl⟩)) rfl
theorem wv_19_5 : (Cond.selects "DrawingHouseModel" ⟨"DrawingHouseModel", "grid", "()I"⟩ ⟨"DrawingHouseModel", "grid", "()I"⟩ : Cond) ∈ lw_g := lw_gi (List.mem_append_left _ (List.mem_map.mpr ⟨_, lw_v19 (List.mem_of_getElem? (i := 5) rfl), rfl⟩)) rfl
theorem wv_19_6 : (Cond.selects "DrawingHouseModel" ⟨"DrawingHouseModel", "apartNode", "()I"⟩ ⟨"DrawingHouseModel", "apartNode", "()I"⟩ : Cond) ∈ lw_g := lw_gi (List.mem_append_left _ (List.mem_map.mpr ⟨_, lw_v19 (List.mem_of_getElem? (i := 6) rfl), rfl⟩)) rfl
theorem wv_19_7 : (Cond.selects "DrawingHouseModel" ⟨"DrawingHouseModel", "newLine", "(II)I"⟩ ⟨"DrawingHouseModel", "newLine", "(II)I"⟩ : Cond) ∈ lw_g := lw_gi (List.mem_append_left _ (List.mem_map.mpr ⟨_, lw_v19 (List.mem_of_getElem? (i := 7) rfl), rfl⟩)) rfl
theorem wv_19_8 : (Cond.selects "DrawingHouseModel" ⟨"DrawingHouseModel", "putAt", "(III)V"⟩ ⟨"DrawingHouseModel", "putAt", "(III)V"⟩ : Cond) ∈ lw_g := lw_gi (List.mem_append_left _ (List.mem_map.mpr ⟨_, lw_v19 (List.mem_of_getElem? (i := 8) rfl), rfl⟩)) rfl
theorem wv_19_9 : (Cond.selects "DrawingHouseModel" ⟨"DrawingHouseModel", "cut", "()Z"⟩ ⟨"DrawingHouseModel", "cut", "()Z"⟩ : Cond) ∈ lw_g := lw_gi (List.mem_append_left _ (List.mem_map.mpr ⟨_, lw_v19 (List.mem_of_getElem? (i := 9) rfl), rfl⟩)) rfl
theorem wv_19_12 : (Cond.selects "DrawingHouseModel" ⟨"DrawingHouseModel", "canonical", "(III)V"⟩ ⟨"DrawingHouseModel", "canonical", "(III)V"⟩ : Cond) ∈ lw_g := lw_gi (List.mem_append_left _ (List.mem_map.mpr ⟨_, lw_v19 (List.mem_of_getElem? (i := 12) rfl), rfl⟩)) rfl
theorem wv_19_15 : (Cond.selects "DrawingHouseModel" ⟨"DrawingHouseModel", "shift", "()V"⟩ ⟨"DrawingHouseModel", "shift", "()V"⟩ : Cond) ∈ lw_g := lw_gi (List.mem_append_left _ (List.mem_map.mpr ⟨_, lw_v19 (List.mem_of_getElem? (i := 15) rfl), rfl⟩)) rfl
theorem wv_20_1 : (Cond.selects "DrawingHouseModel" ⟨"DrawingHouseModel", "bars", "(I)I"⟩ ⟨"DrawingHouseModel", "bars", "(I)I"⟩ : Cond) ∈ lw_g := lw_gi (List.mem_append_left _ (List.mem_map.mpr ⟨_, lw_v20 (List.mem_of_getElem? (i := 1) rfl), rfl⟩)) rfl
theorem wv_20_9 : (Cond.selects "DrawingHouseModel" ⟨"DrawingHouseModel", "tree", "(I)I"⟩ ⟨"DrawingHouseModel", "tree", "(I)I"⟩ : Cond) ∈ lw_g := lw_gi (List.mem_append_left _ (List.mem_map.mpr ⟨_, lw_v20 (List.mem_of_getElem? (i := 9) rfl), rfl⟩)) rfl
theorem wv_20_15 : (Cond.selects "DrawingHouseModel" ⟨"DrawingHouseModel", "areas", "(II)I"⟩ ⟨"DrawingHouseModel", "areas", "(II)I"⟩ : Cond) ∈ lw_g := lw_gi (List.mem_append_left _ (List.mem_map.mpr ⟨_, lw_v20 (List.mem_of_getElem? (i := 15) rfl), rfl⟩)) rfl
theorem wv_21_5 : (Cond.selects "DrawingHouseModel" ⟨"DrawingHouseModel", "ring", "(I)I"⟩ ⟨"DrawingHouseModel", "ring", "(I)I"⟩ : Cond) ∈ lw_g := lw_gi (List.mem_append_left _ (List.mem_map.mpr ⟨_, lw_v21 (List.mem_of_getElem? (i := 5) rfl), rfl⟩)) rfl
theorem wv_21_8 : (Cond.selects "DrawingHouseModel" ⟨"DrawingHouseModel", "forces", "(I)I"⟩ ⟨"DrawingHouseModel", "forces", "(I)I"⟩ : Cond) ∈ lw_g := lw_gi (List.mem_append_left _ (List.mem_map.mpr ⟨_, lw_v21 (List.mem_of_getElem? (i := 8) rfl), rfl⟩)) rfl
theorem wv_21_10 : (Cond.selects "DrawingHouseModel" ⟨"DrawingHouseModel", "matrix", "(I)I"⟩ ⟨"DrawingHouseModel", "matrix", "(I)I"⟩ : Cond) ∈ lw_g := lw_gi (List.mem_append_left _ (List.mem_map.mpr ⟨_, lw_v21 (List.mem_of_getElem? (i := 10) rfl), rfl⟩)) rfl
theorem wv_21_12 : (Cond.selects "DrawingHouseModel" ⟨"DrawingHouseModel", "keep", "(II)V"⟩ ⟨"DrawingHouseModel", "keep", "(II)V"⟩ : Cond) ∈ lw_g := lw_gi (List.mem_append_left _ (List.mem_map.mpr ⟨_, lw_v21 (List.mem_of_getElem? (i := 12) rfl), rfl⟩)) rfl
theorem wv_22_3 : (Cond.selects "DrawingHouseModel" ⟨"DrawingHouseModel", "reached", "(II)V"⟩ ⟨"DrawingHouseModel", "reached", "(II)V"⟩ : Cond) ∈ lw_g := lw_gi (List.mem_append_left _ (List.mem_map.mpr ⟨_, lw_v22 (List.mem_of_getElem? (i := 3) rfl), rfl⟩)) rfl
theorem wv_22_4 : (Cond.selects "DrawingHouseModel" ⟨"DrawingHouseModel", "backFrom", "(II)V"⟩ ⟨"DrawingHouseModel", "backFrom", "(II)V"⟩ : Cond) ∈ lw_g := lw_gi (List.mem_append_left _ (List.mem_map.mpr ⟨_, lw_v22 (List.mem_of_getElem? (i := 4) rfl), rfl⟩)) rfl
theorem wv_22_6 : (Cond.selects "DrawingHouseModel" ⟨"DrawingHouseModel", "stepTo", "(II)I"⟩ ⟨"DrawingHouseModel", "stepTo", "(II)I"⟩ : Cond) ∈ lw_g := lw_gi (List.mem_append_left _ (List.mem_map.mpr ⟨_, lw_v22 (List.mem_of_getElem? (i := 6) rfl), rfl⟩)) rfl
