section
theorem wm_619 : (Cond.methodLink "DrawingHouseLaw" (13 : Nat) ({ cls := "DrawingHouse", name := "feed", desc := "(IIIII)I" } : MethodName) : Cond) ∈ lw_g := lw_gi (lw_c3 (List.mem_of_getElem? (i := 139) rfl)) rfl
theorem wm_620 : (Cond.instanceMethod ({ cls := "DrawingHouse", name := "feed", desc := "(IIIII)I" } : MethodName) : Cond) ∈ lw_g := lw_gi (lw_c3 (List.mem_of_getElem? (i := 140) rfl)) rfl
theorem wm_621 : (Cond.selects "DrawingHouse" ({ cls := "DrawingHouse", name := "feed", desc := "(IIIII)I" } : MethodName) ({ cls := "DrawingHouse", name := "feed", desc := "(IIIII)I" } : MethodName) : Cond) ∈ lw_g := lw_gi (lw_c3 (List.mem_of_getElem? (i := 141) rfl)) rfl
theorem wm_627 : (Cond.methodLink "DrawingHouseLaw" (18 : Nat) ({ cls := "DrawingHouse", name := "read", desc := "(II)I" } : MethodName) : Cond) ∈ lw_g := lw_gi (lw_c3 (List.mem_of_getElem? (i := 147) rfl)) rfl
theorem wm_628 : (Cond.instanceMethod ({ cls := "DrawingHouse", name := "read", desc := "(II)I" } : MethodName) : Cond) ∈ lw_g := lw_gi (lw_c3 (List.mem_of_getElem? (i := 148) rfl)) rfl
theorem wm_629 : (Cond.selects "DrawingHouse" ({ cls := "DrawingHouse", name := "read", desc := "(II)I" } : MethodName) ({ cls := "DrawingHouse", name := "read", desc := "(II)I" } : MethodName) : Cond) ∈ lw_g := lw_gi (lw_c3 (List.mem_of_getElem? (i := 149) rfl)) rfl
theorem wm_799 : (Cond.methodLink "DrawingHouseLaw" (23 : Nat) ({ cls := "DrawingHouse", name := "fault", desc := "(I)I" } : MethodName) : Cond) ∈ lw_g := lw_gi (lw_c4 (List.mem_of_getElem? (i := 79) rfl)) rfl
theorem wm_800 : (Cond.instanceMethod ({ cls := "DrawingHouse", name := "fault", desc := "(I)I" } : MethodName) : Cond) ∈ lw_g := lw_gi (lw_c4 (List.mem_of_getElem? (i := 80) rfl)) rfl
theorem wm_801 : (Cond.selects "DrawingHouse" ({ cls := "DrawingHouse", name := "fault", desc := "(I)I" } : MethodName) ({ cls := "DrawingHouse", name := "fault", desc := "(I)I" } : MethodName) : Cond) ∈ lw_g := lw_gi (lw_c4 (List.mem_of_getElem? (i := 81) rfl)) rfl
theorem wm_803 : (Cond.methodLink "DrawingHouseLaw" (28 : Nat) ({ cls := "DrawingHouse", name := "count", desc := "(II)I" } : MethodName) : Cond) ∈ lw_g := lw_gi (lw_c4 (List.mem_of_getElem? (i := 83) rfl)) rfl
theorem wm_804 : (Cond.instanceMethod ({ cls := "DrawingHouse", name := "count", desc := "(II)I" } : MethodName) : Cond) ∈ lw_g := lw_gi (lw_c4 (List.mem_of_getElem? (i := 84) rfl)) rfl
theorem wm_805 : (Cond.selects "DrawingHouse" ({ cls := "DrawingHouse", name := "count", desc := "(II)I" } : MethodName) ({ cls := "DrawingHouse", name := "count", desc := "(II)I" } : MethodName) : Cond) ∈ lw_g := lw_gi (lw_c4 (List.mem_of_getElem? (i := 85) rfl)) rfl
theorem wm_914 : (Cond.methodLink "DrawingHouseLaw" (32 : Nat) ({ cls := "DrawingHouse", name := "node", desc := "(III)I" } : MethodName) : Cond) ∈ lw_g := lw_gi (lw_c4 (List.mem_of_getElem? (i := 194) rfl)) rfl
theorem wm_915 : (Cond.instanceMethod ({ cls := "DrawingHouse", name := "node", desc := "(III)I" } : MethodName) : Cond) ∈ lw_g := lw_gi (lw_c4 (List.mem_of_getElem? (i := 195) rfl)) rfl
theorem wm_916 : (Cond.selects "DrawingHouse" ({ cls := "DrawingHouse", name := "node", desc := "(III)I" } : MethodName) ({ cls := "DrawingHouse", name := "node", desc := "(III)I" } : MethodName) : Cond) ∈ lw_g := lw_gi (lw_c4 (List.mem_of_getElem? (i := 196) rfl)) rfl
theorem wm_923 : (Cond.methodLink "DrawingHouseLaw" (37 : Nat) ({ cls := "DrawingHouse", name := "edge", desc := "(III)I" } : MethodName) : Cond) ∈ lw_g := lw_gi (lw_c4 (List.mem_of_getElem? (i := 203) rfl)) rfl
theorem wm_924 : (Cond.instanceMethod ({ cls := "DrawingHouse", name := "edge", desc := "(III)I" } : MethodName) : Cond) ∈ lw_g := lw_gi (lw_c4 (List.mem_of_getElem? (i := 204) rfl)) rfl
theorem wm_925 : (Cond.selects "DrawingHouse" ({ cls := "DrawingHouse", name := "edge", desc := "(III)I" } : MethodName) ({ cls := "DrawingHouse", name := "edge", desc := "(III)I" } : MethodName) : Cond) ∈ lw_g := lw_gi (lw_c4 (List.mem_of_getElem? (i := 205) rfl)) rfl
theorem wm_935 : (Cond.methodLink "DrawingHouseLaw" (41 : Nat) ({ cls := "DrawingHouse", name := "group", desc := "(III)I" } : MethodName) : Cond) ∈ lw_g := lw_gi (lw_c4 (List.mem_of_getElem? (i := 215) rfl)) rfl
theorem wm_936 : (Cond.instanceMethod ({ cls := "DrawingHouse", name := "group", desc := "(III)I" } : MethodName) : Cond) ∈ lw_g := lw_gi (lw_c4 (List.mem_of_getElem? (i := 216) rfl)) rfl
theorem wm_937 : (Cond.selects "DrawingHouse" ({ cls := "DrawingHouse", name := "group", desc := "(III)I" } : MethodName) ({ cls := "DrawingHouse", name := "group", desc := "(III)I" } : MethodName) : Cond) ∈ lw_g := lw_gi (lw_c4 (List.mem_of_getElem? (i := 217) rfl)) rfl
theorem wm_947 : (Cond.methodLink "DrawingHouseLaw" (45 : Nat) ({ cls := "DrawingHouse", name := "letter", desc := "(IIII)I" } : MethodName) : Cond) ∈ lw_g := lw_gi (lw_c4 (List.mem_of_getElem? (i := 227) rfl)) rfl
theorem wm_948 : (Cond.instanceMethod ({ cls := "DrawingHouse", name := "letter", desc := "(IIII)I" } : MethodName) : Cond) ∈ lw_g := lw_gi (lw_c4 (List.mem_of_getElem? (i := 228) rfl)) rfl
theorem wm_949 : (Cond.selects "DrawingHouse" ({ cls := "DrawingHouse", name := "letter", desc := "(IIII)I" } : MethodName) ({ cls := "DrawingHouse", name := "letter", desc := "(IIII)I" } : MethodName) : Cond) ∈ lw_g := lw_gi (lw_c4 (List.mem_of_getElem? (i := 229) rfl)) rfl
theorem wm_951 : (Cond.methodLink "DrawingHouseLaw" (50 : Nat) ({ cls := "DrawingHouse", name := "change", desc := "(IIII)I" } : MethodName) : Cond) ∈ lw_g := lw_gi (lw_c4 (List.mem_of_getElem? (i := 231) rfl)) rfl
theorem wm_952 : (Cond.instanceMethod ({ cls := "DrawingHouse", name := "change", desc := "(IIII)I" } : MethodName) : Cond) ∈ lw_g := lw_gi (lw_c4 (List.mem_of_getElem? (i := 232) rfl)) rfl
theorem wm_953 : (Cond.selects "DrawingHouse" ({ cls := "DrawingHouse", name := "change", desc := "(IIII)I" } : MethodName) ({ cls := "DrawingHouse", name := "change", desc := "(IIII)I" } : MethodName) : Cond) ∈ lw_g := lw_gi (lw_c4 (List.mem_of_getElem? (i := 233) rfl)) rfl
theorem wm_998 : (Cond.methodLink "DrawingHouseLaw" (54 : Nat) ({ cls := "DrawingHouse", name := "back", desc := "(II)Z" } : MethodName) : Cond) ∈ lw_g := lw_gi (lw_c5 (List.mem_of_getElem? (i := 38) rfl)) rfl
theorem wm_999 : (Cond.instanceMethod ({ cls := "DrawingHouse", name := "back", desc := "(II)Z" } : MethodName) : Cond) ∈ lw_g := lw_gi (lw_c5 (List.mem_of_getElem? (i := 39) rfl)) rfl
theorem wm_1000 : (Cond.selects "DrawingHouse" ({ cls := "DrawingHouse", name := "back", desc := "(II)Z" } : MethodName) ({ cls := "DrawingHouse", name := "back", desc := "(II)Z" } : MethodName) : Cond) ∈ lw_g := lw_gi (lw_c5 (List.mem_of_getElem? (i := 40) rfl)) rfl
theorem wm_1014 : (Cond.methodLink "DrawingHouseLaw" (59 : Nat) ({ cls := "DrawingHouse", name := "far", desc := "(III)I" } : MethodName) : Cond) ∈ lw_g := lw_gi (lw_c5 (List.mem_of_getElem? (i := 54) rfl)) rfl
theorem wm_1015 : (Cond.instanceMethod ({ cls := "DrawingHouse", name := "far", desc := "(III)I" } : MethodName) : Cond) ∈ lw_g := lw_gi (lw_c5 (List.mem_of_getElem? (i := 55) rfl)) rfl
theorem wm_1016 : (Cond.selects "DrawingHouse" ({ cls := "DrawingHouse", name := "far", desc := "(III)I" } : MethodName) ({ cls := "DrawingHouse", name := "far", desc := "(III)I" } : MethodName) : Cond) ∈ lw_g := lw_gi (lw_c5 (List.mem_of_getElem? (i := 56) rfl)) rfl
theorem wm_1023 : (Cond.methodLink "DrawingHouseLaw" (63 : Nat) ({ cls := "DrawingHouse", name := "same", desc := "(II)I" } : MethodName) : Cond) ∈ lw_g := lw_gi (lw_c5 (List.mem_of_getElem? (i := 63) rfl)) rfl
theorem wm_1024 : (Cond.instanceMethod ({ cls := "DrawingHouse", name := "same", desc := "(II)I" } : MethodName) : Cond) ∈ lw_g := lw_gi (lw_c5 (List.mem_of_getElem? (i := 64) rfl)) rfl
theorem wm_1025 : (Cond.selects "DrawingHouse" ({ cls := "DrawingHouse", name := "same", desc := "(II)I" } : MethodName) ({ cls := "DrawingHouse", name := "same", desc := "(II)I" } : MethodName) : Cond) ∈ lw_g := lw_gi (lw_c5 (List.mem_of_getElem? (i := 65) rfl)) rfl
theorem wm_1041 : (Cond.methodLink "DrawingHouseLaw" (67 : Nat) ({ cls := "DrawingHouse", name := "map", desc := "(I)I" } : MethodName) : Cond) ∈ lw_g := lw_gi (lw_c5 (List.mem_of_getElem? (i := 81) rfl)) rfl
theorem wm_1042 : (Cond.instanceMethod ({ cls := "DrawingHouse", name := "map", desc := "(I)I" } : MethodName) : Cond) ∈ lw_g := lw_gi (lw_c5 (List.mem_of_getElem? (i := 82) rfl)) rfl
theorem wm_1043 : (Cond.selects "DrawingHouse" ({ cls := "DrawingHouse", name := "map", desc := "(I)I" } : MethodName) ({ cls := "DrawingHouse", name := "map", desc := "(I)I" } : MethodName) : Cond) ∈ lw_g := lw_gi (lw_c5 (List.mem_of_getElem? (i := 83) rfl)) rfl
theorem wm_1045 : (Cond.methodLink "DrawingHouseLaw" (71 : Nat) ({ cls := "DrawingHouse", name := "planar", desc := "(II)I" } : MethodName) : Cond) ∈ lw_g := lw_gi (lw_c5 (List.mem_of_getElem? (i := 85) rfl)) rfl
theorem wm_1046 : (Cond.instanceMethod ({ cls := "DrawingHouse", name := "planar", desc := "(II)I" } : MethodName) : Cond) ∈ lw_g := lw_gi (lw_c5 (List.mem_of_getElem? (i := 86) rfl)) rfl
theorem wm_1047 : (Cond.selects "DrawingHouse" ({ cls := "DrawingHouse", name := "planar", desc := "(II)I" } : MethodName) ({ cls := "DrawingHouse", name := "planar", desc := "(II)I" } : MethodName) : Cond) ∈ lw_g := lw_gi (lw_c5 (List.mem_of_getElem? (i := 87) rfl)) rfl
theorem wm_1169 : (Cond.methodLink "DrawingHouseLaw" (75 : Nat) ({ cls := "DrawingHouse", name := "turn", desc := "(IIII)I" } : MethodName) : Cond) ∈ lw_g := lw_gi (lw_c5 (List.mem_of_getElem? (i := 209) rfl)) rfl
theorem wm_1170 : (Cond.instanceMethod ({ cls := "DrawingHouse", name := "turn", desc := "(IIII)I" } : MethodName) : Cond) ∈ lw_g := lw_gi (lw_c5 (List.mem_of_getElem? (i := 210) rfl)) rfl
theorem wm_1171 : (Cond.selects "DrawingHouse" ({ cls := "DrawingHouse", name := "turn", desc := "(IIII)I" } : MethodName) ({ cls := "DrawingHouse", name := "turn", desc := "(IIII)I" } : MethodName) : Cond) ∈ lw_g := lw_gi (lw_c5 (List.mem_of_getElem? (i := 211) rfl)) rfl
theorem wm_1182 : (Cond.methodLink "DrawingHouseLaw" (79 : Nat) ({ cls := "DrawingHouse", name := "draw", desc := "(III)I" } : MethodName) : Cond) ∈ lw_g := lw_gi (lw_c5 (List.mem_of_getElem? (i := 222) rfl)) rfl
theorem wm_1183 : (Cond.instanceMethod ({ cls := "DrawingHouse", name := "draw", desc := "(III)I" } : MethodName) : Cond) ∈ lw_g := lw_gi (lw_c5 (List.mem_of_getElem? (i := 223) rfl)) rfl
theorem wm_1184 : (Cond.selects "DrawingHouse" ({ cls := "DrawingHouse", name := "draw", desc := "(III)I" } : MethodName) ({ cls := "DrawingHouse", name := "draw", desc := "(III)I" } : MethodName) : Cond) ∈ lw_g := lw_gi (lw_c5 (List.mem_of_getElem? (i := 224) rfl)) rfl
theorem wm_1813 : (Cond.methodLink "DrawingHouseLaw" (83 : Nat) ({ cls := "DrawingHouse", name := "at", desc := "(IIII)I" } : MethodName) : Cond) ∈ lw_g := lw_gi (lw_c8 (List.mem_of_getElem? (i := 133) rfl)) rfl
theorem wm_1814 : (Cond.instanceMethod ({ cls := "DrawingHouse", name := "at", desc := "(IIII)I" } : MethodName) : Cond) ∈ lw_g := lw_gi (lw_c8 (List.mem_of_getElem? (i := 134) rfl)) rfl
theorem wm_1815 : (Cond.selects "DrawingHouse" ({ cls := "DrawingHouse", name := "at", desc := "(IIII)I" } : MethodName) ({ cls := "DrawingHouse", name := "at", desc := "(IIII)I" } : MethodName) : Cond) ∈ lw_g := lw_gi (lw_c8 (List.mem_of_getElem? (i := 135) rfl)) rfl
theorem wm_1825 : (Cond.methodLink "DrawingHouseLaw" (87 : Nat) ({ cls := "DrawingHouse", name := "told", desc := "(III)I" } : MethodName) : Cond) ∈ lw_g := lw_gi (lw_c8 (List.mem_of_getElem? (i := 145) rfl)) rfl
theorem wm_1826 : (Cond.instanceMethod ({ cls := "DrawingHouse", name := "told", desc := "(III)I" } : MethodName) : Cond) ∈ lw_g := lw_gi (lw_c8 (List.mem_of_getElem? (i := 146) rfl)) rfl
theorem wm_1827 : (Cond.selects "DrawingHouse" ({ cls := "DrawingHouse", name := "told", desc := "(III)I" } : MethodName) ({ cls := "DrawingHouse", name := "told", desc := "(III)I" } : MethodName) : Cond) ∈ lw_g := lw_gi (lw_c8 (List.mem_of_getElem? (i := 147) rfl)) rfl
theorem wm_1842 : (Cond.methodLink "DrawingHouseLaw" (91 : Nat) ({ cls := "DrawingHouse", name := "put", desc := "(IIIII)Z" } : MethodName) : Cond) ∈ lw_g := lw_gi (lw_c8 (List.mem_of_getElem? (i := 162) rfl)) rfl
theorem wm_1843 : (Cond.instanceMethod ({ cls := "DrawingHouse", name := "put", desc := "(IIIII)Z" } : MethodName) : Cond) ∈ lw_g := lw_gi (lw_c8 (List.mem_of_getElem? (i := 163) rfl)) rfl
theorem wm_1844 : (Cond.selects "DrawingHouse" ({ cls := "DrawingHouse", name := "put", desc := "(IIIII)Z" } : MethodName) ({ cls := "DrawingHouse", name := "put", desc := "(IIIII)Z" } : MethodName) : Cond) ∈ lw_g := lw_gi (lw_c8 (List.mem_of_getElem? (i := 164) rfl)) rfl
theorem wm_1852 : (Cond.methodLink "DrawingHouseLaw" (96 : Nat) ({ cls := "DrawingHouse", name := "route", desc := "(II)I" } : MethodName) : Cond) ∈ lw_g := lw_gi (lw_c8 (List.mem_of_getElem? (i := 172) rfl)) rfl
theorem wm_1853 : (Cond.instanceMethod ({ cls := "DrawingHouse", name := "route", desc := "(II)I" } : MethodName) : Cond) ∈ lw_g := lw_gi (lw_c8 (List.mem_of_getElem? (i := 173) rfl)) rfl
theorem wm_1854 : (Cond.selects "DrawingHouse" ({ cls := "DrawingHouse", name := "route", desc := "(II)I" } : MethodName) ({ cls := "DrawingHouse", name := "route", desc := "(II)I" } : MethodName) : Cond) ∈ lw_g := lw_gi (lw_c8 (List.mem_of_getElem? (i := 174) rfl)) rfl
theorem wm_1971 : (Cond.methodLink "DrawingHouseLaw" (100 : Nat) ({ cls := "DrawingHouse", name := "label", desc := "(III)I" } : MethodName) : Cond) ∈ lw_g := lw_gi (lw_c9 (List.mem_of_getElem? (i := 51) rfl)) rfl
theorem wm_1972 : (Cond.instanceMethod ({ cls := "DrawingHouse", name := "label", desc := "(III)I" } : MethodName) : Cond) ∈ lw_g := lw_gi (lw_c9 (List.mem_of_getElem? (i := 52) rfl)) rfl
theorem wm_1973 : (Cond.selects "DrawingHouse" ({ cls := "DrawingHouse", name := "label", desc := "(III)I" } : MethodName) ({ cls := "DrawingHouse", name := "label", desc := "(III)I" } : MethodName) : Cond) ∈ lw_g := lw_gi (lw_c9 (List.mem_of_getElem? (i := 53) rfl)) rfl
theorem wm_2002 : (Cond.methodLink "DrawingHouseLaw" (104 : Nat) ({ cls := "DrawingHouse", name := "judge", desc := "(II)J" } : MethodName) : Cond) ∈ lw_g := lw_gi (lw_c9 (List.mem_of_getElem? (i := 82) rfl)) rfl
theorem wm_2003 : (Cond.instanceMethod ({ cls := "DrawingHouse", name := "judge", desc := "(II)J" } : MethodName) : Cond) ∈ lw_g := lw_gi (lw_c9 (List.mem_of_getElem? (i := 83) rfl)) rfl
theorem wm_2004 : (Cond.selects "DrawingHouse" ({ cls := "DrawingHouse", name := "judge", desc := "(II)J" } : MethodName) ({ cls := "DrawingHouse", name := "judge", desc := "(II)J" } : MethodName) : Cond) ∈ lw_g := lw_gi (lw_c9 (List.mem_of_getElem? (i := 84) rfl)) rfl
theorem wm_2085 : (Cond.methodLink "DrawingHouseLaw" (109 : Nat) ({ cls := "DrawingHouse", name := "style", desc := "(II)I" } : MethodName) : Cond) ∈ lw_g := lw_gi (lw_c9 (List.mem_of_getElem? (i := 165) rfl)) rfl
theorem wm_2086 : (Cond.instanceMethod ({ cls := "DrawingHouse", name := "style", desc := "(II)I" } : MethodName) : Cond) ∈ lw_g := lw_gi (lw_c9 (List.mem_of_getElem? (i := 166) rfl)) rfl
theorem wm_2087 : (Cond.selects "DrawingHouse" ({ cls := "DrawingHouse", name := "style", desc := "(II)I" } : MethodName) ({ cls := "DrawingHouse", name := "style", desc := "(II)I" } : MethodName) : Cond) ∈ lw_g := lw_gi (lw_c9 (List.mem_of_getElem? (i := 167) rfl)) rfl
theorem wm_2323 : (Cond.methodLink "DrawingHouseLaw" (113 : Nat) ({ cls := "DrawingHouse", name := "shade", desc := "(IIII)I" } : MethodName) : Cond) ∈ lw_g := lw_gi (lw_c10 (List.mem_of_getElem? (i := 163) rfl)) rfl
theorem wm_2324 : (Cond.instanceMethod ({ cls := "DrawingHouse", name := "shade", desc := "(IIII)I" } : MethodName) : Cond) ∈ lw_g := lw_gi (lw_c10 (List.mem_of_getElem? (i := 164) rfl)) rfl
theorem wm_2325 : (Cond.selects "DrawingHouse" ({ cls := "DrawingHouse", name := "shade", desc := "(IIII)I" } : MethodName) ({ cls := "DrawingHouse", name := "shade", desc := "(IIII)I" } : MethodName) : Cond) ∈ lw_g := lw_gi (lw_c10 (List.mem_of_getElem? (i := 165) rfl)) rfl
theorem wm_2327 : (Cond.methodLink "DrawingHouseLaw" (117 : Nat) ({ cls := "DrawingHouse", name := "text", desc := "(II)I" } : MethodName) : Cond) ∈ lw_g := lw_gi (lw_c10 (List.mem_of_getElem? (i := 167) rfl)) rfl
theorem wm_2328 : (Cond.instanceMethod ({ cls := "DrawingHouse", name := "text", desc := "(II)I" } : MethodName) : Cond) ∈ lw_g := lw_gi (lw_c10 (List.mem_of_getElem? (i := 168) rfl)) rfl
theorem wm_2329 : (Cond.selects "DrawingHouse" ({ cls := "DrawingHouse", name := "text", desc := "(II)I" } : MethodName) ({ cls := "DrawingHouse", name := "text", desc := "(II)I" } : MethodName) : Cond) ∈ lw_g := lw_gi (lw_c10 (List.mem_of_getElem? (i := 169) rfl)) rfl
theorem wm_2379 : (Cond.methodLink "DrawingHouseLaw" (121 : Nat) ({ cls := "DrawingHouse", name := "octet", desc := "(I)I" } : MethodName) : Cond) ∈ lw_g := lw_gi (lw_c10 (List.mem_of_getElem? (i := 219) rfl)) rfl
theorem wm_2380 : (Cond.instanceMethod ({ cls := "DrawingHouse", name := "octet", desc := "(I)I" } : MethodName) : Cond) ∈ lw_g := lw_gi (lw_c10 (List.mem_of_getElem? (i := 220) rfl)) rfl
theorem wm_2381 : (Cond.selects "DrawingHouse" ({ cls := "DrawingHouse", name := "octet", desc := "(I)I" } : MethodName) ({ cls := "DrawingHouse", name := "octet", desc := "(I)I" } : MethodName) : Cond) ∈ lw_g := lw_gi (lw_c10 (List.mem_of_getElem? (i := 221) rfl)) rfl
theorem wm_2383 : (Cond.methodLink "DrawingHouseLaw" (125 : Nat) ({ cls := "DrawingHouse", name := "dots", desc := "(III)I" } : MethodName) : Cond) ∈ lw_g := lw_gi (lw_c10 (List.mem_of_getElem? (i := 223) rfl)) rfl
theorem wm_2384 : (Cond.instanceMethod ({ cls := "DrawingHouse", name := "dots", desc := "(III)I" } : MethodName) : Cond) ∈ lw_g := lw_gi (lw_c10 (List.mem_of_getElem? (i := 224) rfl)) rfl
theorem wm_2385 : (Cond.selects "DrawingHouse" ({ cls := "DrawingHouse", name := "dots", desc := "(III)I" } : MethodName) ({ cls := "DrawingHouse", name := "dots", desc := "(III)I" } : MethodName) : Cond) ∈ lw_g := lw_gi (lw_c10 (List.mem_of_getElem? (i := 225) rfl)) rfl
theorem wm_2405 : (Cond.methodLink "DrawingHouseLaw" (129 : Nat) ({ cls := "DrawingHouse", name := "dot", desc := "(II)I" } : MethodName) : Cond) ∈ lw_g := lw_gi (lw_c11 (List.mem_of_getElem? (i := 5) rfl)) rfl
theorem wm_2406 : (Cond.instanceMethod ({ cls := "DrawingHouse", name := "dot", desc := "(II)I" } : MethodName) : Cond) ∈ lw_g := lw_gi (lw_c11 (List.mem_of_getElem? (i := 6) rfl)) rfl
theorem wm_2407 : (Cond.selects "DrawingHouse" ({ cls := "DrawingHouse", name := "dot", desc := "(II)I" } : MethodName) ({ cls := "DrawingHouse", name := "dot", desc := "(II)I" } : MethodName) : Cond) ∈ lw_g := lw_gi (lw_c11 (List.mem_of_getElem? (i := 7) rfl)) rfl
theorem wm_2961 : (Cond.methodLink "DrawingHouseLaw" (17 : Nat) ({ cls := "DrawingHouseModel", name := "feed", desc := "(IIIII)I" } : MethodName) : Cond) ∈ lw_g := lw_gi (lw_c13 (List.mem_of_getElem? (i := 81) rfl)) rfl
theorem wm_2962 : (Cond.instanceMethod ({ cls := "DrawingHouseModel", name := "feed", desc := "(IIIII)I" } : MethodName) : Cond) ∈ lw_g := lw_gi (lw_c13 (List.mem_of_getElem? (i := 82) rfl)) rfl
theorem wm_2963 : (Cond.selects "DrawingHouseModel" ({ cls := "DrawingHouseModel", name := "feed", desc := "(IIIII)I" } : MethodName) ({ cls := "DrawingHouseModel", name := "feed", desc := "(IIIII)I" } : MethodName) : Cond) ∈ lw_g := lw_gi (lw_c13 (List.mem_of_getElem? (i := 83) rfl)) rfl
theorem wm_2965 : (Cond.methodLink "DrawingHouseLaw" (27 : Nat) ({ cls := "DrawingHouseModel", name := "fault", desc := "(I)I" } : MethodName) : Cond) ∈ lw_g := lw_gi (lw_c13 (List.mem_of_getElem? (i := 85) rfl)) rfl
theorem wm_2966 : (Cond.instanceMethod ({ cls := "DrawingHouseModel", name := "fault", desc := "(I)I" } : MethodName) : Cond) ∈ lw_g := lw_gi (lw_c13 (List.mem_of_getElem? (i := 86) rfl)) rfl
theorem wm_2967 : (Cond.selects "DrawingHouseModel" ({ cls := "DrawingHouseModel", name := "fault", desc := "(I)I" } : MethodName) ({ cls := "DrawingHouseModel", name := "fault", desc := "(I)I" } : MethodName) : Cond) ∈ lw_g := lw_gi (lw_c13 (List.mem_of_getElem? (i := 87) rfl)) rfl
theorem wm_2972 : (Cond.methodLink "DrawingHouseLaw" (22 : Nat) ({ cls := "DrawingHouseModel", name := "read", desc := "(II)I" } : MethodName) : Cond) ∈ lw_g := lw_gi (lw_c13 (List.mem_of_getElem? (i := 92) rfl)) rfl
theorem wm_2973 : (Cond.instanceMethod ({ cls := "DrawingHouseModel", name := "read", desc := "(II)I" } : MethodName) : Cond) ∈ lw_g := lw_gi (lw_c13 (List.mem_of_getElem? (i := 93) rfl)) rfl
theorem wm_2974 : (Cond.selects "DrawingHouseModel" ({ cls := "DrawingHouseModel", name := "read", desc := "(II)I" } : MethodName) ({ cls := "DrawingHouseModel", name := "read", desc := "(II)I" } : MethodName) : Cond) ∈ lw_g := lw_gi (lw_c13 (List.mem_of_getElem? (i := 94) rfl)) rfl
theorem wm_3084 : (Cond.methodLink "DrawingHouseLaw" (53 : Nat) ({ cls := "DrawingHouseModel", name := "change", desc := "(IIII)I" } : MethodName) : Cond) ∈ lw_g := lw_gi (lw_c13 (List.mem_of_getElem? (i := 204) rfl)) rfl
theorem wm_3085 : (Cond.instanceMethod ({ cls := "DrawingHouseModel", name := "change", desc := "(IIII)I" } : MethodName) : Cond) ∈ lw_g := lw_gi (lw_c13 (List.mem_of_getElem? (i := 205) rfl)) rfl
theorem wm_3086 : (Cond.selects "DrawingHouseModel" ({ cls := "DrawingHouseModel", name := "change", desc := "(IIII)I" } : MethodName) ({ cls := "DrawingHouseModel", name := "change", desc := "(IIII)I" } : MethodName) : Cond) ∈ lw_g := lw_gi (lw_c13 (List.mem_of_getElem? (i := 206) rfl)) rfl
theorem wm_3112 : (Cond.methodLink "DrawingHouseLaw" (58 : Nat) ({ cls := "DrawingHouseModel", name := "back", desc := "(II)Z" } : MethodName) : Cond) ∈ lw_g := lw_gi (lw_c13 (List.mem_of_getElem? (i := 232) rfl)) rfl
theorem wm_3113 : (Cond.instanceMethod ({ cls := "DrawingHouseModel", name := "back", desc := "(II)Z" } : MethodName) : Cond) ∈ lw_g := lw_gi (lw_c13 (List.mem_of_getElem? (i := 233) rfl)) rfl
theorem wm_3114 : (Cond.selects "DrawingHouseModel" ({ cls := "DrawingHouseModel", name := "back", desc := "(II)Z" } : MethodName) ({ cls := "DrawingHouseModel", name := "back", desc := "(II)Z" } : MethodName) : Cond) ∈ lw_g := lw_gi (lw_c13 (List.mem_of_getElem? (i := 234) rfl)) rfl
theorem wm_3116 : (Cond.methodLink "DrawingHouseLaw" (66 : Nat) ({ cls := "DrawingHouseModel", name := "same", desc := "(II)I" } : MethodName) : Cond) ∈ lw_g := lw_gi (lw_c13 (List.mem_of_getElem? (i := 236) rfl)) rfl
theorem wm_3117 : (Cond.instanceMethod ({ cls := "DrawingHouseModel", name := "same", desc := "(II)I" } : MethodName) : Cond) ∈ lw_g := lw_gi (lw_c13 (List.mem_of_getElem? (i := 237) rfl)) rfl
theorem wm_3118 : (Cond.selects "DrawingHouseModel" ({ cls := "DrawingHouseModel", name := "same", desc := "(II)I" } : MethodName) ({ cls := "DrawingHouseModel", name := "same", desc := "(II)I" } : MethodName) : Cond) ∈ lw_g := lw_gi (lw_c13 (List.mem_of_getElem? (i := 238) rfl)) rfl
theorem wm_3132 : (Cond.methodLink "DrawingHouseLaw" (70 : Nat) ({ cls := "DrawingHouseModel", name := "map", desc := "(I)I" } : MethodName) : Cond) ∈ lw_g := lw_gi (lw_c14 (List.mem_of_getElem? (i := 12) rfl)) rfl
theorem wm_3133 : (Cond.instanceMethod ({ cls := "DrawingHouseModel", name := "map", desc := "(I)I" } : MethodName) : Cond) ∈ lw_g := lw_gi (lw_c14 (List.mem_of_getElem? (i := 13) rfl)) rfl
theorem wm_3134 : (Cond.selects "DrawingHouseModel" ({ cls := "DrawingHouseModel", name := "map", desc := "(I)I" } : MethodName) ({ cls := "DrawingHouseModel", name := "map", desc := "(I)I" } : MethodName) : Cond) ∈ lw_g := lw_gi (lw_c14 (List.mem_of_getElem? (i := 14) rfl)) rfl
theorem wm_3136 : (Cond.methodLink "DrawingHouseLaw" (74 : Nat) ({ cls := "DrawingHouseModel", name := "planar", desc := "(II)I" } : MethodName) : Cond) ∈ lw_g := lw_gi (lw_c14 (List.mem_of_getElem? (i := 16) rfl)) rfl
theorem wm_3137 : (Cond.instanceMethod ({ cls := "DrawingHouseModel", name := "planar", desc := "(II)I" } : MethodName) : Cond) ∈ lw_g := lw_gi (lw_c14 (List.mem_of_getElem? (i := 17) rfl)) rfl
theorem wm_3138 : (Cond.selects "DrawingHouseModel" ({ cls := "DrawingHouseModel", name := "planar", desc := "(II)I" } : MethodName) ({ cls := "DrawingHouseModel", name := "planar", desc := "(II)I" } : MethodName) : Cond) ∈ lw_g := lw_gi (lw_c14 (List.mem_of_getElem? (i := 18) rfl)) rfl
theorem wm_3268 : (Cond.methodLink "DrawingHouseLaw" (78 : Nat) ({ cls := "DrawingHouseModel", name := "turn", desc := "(IIII)I" } : MethodName) : Cond) ∈ lw_g := lw_gi (lw_c14 (List.mem_of_getElem? (i := 148) rfl)) rfl
theorem wm_3269 : (Cond.instanceMethod ({ cls := "DrawingHouseModel", name := "turn", desc := "(IIII)I" } : MethodName) : Cond) ∈ lw_g := lw_gi (lw_c14 (List.mem_of_getElem? (i := 149) rfl)) rfl
theorem wm_3270 : (Cond.selects "DrawingHouseModel" ({ cls := "DrawingHouseModel", name := "turn", desc := "(IIII)I" } : MethodName) ({ cls := "DrawingHouseModel", name := "turn", desc := "(IIII)I" } : MethodName) : Cond) ∈ lw_g := lw_gi (lw_c14 (List.mem_of_getElem? (i := 150) rfl)) rfl
theorem wm_3276 : (Cond.methodLink "DrawingHouseLaw" (31 : Nat) ({ cls := "DrawingHouseModel", name := "count", desc := "(II)I" } : MethodName) : Cond) ∈ lw_g := lw_gi (lw_c14 (List.mem_of_getElem? (i := 156) rfl)) rfl
theorem wm_3277 : (Cond.instanceMethod ({ cls := "DrawingHouseModel", name := "count", desc := "(II)I" } : MethodName) : Cond) ∈ lw_g := lw_gi (lw_c14 (List.mem_of_getElem? (i := 157) rfl)) rfl
theorem wm_3278 : (Cond.selects "DrawingHouseModel" ({ cls := "DrawingHouseModel", name := "count", desc := "(II)I" } : MethodName) ({ cls := "DrawingHouseModel", name := "count", desc := "(II)I" } : MethodName) : Cond) ∈ lw_g := lw_gi (lw_c14 (List.mem_of_getElem? (i := 158) rfl)) rfl
theorem wm_3300 : (Cond.methodLink "DrawingHouseLaw" (36 : Nat) ({ cls := "DrawingHouseModel", name := "node", desc := "(III)I" } : MethodName) : Cond) ∈ lw_g := lw_gi (lw_c14 (List.mem_of_getElem? (i := 180) rfl)) rfl
theorem wm_3301 : (Cond.instanceMethod ({ cls := "DrawingHouseModel", name := "node", desc := "(III)I" } : MethodName) : Cond) ∈ lw_g := lw_gi (lw_c14 (List.mem_of_getElem? (i := 181) rfl)) rfl
theorem wm_3302 : (Cond.selects "DrawingHouseModel" ({ cls := "DrawingHouseModel", name := "node", desc := "(III)I" } : MethodName) ({ cls := "DrawingHouseModel", name := "node", desc := "(III)I" } : MethodName) : Cond) ∈ lw_g := lw_gi (lw_c14 (List.mem_of_getElem? (i := 182) rfl)) rfl
theorem wm_3332 : (Cond.methodLink "DrawingHouseLaw" (40 : Nat) ({ cls := "DrawingHouseModel", name := "edge", desc := "(III)I" } : MethodName) : Cond) ∈ lw_g := lw_gi (lw_c14 (List.mem_of_getElem? (i := 212) rfl)) rfl
theorem wm_3333 : (Cond.instanceMethod ({ cls := "DrawingHouseModel", name := "edge", desc := "(III)I" } : MethodName) : Cond) ∈ lw_g := lw_gi (lw_c14 (List.mem_of_getElem? (i := 213) rfl)) rfl
theorem wm_3334 : (Cond.selects "DrawingHouseModel" ({ cls := "DrawingHouseModel", name := "edge", desc := "(III)I" } : MethodName) ({ cls := "DrawingHouseModel", name := "edge", desc := "(III)I" } : MethodName) : Cond) ∈ lw_g := lw_gi (lw_c14 (List.mem_of_getElem? (i := 214) rfl)) rfl
theorem wm_3344 : (Cond.methodLink "DrawingHouseLaw" (44 : Nat) ({ cls := "DrawingHouseModel", name := "group", desc := "(III)I" } : MethodName) : Cond) ∈ lw_g := lw_gi (lw_c14 (List.mem_of_getElem? (i := 224) rfl)) rfl
theorem wm_3345 : (Cond.instanceMethod ({ cls := "DrawingHouseModel", name := "group", desc := "(III)I" } : MethodName) : Cond) ∈ lw_g := lw_gi (lw_c14 (List.mem_of_getElem? (i := 225) rfl)) rfl
theorem wm_3346 : (Cond.selects "DrawingHouseModel" ({ cls := "DrawingHouseModel", name := "group", desc := "(III)I" } : MethodName) ({ cls := "DrawingHouseModel", name := "group", desc := "(III)I" } : MethodName) : Cond) ∈ lw_g := lw_gi (lw_c14 (List.mem_of_getElem? (i := 226) rfl)) rfl
theorem wm_3356 : (Cond.methodLink "DrawingHouseLaw" (49 : Nat) ({ cls := "DrawingHouseModel", name := "letter", desc := "(IIII)I" } : MethodName) : Cond) ∈ lw_g := lw_gi (lw_c14 (List.mem_of_getElem? (i := 236) rfl)) rfl
theorem wm_3357 : (Cond.instanceMethod ({ cls := "DrawingHouseModel", name := "letter", desc := "(IIII)I" } : MethodName) : Cond) ∈ lw_g := lw_gi (lw_c14 (List.mem_of_getElem? (i := 237) rfl)) rfl
theorem wm_3358 : (Cond.selects "DrawingHouseModel" ({ cls := "DrawingHouseModel", name := "letter", desc := "(IIII)I" } : MethodName) ({ cls := "DrawingHouseModel", name := "letter", desc := "(IIII)I" } : MethodName) : Cond) ∈ lw_g := lw_gi (lw_c14 (List.mem_of_getElem? (i := 238) rfl)) rfl
theorem wm_3360 : (Cond.methodLink "DrawingHouseLaw" (62 : Nat) ({ cls := "DrawingHouseModel", name := "far", desc := "(III)I" } : MethodName) : Cond) ∈ lw_g := lw_gi (lw_c15 (List.mem_of_getElem? (i := 0) rfl)) rfl
theorem wm_3361 : (Cond.instanceMethod ({ cls := "DrawingHouseModel", name := "far", desc := "(III)I" } : MethodName) : Cond) ∈ lw_g := lw_gi (lw_c15 (List.mem_of_getElem? (i := 1) rfl)) rfl
theorem wm_3362 : (Cond.selects "DrawingHouseModel" ({ cls := "DrawingHouseModel", name := "far", desc := "(III)I" } : MethodName) ({ cls := "DrawingHouseModel", name := "far", desc := "(III)I" } : MethodName) : Cond) ∈ lw_g := lw_gi (lw_c15 (List.mem_of_getElem? (i := 2) rfl)) rfl
theorem wm_3364 : (Cond.methodLink "DrawingHouseLaw" (82 : Nat) ({ cls := "DrawingHouseModel", name := "draw", desc := "(III)I" } : MethodName) : Cond) ∈ lw_g := lw_gi (lw_c15 (List.mem_of_getElem? (i := 4) rfl)) rfl
theorem wm_3365 : (Cond.instanceMethod ({ cls := "DrawingHouseModel", name := "draw", desc := "(III)I" } : MethodName) : Cond) ∈ lw_g := lw_gi (lw_c15 (List.mem_of_getElem? (i := 5) rfl)) rfl
theorem wm_3366 : (Cond.selects "DrawingHouseModel" ({ cls := "DrawingHouseModel", name := "draw", desc := "(III)I" } : MethodName) ({ cls := "DrawingHouseModel", name := "draw", desc := "(III)I" } : MethodName) : Cond) ∈ lw_g := lw_gi (lw_c15 (List.mem_of_getElem? (i := 6) rfl)) rfl
theorem wm_3649 : (Cond.methodLink "DrawingHouseLaw" (86 : Nat) ({ cls := "DrawingHouseModel", name := "at", desc := "(IIII)I" } : MethodName) : Cond) ∈ lw_g := lw_gi (lw_c16 (List.mem_of_getElem? (i := 49) rfl)) rfl
theorem wm_3650 : (Cond.instanceMethod ({ cls := "DrawingHouseModel", name := "at", desc := "(IIII)I" } : MethodName) : Cond) ∈ lw_g := lw_gi (lw_c16 (List.mem_of_getElem? (i := 50) rfl)) rfl
theorem wm_3651 : (Cond.selects "DrawingHouseModel" ({ cls := "DrawingHouseModel", name := "at", desc := "(IIII)I" } : MethodName) ({ cls := "DrawingHouseModel", name := "at", desc := "(IIII)I" } : MethodName) : Cond) ∈ lw_g := lw_gi (lw_c16 (List.mem_of_getElem? (i := 51) rfl)) rfl
theorem wm_3654 : (Cond.methodLink "DrawingHouseLaw" (90 : Nat) ({ cls := "DrawingHouseModel", name := "told", desc := "(III)I" } : MethodName) : Cond) ∈ lw_g := lw_gi (lw_c16 (List.mem_of_getElem? (i := 54) rfl)) rfl
theorem wm_3655 : (Cond.instanceMethod ({ cls := "DrawingHouseModel", name := "told", desc := "(III)I" } : MethodName) : Cond) ∈ lw_g := lw_gi (lw_c16 (List.mem_of_getElem? (i := 55) rfl)) rfl
theorem wm_3656 : (Cond.selects "DrawingHouseModel" ({ cls := "DrawingHouseModel", name := "told", desc := "(III)I" } : MethodName) ({ cls := "DrawingHouseModel", name := "told", desc := "(III)I" } : MethodName) : Cond) ∈ lw_g := lw_gi (lw_c16 (List.mem_of_getElem? (i := 56) rfl)) rfl
theorem wm_3658 : (Cond.methodLink "DrawingHouseLaw" (95 : Nat) ({ cls := "DrawingHouseModel", name := "put", desc := "(IIIII)Z" } : MethodName) : Cond) ∈ lw_g := lw_gi (lw_c16 (List.mem_of_getElem? (i := 58) rfl)) rfl
theorem wm_3659 : (Cond.instanceMethod ({ cls := "DrawingHouseModel", name := "put", desc := "(IIIII)Z" } : MethodName) : Cond) ∈ lw_g := lw_gi (lw_c16 (List.mem_of_getElem? (i := 59) rfl)) rfl
theorem wm_3660 : (Cond.selects "DrawingHouseModel" ({ cls := "DrawingHouseModel", name := "put", desc := "(IIIII)Z" } : MethodName) ({ cls := "DrawingHouseModel", name := "put", desc := "(IIIII)Z" } : MethodName) : Cond) ∈ lw_g := lw_gi (lw_c16 (List.mem_of_getElem? (i := 60) rfl)) rfl
theorem wm_3662 : (Cond.methodLink "DrawingHouseLaw" (99 : Nat) ({ cls := "DrawingHouseModel", name := "route", desc := "(II)I" } : MethodName) : Cond) ∈ lw_g := lw_gi (lw_c16 (List.mem_of_getElem? (i := 62) rfl)) rfl
theorem wm_3663 : (Cond.instanceMethod ({ cls := "DrawingHouseModel", name := "route", desc := "(II)I" } : MethodName) : Cond) ∈ lw_g := lw_gi (lw_c16 (List.mem_of_getElem? (i := 63) rfl)) rfl
theorem wm_3664 : (Cond.selects "DrawingHouseModel" ({ cls := "DrawingHouseModel", name := "route", desc := "(II)I" } : MethodName) ({ cls := "DrawingHouseModel", name := "route", desc := "(II)I" } : MethodName) : Cond) ∈ lw_g := lw_gi (lw_c16 (List.mem_of_getElem? (i := 64) rfl)) rfl
theorem wm_3715 : (Cond.methodLink "DrawingHouseLaw" (103 : Nat) ({ cls := "DrawingHouseModel", name := "label", desc := "(III)I" } : MethodName) : Cond) ∈ lw_g := lw_gi (lw_c16 (List.mem_of_getElem? (i := 115) rfl)) rfl
theorem wm_3716 : (Cond.instanceMethod ({ cls := "DrawingHouseModel", name := "label", desc := "(III)I" } : MethodName) : Cond) ∈ lw_g := lw_gi (lw_c16 (List.mem_of_getElem? (i := 116) rfl)) rfl
theorem wm_3717 : (Cond.selects "DrawingHouseModel" ({ cls := "DrawingHouseModel", name := "label", desc := "(III)I" } : MethodName) ({ cls := "DrawingHouseModel", name := "label", desc := "(III)I" } : MethodName) : Cond) ∈ lw_g := lw_gi (lw_c16 (List.mem_of_getElem? (i := 117) rfl)) rfl
theorem wm_3735 : (Cond.methodLink "DrawingHouseLaw" (108 : Nat) ({ cls := "DrawingHouseModel", name := "judge", desc := "(II)J" } : MethodName) : Cond) ∈ lw_g := lw_gi (lw_c16 (List.mem_of_getElem? (i := 135) rfl)) rfl
theorem wm_3736 : (Cond.instanceMethod ({ cls := "DrawingHouseModel", name := "judge", desc := "(II)J" } : MethodName) : Cond) ∈ lw_g := lw_gi (lw_c16 (List.mem_of_getElem? (i := 136) rfl)) rfl
theorem wm_3737 : (Cond.selects "DrawingHouseModel" ({ cls := "DrawingHouseModel", name := "judge", desc := "(II)J" } : MethodName) ({ cls := "DrawingHouseModel", name := "judge", desc := "(II)J" } : MethodName) : Cond) ∈ lw_g := lw_gi (lw_c16 (List.mem_of_getElem? (i := 137) rfl)) rfl
theorem wm_3791 : (Cond.methodLink "DrawingHouseLaw" (112 : Nat) ({ cls := "DrawingHouseModel", name := "style", desc := "(II)I" } : MethodName) : Cond) ∈ lw_g := lw_gi (lw_c16 (List.mem_of_getElem? (i := 191) rfl)) rfl
theorem wm_3792 : (Cond.instanceMethod ({ cls := "DrawingHouseModel", name := "style", desc := "(II)I" } : MethodName) : Cond) ∈ lw_g := lw_gi (lw_c16 (List.mem_of_getElem? (i := 192) rfl)) rfl
theorem wm_3793 : (Cond.selects "DrawingHouseModel" ({ cls := "DrawingHouseModel", name := "style", desc := "(II)I" } : MethodName) ({ cls := "DrawingHouseModel", name := "style", desc := "(II)I" } : MethodName) : Cond) ∈ lw_g := lw_gi (lw_c16 (List.mem_of_getElem? (i := 193) rfl)) rfl
theorem wm_3894 : (Cond.methodLink "DrawingHouseLaw" (116 : Nat) ({ cls := "DrawingHouseModel", name := "shade", desc := "(IIII)I" } : MethodName) : Cond) ∈ lw_g := lw_gi (lw_c17 (List.mem_of_getElem? (i := 54) rfl)) rfl
theorem wm_3895 : (Cond.instanceMethod ({ cls := "DrawingHouseModel", name := "shade", desc := "(IIII)I" } : MethodName) : Cond) ∈ lw_g := lw_gi (lw_c17 (List.mem_of_getElem? (i := 55) rfl)) rfl
theorem wm_3896 : (Cond.selects "DrawingHouseModel" ({ cls := "DrawingHouseModel", name := "shade", desc := "(IIII)I" } : MethodName) ({ cls := "DrawingHouseModel", name := "shade", desc := "(IIII)I" } : MethodName) : Cond) ∈ lw_g := lw_gi (lw_c17 (List.mem_of_getElem? (i := 56) rfl)) rfl
theorem wm_3898 : (Cond.methodLink "DrawingHouseLaw" (120 : Nat) ({ cls := "DrawingHouseModel", name := "text", desc := "(II)I" } : MethodName) : Cond) ∈ lw_g := lw_gi (lw_c17 (List.mem_of_getElem? (i := 58) rfl)) rfl
theorem wm_3899 : (Cond.instanceMethod ({ cls := "DrawingHouseModel", name := "text", desc := "(II)I" } : MethodName) : Cond) ∈ lw_g := lw_gi (lw_c17 (List.mem_of_getElem? (i := 59) rfl)) rfl
theorem wm_3900 : (Cond.selects "DrawingHouseModel" ({ cls := "DrawingHouseModel", name := "text", desc := "(II)I" } : MethodName) ({ cls := "DrawingHouseModel", name := "text", desc := "(II)I" } : MethodName) : Cond) ∈ lw_g := lw_gi (lw_c17 (List.mem_of_getElem? (i := 60) rfl)) rfl
theorem wm_3945 : (Cond.methodLink "DrawingHouseLaw" (124 : Nat) ({ cls := "DrawingHouseModel", name := "octet", desc := "(I)I" } : MethodName) : Cond) ∈ lw_g := lw_gi (lw_c17 (List.mem_of_getElem? (i := 105) rfl)) rfl
theorem wm_3946 : (Cond.instanceMethod ({ cls := "DrawingHouseModel", name := "octet", desc := "(I)I" } : MethodName) : Cond) ∈ lw_g := lw_gi (lw_c17 (List.mem_of_getElem? (i := 106) rfl)) rfl
theorem wm_3947 : (Cond.selects "DrawingHouseModel" ({ cls := "DrawingHouseModel", name := "octet", desc := "(I)I" } : MethodName) ({ cls := "DrawingHouseModel", name := "octet", desc := "(I)I" } : MethodName) : Cond) ∈ lw_g := lw_gi (lw_c17 (List.mem_of_getElem? (i := 107) rfl)) rfl
theorem wm_3949 : (Cond.methodLink "DrawingHouseLaw" (128 : Nat) ({ cls := "DrawingHouseModel", name := "dots", desc := "(III)I" } : MethodName) : Cond) ∈ lw_g := lw_gi (lw_c17 (List.mem_of_getElem? (i := 109) rfl)) rfl
theorem wm_3950 : (Cond.instanceMethod ({ cls := "DrawingHouseModel", name := "dots", desc := "(III)I" } : MethodName) : Cond) ∈ lw_g := lw_gi (lw_c17 (List.mem_of_getElem? (i := 110) rfl)) rfl
theorem wm_3951 : (Cond.selects "DrawingHouseModel" ({ cls := "DrawingHouseModel", name := "dots", desc := "(III)I" } : MethodName) ({ cls := "DrawingHouseModel", name := "dots", desc := "(III)I" } : MethodName) : Cond) ∈ lw_g := lw_gi (lw_c17 (List.mem_of_getElem? (i := 111) rfl)) rfl
theorem wm_3965 : (Cond.methodLink "DrawingHouseLaw" (132 : Nat) ({ cls := "DrawingHouseModel", name := "dot", desc := "(II)I" } : MethodName) : Cond) ∈ lw_g := lw_gi (lw_c17 (List.mem_of_getElem? (i := 125) rfl)) rfl
theorem wm_3966 : (Cond.instanceMethod ({ cls := "DrawingHouseModel", name := "dot", desc := "(II)I" } : MethodName) : Cond) ∈ lw_g := lw_gi (lw_c17 (List.mem_of_getElem? (i := 126) rfl)) rfl
theorem wm_3967 : (Cond.selects "DrawingHouseModel" ({ cls := "DrawingHouseModel", name := "dot", desc := "(II)I" } : MethodName) ({ cls := "DrawingHouseModel", name := "dot", desc := "(II)I" } : MethodName) : Cond) ∈ lw_g := lw_gi (lw_c17 (List.mem_of_getElem? (i := 127) rfl)) rfl
end
section
/-! THE CLAIM OUT OF ONE WALK OF THE LAW'S BODY. Your part is whole_start (and what it stands on); all else here is the same for every law, but numbers. -/
def R_law : String := "DrawingHouseLaw"
def lw_P (b : Addr) (xs : List Int32) (args : Array Value) (s : State) : Prop := args = #[.ref b] ∧ s.IntsAt b xs ∧ xs.length ≤ 3072 ∧ ((Jvm.Cond.and given_1 narrow_1).before args s = true ∧ heapFits s = true)
def lw_Q (_ : Array Value) (s : State) (o : Outcome) (t : State) : Prop := o = .returned (some (.int 1)) ∧ Framed s o t [] 60000 8922250
def lw_Z (below : List Frame) (a : Array Value) (s : State) : State → Prop := fun t => ∃ o, t.status = .running ∧ Ended t below o ∧ lw_Q a s o t
/-- the law's own end, with 1 on the stack, nothing written that was there before, its room as the claim has it -/
theorem lw_ret {p : Program} {l : Launch} {e : Env} {s : State} {m : MethodId} {below : List Frame} {meth : Method} {c : Code} {b : Nat} (hx : p.tables.exec = Jvm.exec) (hb : c.code = code) (hr : meth.sig.returnType = ret) (hlocks : meth.locks = false) {pc : Nat} {H : Heap} {ls : Array Slot} (hdg : decode code pc = .ok (.ireturn, 1)) : W p l e room_1 s m #[Value.ref b] below meth c H [] 60000 8922250 (lw_Z below #[Value.ref b] s) (F0 m pc ls [.int 1]) := by
  intro T hT X
  obtain ⟨fs, hret, hrun, hended, hW, hframe⟩ := X.leave (v := some (.int 1)) (hlocks := hlocks) (fun h => by rw [hr] at h; cases h)
  have hmeth_zq : T.vm.method? m = some meth := X.method'
  refine ⟨T.setFrames fs, ?_, .returned (some (.int 1)), hrun, hended, rfl, ⟨_, rfl⟩, hW, hframe⟩
  jvm_step X.here [X.here.top, hx, hb, hdg, hmeth_zq, hr, ret, narrow_b1]
  (try refine ⟨rfl, ?_⟩); (try refine ⟨rfl, ?_⟩)
  first | (intro acts; rw [hret _ acts rfl rfl rfl]) | rw [hret _ _ rfl rfl rfl]
  exact Steps.refl _
/-- what holds at the law's entry: the machine, the code, the tables_zq words (any of lw_tbl by 'hts w (by decide +kernel)'), the script of L ints xs at the cell b, what the Statement gives of the start (any of its parts by flat_of_before) -/
def lw_At (p : Program) (s : State) (m : MethodId) (meth : Method) (c : Code) (b L : Nat) (xs : Nat → Int32) : Prop :=
  p.tables.exec = Jvm.exec ∧ c.code = code ∧ meth.sig.returnType = ret ∧ c.maxLocals = 4 ∧ s.vm.findClass R_law = some m.cls ∧ (∀ w ∈ lw_tbl, w.before #[Value.ref b] s = true) ∧ va_X b L xs s s.heap ∧ b < s.heap.size ∧ meth.locks = false ∧ ((Jvm.Cond.and given_1 narrow_1).before #[Value.ref b] s = true ∧ heapFits s = true)
abbrev b_law_law : ByteArray := code
theorem d_law_law_18 : decode b_law_law 18 = .ok (.iload_n 3, 1) := by decide +kernel
theorem d_law_law_19 : decode b_law_law 19 = .ok (.aload_n 0, 1) := by decide +kernel
theorem d_law_law_20 : decode b_law_law 20 = .ok (.arraylength, 1) := by decide +kernel
theorem d_law_law_21 : decode b_law_law 21 = .ok (.bipush 6, 2) := by decide +kernel
theorem d_law_law_23 : decode b_law_law 23 = .ok (.isub, 1) := by decide +kernel
theorem d_law_law_24 : decode b_law_law 24 = .ok (.if_icmp .gt 1276, 3) := by decide +kernel
theorem d_law_law_27 : decode b_law_law 27 = .ok (.aload_n 0, 1) := by decide +kernel
theorem d_law_law_28 : decode b_law_law 28 = .ok (.iload_n 3, 1) := by decide +kernel
theorem d_law_law_29 : decode b_law_law 29 = .ok (.iaload, 1) := by decide +kernel
theorem d_law_law_30 : decode b_law_law 30 = .ok (.bipush 31, 2) := by decide +kernel
theorem d_law_law_32 : decode b_law_law 32 = .ok (.iand, 1) := by decide +kernel
theorem d_law_law_33 : decode b_law_law 33 = .ok (.tableswitch 1261 0 27 #[127, 190, 223, 246, 279, 322, 365, 408, 461, 514, 547, 590, 623, 646, 679, 732, 775, 828, 871, 934, 967, 1010, 1043, 1076, 1129, 1162, 1185, 1228], 127) := by decide +kernel
theorem d_law_law_160 : decode b_law_law 160 = .ok (.aload_n 1, 1) := by decide +kernel
theorem d_law_law_161 : decode b_law_law 161 = .ok (.aload_n 0, 1) := by decide +kernel
theorem d_law_law_162 : decode b_law_law 162 = .ok (.iload_n 3, 1) := by decide +kernel
theorem d_law_law_163 : decode b_law_law 163 = .ok (.iconst 1, 1) := by decide +kernel
theorem d_law_law_164 : decode b_law_law 164 = .ok (.iadd, 1) := by decide +kernel
theorem d_law_law_165 : decode b_law_law 165 = .ok (.iaload, 1) := by decide +kernel
theorem d_law_law_166 : decode b_law_law 166 = .ok (.aload_n 0, 1) := by decide +kernel
theorem d_law_law_167 : decode b_law_law 167 = .ok (.iload_n 3, 1) := by decide +kernel
theorem d_law_law_168 : decode b_law_law 168 = .ok (.iconst 2, 1) := by decide +kernel
theorem d_law_law_169 : decode b_law_law 169 = .ok (.iadd, 1) := by decide +kernel
theorem d_law_law_170 : decode b_law_law 170 = .ok (.iaload, 1) := by decide +kernel
theorem d_law_law_171 : decode b_law_law 171 = .ok (.aload_n 0, 1) := by decide +kernel
theorem d_law_law_172 : decode b_law_law 172 = .ok (.iload_n 3, 1) := by decide +kernel
theorem d_law_law_173 : decode b_law_law 173 = .ok (.iconst 3, 1) := by decide +kernel
theorem d_law_law_174 : decode b_law_law 174 = .ok (.iadd, 1) := by decide +kernel
theorem d_law_law_175 : decode b_law_law 175 = .ok (.iaload, 1) := by decide +kernel
theorem d_law_law_176 : decode b_law_law 176 = .ok (.aload_n 0, 1) := by decide +kernel
theorem d_law_law_177 : decode b_law_law 177 = .ok (.iload_n 3, 1) := by decide +kernel
theorem d_law_law_178 : decode b_law_law 178 = .ok (.iconst 4, 1) := by decide +kernel
theorem d_law_law_179 : decode b_law_law 179 = .ok (.iadd, 1) := by decide +kernel
theorem d_law_law_180 : decode b_law_law 180 = .ok (.iaload, 1) := by decide +kernel
theorem d_law_law_181 : decode b_law_law 181 = .ok (.aload_n 0, 1) := by decide +kernel
theorem d_law_law_182 : decode b_law_law 182 = .ok (.iload_n 3, 1) := by decide +kernel
theorem d_law_law_183 : decode b_law_law 183 = .ok (.iconst 5, 1) := by decide +kernel
theorem d_law_law_184 : decode b_law_law 184 = .ok (.iadd, 1) := by decide +kernel
theorem d_law_law_185 : decode b_law_law 185 = .ok (.iaload, 1) := by decide +kernel
theorem d_law_law_186 : decode b_law_law 186 = .ok (.invokevirtual 13, 3) := by decide +kernel
theorem d_law_law_189 : decode b_law_law 189 = .ok (.pop, 1) := by decide +kernel
theorem d_law_law_190 : decode b_law_law 190 = .ok (.aload_n 2, 1) := by decide +kernel
theorem d_law_law_191 : decode b_law_law 191 = .ok (.aload_n 0, 1) := by decide +kernel
theorem d_law_law_192 : decode b_law_law 192 = .ok (.iload_n 3, 1) := by decide +kernel
theorem d_law_law_193 : decode b_law_law 193 = .ok (.iconst 1, 1) := by decide +kernel
theorem d_law_law_194 : decode b_law_law 194 = .ok (.iadd, 1) := by decide +kernel
theorem d_law_law_195 : decode b_law_law 195 = .ok (.iaload, 1) := by decide +kernel
theorem d_law_law_196 : decode b_law_law 196 = .ok (.aload_n 0, 1) := by decide +kernel
theorem d_law_law_197 : decode b_law_law 197 = .ok (.iload_n 3, 1) := by decide +kernel
theorem d_law_law_198 : decode b_law_law 198 = .ok (.iconst 2, 1) := by decide +kernel
theorem d_law_law_199 : decode b_law_law 199 = .ok (.iadd, 1) := by decide +kernel
theorem d_law_law_200 : decode b_law_law 200 = .ok (.iaload, 1) := by decide +kernel
theorem d_law_law_201 : decode b_law_law 201 = .ok (.aload_n 0, 1) := by decide +kernel
theorem d_law_law_202 : decode b_law_law 202 = .ok (.iload_n 3, 1) := by decide +kernel
theorem d_law_law_203 : decode b_law_law 203 = .ok (.iconst 3, 1) := by decide +kernel
theorem d_law_law_204 : decode b_law_law 204 = .ok (.iadd, 1) := by decide +kernel
theorem d_law_law_205 : decode b_law_law 205 = .ok (.iaload, 1) := by decide +kernel
theorem d_law_law_206 : decode b_law_law 206 = .ok (.aload_n 0, 1) := by decide +kernel
theorem d_law_law_207 : decode b_law_law 207 = .ok (.iload_n 3, 1) := by decide +kernel
theorem d_law_law_208 : decode b_law_law 208 = .ok (.iconst 4, 1) := by decide +kernel
theorem d_law_law_209 : decode b_law_law 209 = .ok (.iadd, 1) := by decide +kernel
theorem d_law_law_210 : decode b_law_law 210 = .ok (.iaload, 1) := by decide +kernel
theorem d_law_law_211 : decode b_law_law 211 = .ok (.aload_n 0, 1) := by decide +kernel
theorem d_law_law_212 : decode b_law_law 212 = .ok (.iload_n 3, 1) := by decide +kernel
theorem d_law_law_213 : decode b_law_law 213 = .ok (.iconst 5, 1) := by decide +kernel
theorem d_law_law_214 : decode b_law_law 214 = .ok (.iadd, 1) := by decide +kernel
theorem d_law_law_215 : decode b_law_law 215 = .ok (.iaload, 1) := by decide +kernel
theorem d_law_law_216 : decode b_law_law 216 = .ok (.invokevirtual 17, 3) := by decide +kernel
theorem d_law_law_219 : decode b_law_law 219 = .ok (.pop, 1) := by decide +kernel
theorem d_law_law_220 : decode b_law_law 220 = .ok (.goto 1074, 3) := by decide +kernel
theorem d_law_law_223 : decode b_law_law 223 = .ok (.aload_n 1, 1) := by decide +kernel
theorem d_law_law_224 : decode b_law_law 224 = .ok (.aload_n 0, 1) := by decide +kernel
theorem d_law_law_225 : decode b_law_law 225 = .ok (.iload_n 3, 1) := by decide +kernel
theorem d_law_law_226 : decode b_law_law 226 = .ok (.iconst 1, 1) := by decide +kernel
theorem d_law_law_227 : decode b_law_law 227 = .ok (.iadd, 1) := by decide +kernel
theorem d_law_law_228 : decode b_law_law 228 = .ok (.iaload, 1) := by decide +kernel
theorem d_law_law_229 : decode b_law_law 229 = .ok (.aload_n 0, 1) := by decide +kernel
theorem d_law_law_230 : decode b_law_law 230 = .ok (.iload_n 3, 1) := by decide +kernel
theorem d_law_law_231 : decode b_law_law 231 = .ok (.iconst 2, 1) := by decide +kernel
theorem d_law_law_232 : decode b_law_law 232 = .ok (.iadd, 1) := by decide +kernel
theorem d_law_law_233 : decode b_law_law 233 = .ok (.iaload, 1) := by decide +kernel
theorem d_law_law_234 : decode b_law_law 234 = .ok (.invokevirtual 18, 3) := by decide +kernel
theorem d_law_law_237 : decode b_law_law 237 = .ok (.aload_n 2, 1) := by decide +kernel
theorem d_law_law_238 : decode b_law_law 238 = .ok (.aload_n 0, 1) := by decide +kernel
theorem d_law_law_239 : decode b_law_law 239 = .ok (.iload_n 3, 1) := by decide +kernel
theorem d_law_law_240 : decode b_law_law 240 = .ok (.iconst 1, 1) := by decide +kernel
theorem d_law_law_241 : decode b_law_law 241 = .ok (.iadd, 1) := by decide +kernel
theorem d_law_law_242 : decode b_law_law 242 = .ok (.iaload, 1) := by decide +kernel
theorem d_law_law_243 : decode b_law_law 243 = .ok (.aload_n 0, 1) := by decide +kernel
theorem d_law_law_244 : decode b_law_law 244 = .ok (.iload_n 3, 1) := by decide +kernel
theorem d_law_law_245 : decode b_law_law 245 = .ok (.iconst 2, 1) := by decide +kernel
theorem d_law_law_246 : decode b_law_law 246 = .ok (.iadd, 1) := by decide +kernel
theorem d_law_law_247 : decode b_law_law 247 = .ok (.iaload, 1) := by decide +kernel
theorem d_law_law_248 : decode b_law_law 248 = .ok (.invokevirtual 22, 3) := by decide +kernel
theorem d_law_law_251 : decode b_law_law 251 = .ok (.if_icmp .eq 1043, 3) := by decide +kernel
theorem d_law_law_256 : decode b_law_law 256 = .ok (.aload_n 1, 1) := by decide +kernel
theorem d_law_law_257 : decode b_law_law 257 = .ok (.aload_n 0, 1) := by decide +kernel
theorem d_law_law_258 : decode b_law_law 258 = .ok (.iload_n 3, 1) := by decide +kernel
theorem d_law_law_259 : decode b_law_law 259 = .ok (.iconst 1, 1) := by decide +kernel
theorem d_law_law_260 : decode b_law_law 260 = .ok (.iadd, 1) := by decide +kernel
theorem d_law_law_261 : decode b_law_law 261 = .ok (.iaload, 1) := by decide +kernel
theorem d_law_law_262 : decode b_law_law 262 = .ok (.invokevirtual 23, 3) := by decide +kernel
theorem d_law_law_265 : decode b_law_law 265 = .ok (.pop, 1) := by decide +kernel
theorem d_law_law_266 : decode b_law_law 266 = .ok (.aload_n 2, 1) := by decide +kernel
theorem d_law_law_267 : decode b_law_law 267 = .ok (.aload_n 0, 1) := by decide +kernel
theorem d_law_law_268 : decode b_law_law 268 = .ok (.iload_n 3, 1) := by decide +kernel
theorem d_law_law_269 : decode b_law_law 269 = .ok (.iconst 1, 1) := by decide +kernel
theorem d_law_law_270 : decode b_law_law 270 = .ok (.iadd, 1) := by decide +kernel
theorem d_law_law_271 : decode b_law_law 271 = .ok (.iaload, 1) := by decide +kernel
theorem d_law_law_272 : decode b_law_law 272 = .ok (.invokevirtual 27, 3) := by decide +kernel
theorem d_law_law_275 : decode b_law_law 275 = .ok (.pop, 1) := by decide +kernel
theorem d_law_law_276 : decode b_law_law 276 = .ok (.goto 1018, 3) := by decide +kernel
theorem d_law_law_279 : decode b_law_law 279 = .ok (.aload_n 1, 1) := by decide +kernel
theorem d_law_law_280 : decode b_law_law 280 = .ok (.aload_n 0, 1) := by decide +kernel
theorem d_law_law_281 : decode b_law_law 281 = .ok (.iload_n 3, 1) := by decide +kernel
theorem d_law_law_282 : decode b_law_law 282 = .ok (.iconst 1, 1) := by decide +kernel
theorem d_law_law_283 : decode b_law_law 283 = .ok (.iadd, 1) := by decide +kernel
theorem d_law_law_284 : decode b_law_law 284 = .ok (.iaload, 1) := by decide +kernel
theorem d_law_law_285 : decode b_law_law 285 = .ok (.aload_n 0, 1) := by decide +kernel
theorem d_law_law_286 : decode b_law_law 286 = .ok (.iload_n 3, 1) := by decide +kernel
theorem d_law_law_287 : decode b_law_law 287 = .ok (.iconst 2, 1) := by decide +kernel
theorem d_law_law_288 : decode b_law_law 288 = .ok (.iadd, 1) := by decide +kernel
theorem d_law_law_289 : decode b_law_law 289 = .ok (.iaload, 1) := by decide +kernel
theorem d_law_law_290 : decode b_law_law 290 = .ok (.invokevirtual 28, 3) := by decide +kernel
theorem d_law_law_293 : decode b_law_law 293 = .ok (.pop, 1) := by decide +kernel
theorem d_law_law_294 : decode b_law_law 294 = .ok (.aload_n 2, 1) := by decide +kernel
theorem d_law_law_295 : decode b_law_law 295 = .ok (.aload_n 0, 1) := by decide +kernel
theorem d_law_law_296 : decode b_law_law 296 = .ok (.iload_n 3, 1) := by decide +kernel
theorem d_law_law_297 : decode b_law_law 297 = .ok (.iconst 1, 1) := by decide +kernel
theorem d_law_law_298 : decode b_law_law 298 = .ok (.iadd, 1) := by decide +kernel
theorem d_law_law_299 : decode b_law_law 299 = .ok (.iaload, 1) := by decide +kernel
theorem d_law_law_300 : decode b_law_law 300 = .ok (.aload_n 0, 1) := by decide +kernel
theorem d_law_law_301 : decode b_law_law 301 = .ok (.iload_n 3, 1) := by decide +kernel
theorem d_law_law_302 : decode b_law_law 302 = .ok (.iconst 2, 1) := by decide +kernel
theorem d_law_law_303 : decode b_law_law 303 = .ok (.iadd, 1) := by decide +kernel
theorem d_law_law_304 : decode b_law_law 304 = .ok (.iaload, 1) := by decide +kernel
theorem d_law_law_305 : decode b_law_law 305 = .ok (.invokevirtual 31, 3) := by decide +kernel
theorem d_law_law_308 : decode b_law_law 308 = .ok (.pop, 1) := by decide +kernel
theorem d_law_law_309 : decode b_law_law 309 = .ok (.goto 985, 3) := by decide +kernel
theorem d_law_law_312 : decode b_law_law 312 = .ok (.aload_n 1, 1) := by decide +kernel
theorem d_law_law_313 : decode b_law_law 313 = .ok (.aload_n 0, 1) := by decide +kernel
theorem d_law_law_314 : decode b_law_law 314 = .ok (.iload_n 3, 1) := by decide +kernel
theorem d_law_law_315 : decode b_law_law 315 = .ok (.iconst 1, 1) := by decide +kernel
theorem d_law_law_316 : decode b_law_law 316 = .ok (.iadd, 1) := by decide +kernel
theorem d_law_law_317 : decode b_law_law 317 = .ok (.iaload, 1) := by decide +kernel
theorem d_law_law_318 : decode b_law_law 318 = .ok (.aload_n 0, 1) := by decide +kernel
theorem d_law_law_319 : decode b_law_law 319 = .ok (.iload_n 3, 1) := by decide +kernel
theorem d_law_law_320 : decode b_law_law 320 = .ok (.iconst 2, 1) := by decide +kernel
theorem d_law_law_321 : decode b_law_law 321 = .ok (.iadd, 1) := by decide +kernel
theorem d_law_law_322 : decode b_law_law 322 = .ok (.iaload, 1) := by decide +kernel
theorem d_law_law_323 : decode b_law_law 323 = .ok (.aload_n 0, 1) := by decide +kernel
theorem d_law_law_324 : decode b_law_law 324 = .ok (.iload_n 3, 1) := by decide +kernel
theorem d_law_law_325 : decode b_law_law 325 = .ok (.iconst 3, 1) := by decide +kernel
theorem d_law_law_326 : decode b_law_law 326 = .ok (.iadd, 1) := by decide +kernel
theorem d_law_law_327 : decode b_law_law 327 = .ok (.iaload, 1) := by decide +kernel
theorem d_law_law_328 : decode b_law_law 328 = .ok (.invokevirtual 32, 3) := by decide +kernel
theorem d_law_law_331 : decode b_law_law 331 = .ok (.pop, 1) := by decide +kernel
theorem d_law_law_332 : decode b_law_law 332 = .ok (.aload_n 2, 1) := by decide +kernel
theorem d_law_law_333 : decode b_law_law 333 = .ok (.aload_n 0, 1) := by decide +kernel
theorem d_law_law_334 : decode b_law_law 334 = .ok (.iload_n 3, 1) := by decide +kernel
theorem d_law_law_335 : decode b_law_law 335 = .ok (.iconst 1, 1) := by decide +kernel
theorem d_law_law_336 : decode b_law_law 336 = .ok (.iadd, 1) := by decide +kernel
theorem d_law_law_337 : decode b_law_law 337 = .ok (.iaload, 1) := by decide +kernel
theorem d_law_law_338 : decode b_law_law 338 = .ok (.aload_n 0, 1) := by decide +kernel
theorem d_law_law_339 : decode b_law_law 339 = .ok (.iload_n 3, 1) := by decide +kernel
theorem d_law_law_340 : decode b_law_law 340 = .ok (.iconst 2, 1) := by decide +kernel
theorem d_law_law_341 : decode b_law_law 341 = .ok (.iadd, 1) := by decide +kernel
theorem d_law_law_342 : decode b_law_law 342 = .ok (.iaload, 1) := by decide +kernel
theorem d_law_law_343 : decode b_law_law 343 = .ok (.aload_n 0, 1) := by decide +kernel
theorem d_law_law_344 : decode b_law_law 344 = .ok (.iload_n 3, 1) := by decide +kernel
theorem d_law_law_345 : decode b_law_law 345 = .ok (.iconst 3, 1) := by decide +kernel
theorem d_law_law_346 : decode b_law_law 346 = .ok (.iadd, 1) := by decide +kernel
theorem d_law_law_347 : decode b_law_law 347 = .ok (.iaload, 1) := by decide +kernel
theorem d_law_law_348 : decode b_law_law 348 = .ok (.invokevirtual 36, 3) := by decide +kernel
theorem d_law_law_351 : decode b_law_law 351 = .ok (.pop, 1) := by decide +kernel
theorem d_law_law_352 : decode b_law_law 352 = .ok (.goto 942, 3) := by decide +kernel
theorem d_law_law_355 : decode b_law_law 355 = .ok (.aload_n 1, 1) := by decide +kernel
theorem d_law_law_356 : decode b_law_law 356 = .ok (.aload_n 0, 1) := by decide +kernel
theorem d_law_law_357 : decode b_law_law 357 = .ok (.iload_n 3, 1) := by decide +kernel
theorem d_law_law_358 : decode b_law_law 358 = .ok (.iconst 1, 1) := by decide +kernel
theorem d_law_law_359 : decode b_law_law 359 = .ok (.iadd, 1) := by decide +kernel
theorem d_law_law_360 : decode b_law_law 360 = .ok (.iaload, 1) := by decide +kernel
theorem d_law_law_361 : decode b_law_law 361 = .ok (.aload_n 0, 1) := by decide +kernel
theorem d_law_law_362 : decode b_law_law 362 = .ok (.iload_n 3, 1) := by decide +kernel
theorem d_law_law_363 : decode b_law_law 363 = .ok (.iconst 2, 1) := by decide +kernel
theorem d_law_law_364 : decode b_law_law 364 = .ok (.iadd, 1) := by decide +kernel
theorem d_law_law_365 : decode b_law_law 365 = .ok (.iaload, 1) := by decide +kernel
theorem d_law_law_366 : decode b_law_law 366 = .ok (.aload_n 0, 1) := by decide +kernel
theorem d_law_law_367 : decode b_law_law 367 = .ok (.iload_n 3, 1) := by decide +kernel
theorem d_law_law_368 : decode b_law_law 368 = .ok (.iconst 3, 1) := by decide +kernel
theorem d_law_law_369 : decode b_law_law 369 = .ok (.iadd, 1) := by decide +kernel
theorem d_law_law_370 : decode b_law_law 370 = .ok (.iaload, 1) := by decide +kernel
theorem d_law_law_371 : decode b_law_law 371 = .ok (.invokevirtual 37, 3) := by decide +kernel
theorem d_law_law_374 : decode b_law_law 374 = .ok (.pop, 1) := by decide +kernel
theorem d_law_law_375 : decode b_law_law 375 = .ok (.aload_n 2, 1) := by decide +kernel
theorem d_law_law_376 : decode b_law_law 376 = .ok (.aload_n 0, 1) := by decide +kernel
theorem d_law_law_377 : decode b_law_law 377 = .ok (.iload_n 3, 1) := by decide +kernel
theorem d_law_law_378 : decode b_law_law 378 = .ok (.iconst 1, 1) := by decide +kernel
theorem d_law_law_379 : decode b_law_law 379 = .ok (.iadd, 1) := by decide +kernel
theorem d_law_law_380 : decode b_law_law 380 = .ok (.iaload, 1) := by decide +kernel
theorem d_law_law_381 : decode b_law_law 381 = .ok (.aload_n 0, 1) := by decide +kernel
theorem d_law_law_382 : decode b_law_law 382 = .ok (.iload_n 3, 1) := by decide +kernel
theorem d_law_law_383 : decode b_law_law 383 = .ok (.iconst 2, 1) := by decide +kernel
theorem d_law_law_384 : decode b_law_law 384 = .ok (.iadd, 1) := by decide +kernel
theorem d_law_law_385 : decode b_law_law 385 = .ok (.iaload, 1) := by decide +kernel
theorem d_law_law_386 : decode b_law_law 386 = .ok (.aload_n 0, 1) := by decide +kernel
theorem d_law_law_387 : decode b_law_law 387 = .ok (.iload_n 3, 1) := by decide +kernel
theorem d_law_law_388 : decode b_law_law 388 = .ok (.iconst 3, 1) := by decide +kernel
theorem d_law_law_389 : decode b_law_law 389 = .ok (.iadd, 1) := by decide +kernel
theorem d_law_law_390 : decode b_law_law 390 = .ok (.iaload, 1) := by decide +kernel
theorem d_law_law_391 : decode b_law_law 391 = .ok (.invokevirtual 40, 3) := by decide +kernel
theorem d_law_law_394 : decode b_law_law 394 = .ok (.pop, 1) := by decide +kernel
theorem d_law_law_395 : decode b_law_law 395 = .ok (.goto 899, 3) := by decide +kernel
theorem d_law_law_398 : decode b_law_law 398 = .ok (.aload_n 1, 1) := by decide +kernel
theorem d_law_law_399 : decode b_law_law 399 = .ok (.aload_n 0, 1) := by decide +kernel
theorem d_law_law_400 : decode b_law_law 400 = .ok (.iload_n 3, 1) := by decide +kernel
theorem d_law_law_401 : decode b_law_law 401 = .ok (.iconst 1, 1) := by decide +kernel
theorem d_law_law_402 : decode b_law_law 402 = .ok (.iadd, 1) := by decide +kernel
theorem d_law_law_403 : decode b_law_law 403 = .ok (.iaload, 1) := by decide +kernel
theorem d_law_law_404 : decode b_law_law 404 = .ok (.aload_n 0, 1) := by decide +kernel
theorem d_law_law_405 : decode b_law_law 405 = .ok (.iload_n 3, 1) := by decide +kernel
theorem d_law_law_406 : decode b_law_law 406 = .ok (.iconst 2, 1) := by decide +kernel
theorem d_law_law_407 : decode b_law_law 407 = .ok (.iadd, 1) := by decide +kernel
theorem d_law_law_408 : decode b_law_law 408 = .ok (.iaload, 1) := by decide +kernel
theorem d_law_law_409 : decode b_law_law 409 = .ok (.aload_n 0, 1) := by decide +kernel
theorem d_law_law_410 : decode b_law_law 410 = .ok (.iload_n 3, 1) := by decide +kernel
theorem d_law_law_411 : decode b_law_law 411 = .ok (.iconst 3, 1) := by decide +kernel
theorem d_law_law_412 : decode b_law_law 412 = .ok (.iadd, 1) := by decide +kernel
theorem d_law_law_413 : decode b_law_law 413 = .ok (.iaload, 1) := by decide +kernel
theorem d_law_law_414 : decode b_law_law 414 = .ok (.invokevirtual 41, 3) := by decide +kernel
theorem d_law_law_417 : decode b_law_law 417 = .ok (.pop, 1) := by decide +kernel
theorem d_law_law_418 : decode b_law_law 418 = .ok (.aload_n 2, 1) := by decide +kernel
theorem d_law_law_419 : decode b_law_law 419 = .ok (.aload_n 0, 1) := by decide +kernel
theorem d_law_law_420 : decode b_law_law 420 = .ok (.iload_n 3, 1) := by decide +kernel
theorem d_law_law_421 : decode b_law_law 421 = .ok (.iconst 1, 1) := by decide +kernel
theorem d_law_law_422 : decode b_law_law 422 = .ok (.iadd, 1) := by decide +kernel
theorem d_law_law_423 : decode b_law_law 423 = .ok (.iaload, 1) := by decide +kernel
theorem d_law_law_424 : decode b_law_law 424 = .ok (.aload_n 0, 1) := by decide +kernel
theorem d_law_law_425 : decode b_law_law 425 = .ok (.iload_n 3, 1) := by decide +kernel
theorem d_law_law_426 : decode b_law_law 426 = .ok (.iconst 2, 1) := by decide +kernel
theorem d_law_law_427 : decode b_law_law 427 = .ok (.iadd, 1) := by decide +kernel
theorem d_law_law_428 : decode b_law_law 428 = .ok (.iaload, 1) := by decide +kernel
theorem d_law_law_429 : decode b_law_law 429 = .ok (.aload_n 0, 1) := by decide +kernel
theorem d_law_law_430 : decode b_law_law 430 = .ok (.iload_n 3, 1) := by decide +kernel
theorem d_law_law_431 : decode b_law_law 431 = .ok (.iconst 3, 1) := by decide +kernel
theorem d_law_law_432 : decode b_law_law 432 = .ok (.iadd, 1) := by decide +kernel
theorem d_law_law_433 : decode b_law_law 433 = .ok (.iaload, 1) := by decide +kernel
theorem d_law_law_434 : decode b_law_law 434 = .ok (.invokevirtual 44, 3) := by decide +kernel
theorem d_law_law_437 : decode b_law_law 437 = .ok (.pop, 1) := by decide +kernel
theorem d_law_law_438 : decode b_law_law 438 = .ok (.goto 856, 3) := by decide +kernel
theorem d_law_law_441 : decode b_law_law 441 = .ok (.aload_n 1, 1) := by decide +kernel
theorem d_law_law_442 : decode b_law_law 442 = .ok (.aload_n 0, 1) := by decide +kernel
theorem d_law_law_443 : decode b_law_law 443 = .ok (.iload_n 3, 1) := by decide +kernel
theorem d_law_law_444 : decode b_law_law 444 = .ok (.iconst 1, 1) := by decide +kernel
theorem d_law_law_445 : decode b_law_law 445 = .ok (.iadd, 1) := by decide +kernel
theorem d_law_law_446 : decode b_law_law 446 = .ok (.iaload, 1) := by decide +kernel
theorem d_law_law_447 : decode b_law_law 447 = .ok (.aload_n 0, 1) := by decide +kernel
theorem d_law_law_448 : decode b_law_law 448 = .ok (.iload_n 3, 1) := by decide +kernel
theorem d_law_law_449 : decode b_law_law 449 = .ok (.iconst 2, 1) := by decide +kernel
theorem d_law_law_450 : decode b_law_law 450 = .ok (.iadd, 1) := by decide +kernel
theorem d_law_law_451 : decode b_law_law 451 = .ok (.iaload, 1) := by decide +kernel
theorem d_law_law_452 : decode b_law_law 452 = .ok (.aload_n 0, 1) := by decide +kernel
theorem d_law_law_453 : decode b_law_law 453 = .ok (.iload_n 3, 1) := by decide +kernel
theorem d_law_law_454 : decode b_law_law 454 = .ok (.iconst 3, 1) := by decide +kernel
theorem d_law_law_455 : decode b_law_law 455 = .ok (.iadd, 1) := by decide +kernel
theorem d_law_law_456 : decode b_law_law 456 = .ok (.iaload, 1) := by decide +kernel
theorem d_law_law_457 : decode b_law_law 457 = .ok (.aload_n 0, 1) := by decide +kernel
theorem d_law_law_458 : decode b_law_law 458 = .ok (.iload_n 3, 1) := by decide +kernel
theorem d_law_law_459 : decode b_law_law 459 = .ok (.iconst 4, 1) := by decide +kernel
theorem d_law_law_460 : decode b_law_law 460 = .ok (.iadd, 1) := by decide +kernel
theorem d_law_law_461 : decode b_law_law 461 = .ok (.iaload, 1) := by decide +kernel
theorem d_law_law_462 : decode b_law_law 462 = .ok (.invokevirtual 45, 3) := by decide +kernel
theorem d_law_law_465 : decode b_law_law 465 = .ok (.pop, 1) := by decide +kernel
theorem d_law_law_466 : decode b_law_law 466 = .ok (.aload_n 2, 1) := by decide +kernel
theorem d_law_law_467 : decode b_law_law 467 = .ok (.aload_n 0, 1) := by decide +kernel
theorem d_law_law_468 : decode b_law_law 468 = .ok (.iload_n 3, 1) := by decide +kernel
theorem d_law_law_469 : decode b_law_law 469 = .ok (.iconst 1, 1) := by decide +kernel
theorem d_law_law_470 : decode b_law_law 470 = .ok (.iadd, 1) := by decide +kernel
theorem d_law_law_471 : decode b_law_law 471 = .ok (.iaload, 1) := by decide +kernel
theorem d_law_law_472 : decode b_law_law 472 = .ok (.aload_n 0, 1) := by decide +kernel
theorem d_law_law_473 : decode b_law_law 473 = .ok (.iload_n 3, 1) := by decide +kernel
theorem d_law_law_474 : decode b_law_law 474 = .ok (.iconst 2, 1) := by decide +kernel
theorem d_law_law_475 : decode b_law_law 475 = .ok (.iadd, 1) := by decide +kernel
theorem d_law_law_476 : decode b_law_law 476 = .ok (.iaload, 1) := by decide +kernel
theorem d_law_law_477 : decode b_law_law 477 = .ok (.aload_n 0, 1) := by decide +kernel
theorem d_law_law_478 : decode b_law_law 478 = .ok (.iload_n 3, 1) := by decide +kernel
theorem d_law_law_479 : decode b_law_law 479 = .ok (.iconst 3, 1) := by decide +kernel
theorem d_law_law_480 : decode b_law_law 480 = .ok (.iadd, 1) := by decide +kernel
theorem d_law_law_481 : decode b_law_law 481 = .ok (.iaload, 1) := by decide +kernel
theorem d_law_law_482 : decode b_law_law 482 = .ok (.aload_n 0, 1) := by decide +kernel
theorem d_law_law_483 : decode b_law_law 483 = .ok (.iload_n 3, 1) := by decide +kernel
theorem d_law_law_484 : decode b_law_law 484 = .ok (.iconst 4, 1) := by decide +kernel
theorem d_law_law_485 : decode b_law_law 485 = .ok (.iadd, 1) := by decide +kernel
theorem d_law_law_486 : decode b_law_law 486 = .ok (.iaload, 1) := by decide +kernel
theorem d_law_law_487 : decode b_law_law 487 = .ok (.invokevirtual 49, 3) := by decide +kernel
theorem d_law_law_490 : decode b_law_law 490 = .ok (.pop, 1) := by decide +kernel
theorem d_law_law_491 : decode b_law_law 491 = .ok (.goto 803, 3) := by decide +kernel
theorem d_law_law_494 : decode b_law_law 494 = .ok (.aload_n 1, 1) := by decide +kernel
theorem d_law_law_495 : decode b_law_law 495 = .ok (.aload_n 0, 1) := by decide +kernel
theorem d_law_law_496 : decode b_law_law 496 = .ok (.iload_n 3, 1) := by decide +kernel
theorem d_law_law_497 : decode b_law_law 497 = .ok (.iconst 1, 1) := by decide +kernel
theorem d_law_law_498 : decode b_law_law 498 = .ok (.iadd, 1) := by decide +kernel
theorem d_law_law_499 : decode b_law_law 499 = .ok (.iaload, 1) := by decide +kernel
theorem d_law_law_500 : decode b_law_law 500 = .ok (.aload_n 0, 1) := by decide +kernel
theorem d_law_law_501 : decode b_law_law 501 = .ok (.iload_n 3, 1) := by decide +kernel
theorem d_law_law_502 : decode b_law_law 502 = .ok (.iconst 2, 1) := by decide +kernel
theorem d_law_law_503 : decode b_law_law 503 = .ok (.iadd, 1) := by decide +kernel
theorem d_law_law_504 : decode b_law_law 504 = .ok (.iaload, 1) := by decide +kernel
theorem d_law_law_505 : decode b_law_law 505 = .ok (.aload_n 0, 1) := by decide +kernel
theorem d_law_law_506 : decode b_law_law 506 = .ok (.iload_n 3, 1) := by decide +kernel
theorem d_law_law_507 : decode b_law_law 507 = .ok (.iconst 3, 1) := by decide +kernel
theorem d_law_law_508 : decode b_law_law 508 = .ok (.iadd, 1) := by decide +kernel
theorem d_law_law_509 : decode b_law_law 509 = .ok (.iaload, 1) := by decide +kernel
theorem d_law_law_510 : decode b_law_law 510 = .ok (.aload_n 0, 1) := by decide +kernel
theorem d_law_law_511 : decode b_law_law 511 = .ok (.iload_n 3, 1) := by decide +kernel
theorem d_law_law_512 : decode b_law_law 512 = .ok (.iconst 4, 1) := by decide +kernel
theorem d_law_law_513 : decode b_law_law 513 = .ok (.iadd, 1) := by decide +kernel
theorem d_law_law_514 : decode b_law_law 514 = .ok (.iaload, 1) := by decide +kernel
theorem d_law_law_515 : decode b_law_law 515 = .ok (.invokevirtual 50, 3) := by decide +kernel
theorem d_law_law_518 : decode b_law_law 518 = .ok (.pop, 1) := by decide +kernel
theorem d_law_law_519 : decode b_law_law 519 = .ok (.aload_n 2, 1) := by decide +kernel
theorem d_law_law_520 : decode b_law_law 520 = .ok (.aload_n 0, 1) := by decide +kernel
theorem d_law_law_521 : decode b_law_law 521 = .ok (.iload_n 3, 1) := by decide +kernel
theorem d_law_law_522 : decode b_law_law 522 = .ok (.iconst 1, 1) := by decide +kernel
theorem d_law_law_523 : decode b_law_law 523 = .ok (.iadd, 1) := by decide +kernel
theorem d_law_law_524 : decode b_law_law 524 = .ok (.iaload, 1) := by decide +kernel
theorem d_law_law_525 : decode b_law_law 525 = .ok (.aload_n 0, 1) := by decide +kernel
theorem d_law_law_526 : decode b_law_law 526 = .ok (.iload_n 3, 1) := by decide +kernel
theorem d_law_law_527 : decode b_law_law 527 = .ok (.iconst 2, 1) := by decide +kernel
theorem d_law_law_528 : decode b_law_law 528 = .ok (.iadd, 1) := by decide +kernel
theorem d_law_law_529 : decode b_law_law 529 = .ok (.iaload, 1) := by decide +kernel
theorem d_law_law_530 : decode b_law_law 530 = .ok (.aload_n 0, 1) := by decide +kernel
theorem d_law_law_531 : decode b_law_law 531 = .ok (.iload_n 3, 1) := by decide +kernel
theorem d_law_law_532 : decode b_law_law 532 = .ok (.iconst 3, 1) := by decide +kernel
theorem d_law_law_533 : decode b_law_law 533 = .ok (.iadd, 1) := by decide +kernel
theorem d_law_law_534 : decode b_law_law 534 = .ok (.iaload, 1) := by decide +kernel
theorem d_law_law_535 : decode b_law_law 535 = .ok (.aload_n 0, 1) := by decide +kernel
theorem d_law_law_536 : decode b_law_law 536 = .ok (.iload_n 3, 1) := by decide +kernel
theorem d_law_law_537 : decode b_law_law 537 = .ok (.iconst 4, 1) := by decide +kernel
theorem d_law_law_538 : decode b_law_law 538 = .ok (.iadd, 1) := by decide +kernel
theorem d_law_law_539 : decode b_law_law 539 = .ok (.iaload, 1) := by decide +kernel
theorem d_law_law_540 : decode b_law_law 540 = .ok (.invokevirtual 53, 3) := by decide +kernel
theorem d_law_law_543 : decode b_law_law 543 = .ok (.pop, 1) := by decide +kernel
theorem d_law_law_544 : decode b_law_law 544 = .ok (.goto 750, 3) := by decide +kernel
theorem d_law_law_547 : decode b_law_law 547 = .ok (.aload_n 1, 1) := by decide +kernel
theorem d_law_law_548 : decode b_law_law 548 = .ok (.aload_n 0, 1) := by decide +kernel
theorem d_law_law_549 : decode b_law_law 549 = .ok (.iload_n 3, 1) := by decide +kernel
theorem d_law_law_550 : decode b_law_law 550 = .ok (.iconst 1, 1) := by decide +kernel
theorem d_law_law_551 : decode b_law_law 551 = .ok (.iadd, 1) := by decide +kernel
theorem d_law_law_552 : decode b_law_law 552 = .ok (.iaload, 1) := by decide +kernel
theorem d_law_law_553 : decode b_law_law 553 = .ok (.aload_n 0, 1) := by decide +kernel
theorem d_law_law_554 : decode b_law_law 554 = .ok (.iload_n 3, 1) := by decide +kernel
theorem d_law_law_555 : decode b_law_law 555 = .ok (.iconst 2, 1) := by decide +kernel
theorem d_law_law_556 : decode b_law_law 556 = .ok (.iadd, 1) := by decide +kernel
theorem d_law_law_557 : decode b_law_law 557 = .ok (.iaload, 1) := by decide +kernel
theorem d_law_law_558 : decode b_law_law 558 = .ok (.invokevirtual 54, 3) := by decide +kernel
theorem d_law_law_561 : decode b_law_law 561 = .ok (.pop, 1) := by decide +kernel
theorem d_law_law_562 : decode b_law_law 562 = .ok (.aload_n 2, 1) := by decide +kernel
theorem d_law_law_563 : decode b_law_law 563 = .ok (.aload_n 0, 1) := by decide +kernel
theorem d_law_law_564 : decode b_law_law 564 = .ok (.iload_n 3, 1) := by decide +kernel
theorem d_law_law_565 : decode b_law_law 565 = .ok (.iconst 1, 1) := by decide +kernel
theorem d_law_law_566 : decode b_law_law 566 = .ok (.iadd, 1) := by decide +kernel
theorem d_law_law_567 : decode b_law_law 567 = .ok (.iaload, 1) := by decide +kernel
theorem d_law_law_568 : decode b_law_law 568 = .ok (.aload_n 0, 1) := by decide +kernel
theorem d_law_law_569 : decode b_law_law 569 = .ok (.iload_n 3, 1) := by decide +kernel
theorem d_law_law_570 : decode b_law_law 570 = .ok (.iconst 2, 1) := by decide +kernel
theorem d_law_law_571 : decode b_law_law 571 = .ok (.iadd, 1) := by decide +kernel
theorem d_law_law_572 : decode b_law_law 572 = .ok (.iaload, 1) := by decide +kernel
theorem d_law_law_573 : decode b_law_law 573 = .ok (.invokevirtual 58, 3) := by decide +kernel
theorem d_law_law_576 : decode b_law_law 576 = .ok (.pop, 1) := by decide +kernel
theorem d_law_law_577 : decode b_law_law 577 = .ok (.goto 717, 3) := by decide +kernel
theorem d_law_law_580 : decode b_law_law 580 = .ok (.aload_n 1, 1) := by decide +kernel
theorem d_law_law_581 : decode b_law_law 581 = .ok (.aload_n 0, 1) := by decide +kernel
theorem d_law_law_582 : decode b_law_law 582 = .ok (.iload_n 3, 1) := by decide +kernel
theorem d_law_law_583 : decode b_law_law 583 = .ok (.iconst 1, 1) := by decide +kernel
theorem d_law_law_584 : decode b_law_law 584 = .ok (.iadd, 1) := by decide +kernel
theorem d_law_law_585 : decode b_law_law 585 = .ok (.iaload, 1) := by decide +kernel
theorem d_law_law_586 : decode b_law_law 586 = .ok (.aload_n 0, 1) := by decide +kernel
theorem d_law_law_587 : decode b_law_law 587 = .ok (.iload_n 3, 1) := by decide +kernel
theorem d_law_law_588 : decode b_law_law 588 = .ok (.iconst 2, 1) := by decide +kernel
theorem d_law_law_589 : decode b_law_law 589 = .ok (.iadd, 1) := by decide +kernel
theorem d_law_law_590 : decode b_law_law 590 = .ok (.iaload, 1) := by decide +kernel
theorem d_law_law_591 : decode b_law_law 591 = .ok (.aload_n 0, 1) := by decide +kernel
theorem d_law_law_592 : decode b_law_law 592 = .ok (.iload_n 3, 1) := by decide +kernel
theorem d_law_law_593 : decode b_law_law 593 = .ok (.iconst 3, 1) := by decide +kernel
theorem d_law_law_594 : decode b_law_law 594 = .ok (.iadd, 1) := by decide +kernel
theorem d_law_law_595 : decode b_law_law 595 = .ok (.iaload, 1) := by decide +kernel
theorem d_law_law_596 : decode b_law_law 596 = .ok (.invokevirtual 59, 3) := by decide +kernel
theorem d_law_law_599 : decode b_law_law 599 = .ok (.pop, 1) := by decide +kernel
theorem d_law_law_600 : decode b_law_law 600 = .ok (.aload_n 2, 1) := by decide +kernel
theorem d_law_law_601 : decode b_law_law 601 = .ok (.aload_n 0, 1) := by decide +kernel
theorem d_law_law_602 : decode b_law_law 602 = .ok (.iload_n 3, 1) := by decide +kernel
theorem d_law_law_603 : decode b_law_law 603 = .ok (.iconst 1, 1) := by decide +kernel
theorem d_law_law_604 : decode b_law_law 604 = .ok (.iadd, 1) := by decide +kernel
theorem d_law_law_605 : decode b_law_law 605 = .ok (.iaload, 1) := by decide +kernel
theorem d_law_law_606 : decode b_law_law 606 = .ok (.aload_n 0, 1) := by decide +kernel
theorem d_law_law_607 : decode b_law_law 607 = .ok (.iload_n 3, 1) := by decide +kernel
theorem d_law_law_608 : decode b_law_law 608 = .ok (.iconst 2, 1) := by decide +kernel
theorem d_law_law_609 : decode b_law_law 609 = .ok (.iadd, 1) := by decide +kernel
theorem d_law_law_610 : decode b_law_law 610 = .ok (.iaload, 1) := by decide +kernel
theorem d_law_law_611 : decode b_law_law 611 = .ok (.aload_n 0, 1) := by decide +kernel
theorem d_law_law_612 : decode b_law_law 612 = .ok (.iload_n 3, 1) := by decide +kernel
theorem d_law_law_613 : decode b_law_law 613 = .ok (.iconst 3, 1) := by decide +kernel
theorem d_law_law_614 : decode b_law_law 614 = .ok (.iadd, 1) := by decide +kernel
theorem d_law_law_615 : decode b_law_law 615 = .ok (.iaload, 1) := by decide +kernel
theorem d_law_law_616 : decode b_law_law 616 = .ok (.invokevirtual 62, 3) := by decide +kernel
theorem d_law_law_619 : decode b_law_law 619 = .ok (.pop, 1) := by decide +kernel
theorem d_law_law_620 : decode b_law_law 620 = .ok (.goto 674, 3) := by decide +kernel
theorem d_law_law_623 : decode b_law_law 623 = .ok (.aload_n 1, 1) := by decide +kernel
theorem d_law_law_624 : decode b_law_law 624 = .ok (.aload_n 0, 1) := by decide +kernel
theorem d_law_law_625 : decode b_law_law 625 = .ok (.iload_n 3, 1) := by decide +kernel
theorem d_law_law_626 : decode b_law_law 626 = .ok (.iconst 1, 1) := by decide +kernel
theorem d_law_law_627 : decode b_law_law 627 = .ok (.iadd, 1) := by decide +kernel
theorem d_law_law_628 : decode b_law_law 628 = .ok (.iaload, 1) := by decide +kernel
theorem d_law_law_629 : decode b_law_law 629 = .ok (.aload_n 0, 1) := by decide +kernel
theorem d_law_law_630 : decode b_law_law 630 = .ok (.iload_n 3, 1) := by decide +kernel
theorem d_law_law_631 : decode b_law_law 631 = .ok (.iconst 2, 1) := by decide +kernel
theorem d_law_law_632 : decode b_law_law 632 = .ok (.iadd, 1) := by decide +kernel
theorem d_law_law_633 : decode b_law_law 633 = .ok (.iaload, 1) := by decide +kernel
theorem d_law_law_634 : decode b_law_law 634 = .ok (.invokevirtual 63, 3) := by decide +kernel
theorem d_law_law_637 : decode b_law_law 637 = .ok (.pop, 1) := by decide +kernel
theorem d_law_law_638 : decode b_law_law 638 = .ok (.aload_n 2, 1) := by decide +kernel
theorem d_law_law_639 : decode b_law_law 639 = .ok (.aload_n 0, 1) := by decide +kernel
theorem d_law_law_640 : decode b_law_law 640 = .ok (.iload_n 3, 1) := by decide +kernel
theorem d_law_law_641 : decode b_law_law 641 = .ok (.iconst 1, 1) := by decide +kernel
theorem d_law_law_642 : decode b_law_law 642 = .ok (.iadd, 1) := by decide +kernel
theorem d_law_law_643 : decode b_law_law 643 = .ok (.iaload, 1) := by decide +kernel
theorem d_law_law_644 : decode b_law_law 644 = .ok (.aload_n 0, 1) := by decide +kernel
theorem d_law_law_645 : decode b_law_law 645 = .ok (.iload_n 3, 1) := by decide +kernel
theorem d_law_law_646 : decode b_law_law 646 = .ok (.iconst 2, 1) := by decide +kernel
theorem d_law_law_647 : decode b_law_law 647 = .ok (.iadd, 1) := by decide +kernel
theorem d_law_law_648 : decode b_law_law 648 = .ok (.iaload, 1) := by decide +kernel
theorem d_law_law_649 : decode b_law_law 649 = .ok (.invokevirtual 66, 3) := by decide +kernel
theorem d_law_law_652 : decode b_law_law 652 = .ok (.pop, 1) := by decide +kernel
theorem d_law_law_653 : decode b_law_law 653 = .ok (.goto 641, 3) := by decide +kernel
theorem d_law_law_656 : decode b_law_law 656 = .ok (.aload_n 1, 1) := by decide +kernel
theorem d_law_law_657 : decode b_law_law 657 = .ok (.aload_n 0, 1) := by decide +kernel
theorem d_law_law_658 : decode b_law_law 658 = .ok (.iload_n 3, 1) := by decide +kernel
theorem d_law_law_659 : decode b_law_law 659 = .ok (.iconst 1, 1) := by decide +kernel
theorem d_law_law_660 : decode b_law_law 660 = .ok (.iadd, 1) := by decide +kernel
theorem d_law_law_661 : decode b_law_law 661 = .ok (.iaload, 1) := by decide +kernel
theorem d_law_law_662 : decode b_law_law 662 = .ok (.invokevirtual 67, 3) := by decide +kernel
theorem d_law_law_665 : decode b_law_law 665 = .ok (.pop, 1) := by decide +kernel
theorem d_law_law_666 : decode b_law_law 666 = .ok (.aload_n 2, 1) := by decide +kernel
theorem d_law_law_667 : decode b_law_law 667 = .ok (.aload_n 0, 1) := by decide +kernel
theorem d_law_law_668 : decode b_law_law 668 = .ok (.iload_n 3, 1) := by decide +kernel
theorem d_law_law_669 : decode b_law_law 669 = .ok (.iconst 1, 1) := by decide +kernel
theorem d_law_law_670 : decode b_law_law 670 = .ok (.iadd, 1) := by decide +kernel
theorem d_law_law_671 : decode b_law_law 671 = .ok (.iaload, 1) := by decide +kernel
theorem d_law_law_672 : decode b_law_law 672 = .ok (.invokevirtual 70, 3) := by decide +kernel
theorem d_law_law_675 : decode b_law_law 675 = .ok (.pop, 1) := by decide +kernel
theorem d_law_law_676 : decode b_law_law 676 = .ok (.goto 618, 3) := by decide +kernel
theorem d_law_law_679 : decode b_law_law 679 = .ok (.aload_n 1, 1) := by decide +kernel
theorem d_law_law_680 : decode b_law_law 680 = .ok (.aload_n 0, 1) := by decide +kernel
theorem d_law_law_681 : decode b_law_law 681 = .ok (.iload_n 3, 1) := by decide +kernel
theorem d_law_law_682 : decode b_law_law 682 = .ok (.iconst 1, 1) := by decide +kernel
theorem d_law_law_683 : decode b_law_law 683 = .ok (.iadd, 1) := by decide +kernel
theorem d_law_law_684 : decode b_law_law 684 = .ok (.iaload, 1) := by decide +kernel
theorem d_law_law_685 : decode b_law_law 685 = .ok (.aload_n 0, 1) := by decide +kernel
theorem d_law_law_686 : decode b_law_law 686 = .ok (.iload_n 3, 1) := by decide +kernel
theorem d_law_law_687 : decode b_law_law 687 = .ok (.iconst 2, 1) := by decide +kernel
theorem d_law_law_688 : decode b_law_law 688 = .ok (.iadd, 1) := by decide +kernel
theorem d_law_law_689 : decode b_law_law 689 = .ok (.iaload, 1) := by decide +kernel
theorem d_law_law_690 : decode b_law_law 690 = .ok (.invokevirtual 71, 3) := by decide +kernel
theorem d_law_law_693 : decode b_law_law 693 = .ok (.pop, 1) := by decide +kernel
theorem d_law_law_694 : decode b_law_law 694 = .ok (.aload_n 2, 1) := by decide +kernel
theorem d_law_law_695 : decode b_law_law 695 = .ok (.aload_n 0, 1) := by decide +kernel
theorem d_law_law_696 : decode b_law_law 696 = .ok (.iload_n 3, 1) := by decide +kernel
theorem d_law_law_697 : decode b_law_law 697 = .ok (.iconst 1, 1) := by decide +kernel
theorem d_law_law_698 : decode b_law_law 698 = .ok (.iadd, 1) := by decide +kernel
theorem d_law_law_699 : decode b_law_law 699 = .ok (.iaload, 1) := by decide +kernel
theorem d_law_law_700 : decode b_law_law 700 = .ok (.aload_n 0, 1) := by decide +kernel
theorem d_law_law_701 : decode b_law_law 701 = .ok (.iload_n 3, 1) := by decide +kernel
theorem d_law_law_702 : decode b_law_law 702 = .ok (.iconst 2, 1) := by decide +kernel
theorem d_law_law_703 : decode b_law_law 703 = .ok (.iadd, 1) := by decide +kernel
theorem d_law_law_704 : decode b_law_law 704 = .ok (.iaload, 1) := by decide +kernel
theorem d_law_law_705 : decode b_law_law 705 = .ok (.invokevirtual 74, 3) := by decide +kernel
theorem d_law_law_708 : decode b_law_law 708 = .ok (.pop, 1) := by decide +kernel
theorem d_law_law_709 : decode b_law_law 709 = .ok (.goto 585, 3) := by decide +kernel
theorem d_law_law_712 : decode b_law_law 712 = .ok (.aload_n 1, 1) := by decide +kernel
theorem d_law_law_713 : decode b_law_law 713 = .ok (.aload_n 0, 1) := by decide +kernel
theorem d_law_law_714 : decode b_law_law 714 = .ok (.iload_n 3, 1) := by decide +kernel
theorem d_law_law_715 : decode b_law_law 715 = .ok (.iconst 1, 1) := by decide +kernel
theorem d_law_law_716 : decode b_law_law 716 = .ok (.iadd, 1) := by decide +kernel
theorem d_law_law_717 : decode b_law_law 717 = .ok (.iaload, 1) := by decide +kernel
theorem d_law_law_718 : decode b_law_law 718 = .ok (.aload_n 0, 1) := by decide +kernel
theorem d_law_law_719 : decode b_law_law 719 = .ok (.iload_n 3, 1) := by decide +kernel
theorem d_law_law_720 : decode b_law_law 720 = .ok (.iconst 2, 1) := by decide +kernel
theorem d_law_law_721 : decode b_law_law 721 = .ok (.iadd, 1) := by decide +kernel
theorem d_law_law_722 : decode b_law_law 722 = .ok (.iaload, 1) := by decide +kernel
theorem d_law_law_723 : decode b_law_law 723 = .ok (.aload_n 0, 1) := by decide +kernel
theorem d_law_law_724 : decode b_law_law 724 = .ok (.iload_n 3, 1) := by decide +kernel
theorem d_law_law_725 : decode b_law_law 725 = .ok (.iconst 3, 1) := by decide +kernel
theorem d_law_law_726 : decode b_law_law 726 = .ok (.iadd, 1) := by decide +kernel
theorem d_law_law_727 : decode b_law_law 727 = .ok (.iaload, 1) := by decide +kernel
theorem d_law_law_728 : decode b_law_law 728 = .ok (.aload_n 0, 1) := by decide +kernel
theorem d_law_law_729 : decode b_law_law 729 = .ok (.iload_n 3, 1) := by decide +kernel
theorem d_law_law_730 : decode b_law_law 730 = .ok (.iconst 4, 1) := by decide +kernel
theorem d_law_law_731 : decode b_law_law 731 = .ok (.iadd, 1) := by decide +kernel
theorem d_law_law_732 : decode b_law_law 732 = .ok (.iaload, 1) := by decide +kernel
theorem d_law_law_733 : decode b_law_law 733 = .ok (.invokevirtual 75, 3) := by decide +kernel
theorem d_law_law_736 : decode b_law_law 736 = .ok (.pop, 1) := by decide +kernel
theorem d_law_law_737 : decode b_law_law 737 = .ok (.aload_n 2, 1) := by decide +kernel
theorem d_law_law_738 : decode b_law_law 738 = .ok (.aload_n 0, 1) := by decide +kernel
theorem d_law_law_739 : decode b_law_law 739 = .ok (.iload_n 3, 1) := by decide +kernel
theorem d_law_law_740 : decode b_law_law 740 = .ok (.iconst 1, 1) := by decide +kernel
theorem d_law_law_741 : decode b_law_law 741 = .ok (.iadd, 1) := by decide +kernel
theorem d_law_law_742 : decode b_law_law 742 = .ok (.iaload, 1) := by decide +kernel
theorem d_law_law_743 : decode b_law_law 743 = .ok (.aload_n 0, 1) := by decide +kernel
theorem d_law_law_744 : decode b_law_law 744 = .ok (.iload_n 3, 1) := by decide +kernel
theorem d_law_law_745 : decode b_law_law 745 = .ok (.iconst 2, 1) := by decide +kernel
theorem d_law_law_746 : decode b_law_law 746 = .ok (.iadd, 1) := by decide +kernel
theorem d_law_law_747 : decode b_law_law 747 = .ok (.iaload, 1) := by decide +kernel
theorem d_law_law_748 : decode b_law_law 748 = .ok (.aload_n 0, 1) := by decide +kernel
theorem d_law_law_749 : decode b_law_law 749 = .ok (.iload_n 3, 1) := by decide +kernel
theorem d_law_law_750 : decode b_law_law 750 = .ok (.iconst 3, 1) := by decide +kernel
theorem d_law_law_751 : decode b_law_law 751 = .ok (.iadd, 1) := by decide +kernel
theorem d_law_law_752 : decode b_law_law 752 = .ok (.iaload, 1) := by decide +kernel
theorem d_law_law_753 : decode b_law_law 753 = .ok (.aload_n 0, 1) := by decide +kernel
theorem d_law_law_754 : decode b_law_law 754 = .ok (.iload_n 3, 1) := by decide +kernel
theorem d_law_law_755 : decode b_law_law 755 = .ok (.iconst 4, 1) := by decide +kernel
theorem d_law_law_756 : decode b_law_law 756 = .ok (.iadd, 1) := by decide +kernel
theorem d_law_law_757 : decode b_law_law 757 = .ok (.iaload, 1) := by decide +kernel
theorem d_law_law_758 : decode b_law_law 758 = .ok (.invokevirtual 78, 3) := by decide +kernel
theorem d_law_law_761 : decode b_law_law 761 = .ok (.pop, 1) := by decide +kernel
theorem d_law_law_762 : decode b_law_law 762 = .ok (.goto 532, 3) := by decide +kernel
theorem d_law_law_765 : decode b_law_law 765 = .ok (.aload_n 1, 1) := by decide +kernel
theorem d_law_law_766 : decode b_law_law 766 = .ok (.aload_n 0, 1) := by decide +kernel
theorem d_law_law_767 : decode b_law_law 767 = .ok (.iload_n 3, 1) := by decide +kernel
theorem d_law_law_768 : decode b_law_law 768 = .ok (.iconst 1, 1) := by decide +kernel
theorem d_law_law_769 : decode b_law_law 769 = .ok (.iadd, 1) := by decide +kernel
theorem d_law_law_770 : decode b_law_law 770 = .ok (.iaload, 1) := by decide +kernel
theorem d_law_law_771 : decode b_law_law 771 = .ok (.aload_n 0, 1) := by decide +kernel
theorem d_law_law_772 : decode b_law_law 772 = .ok (.iload_n 3, 1) := by decide +kernel
theorem d_law_law_773 : decode b_law_law 773 = .ok (.iconst 2, 1) := by decide +kernel
theorem d_law_law_774 : decode b_law_law 774 = .ok (.iadd, 1) := by decide +kernel
theorem d_law_law_775 : decode b_law_law 775 = .ok (.iaload, 1) := by decide +kernel
theorem d_law_law_776 : decode b_law_law 776 = .ok (.aload_n 0, 1) := by decide +kernel
theorem d_law_law_777 : decode b_law_law 777 = .ok (.iload_n 3, 1) := by decide +kernel
theorem d_law_law_778 : decode b_law_law 778 = .ok (.iconst 3, 1) := by decide +kernel
theorem d_law_law_779 : decode b_law_law 779 = .ok (.iadd, 1) := by decide +kernel
theorem d_law_law_780 : decode b_law_law 780 = .ok (.iaload, 1) := by decide +kernel
theorem d_law_law_781 : decode b_law_law 781 = .ok (.invokevirtual 79, 3) := by decide +kernel
theorem d_law_law_784 : decode b_law_law 784 = .ok (.pop, 1) := by decide +kernel
theorem d_law_law_785 : decode b_law_law 785 = .ok (.aload_n 2, 1) := by decide +kernel
theorem d_law_law_786 : decode b_law_law 786 = .ok (.aload_n 0, 1) := by decide +kernel
theorem d_law_law_787 : decode b_law_law 787 = .ok (.iload_n 3, 1) := by decide +kernel
theorem d_law_law_788 : decode b_law_law 788 = .ok (.iconst 1, 1) := by decide +kernel
theorem d_law_law_789 : decode b_law_law 789 = .ok (.iadd, 1) := by decide +kernel
theorem d_law_law_790 : decode b_law_law 790 = .ok (.iaload, 1) := by decide +kernel
theorem d_law_law_791 : decode b_law_law 791 = .ok (.aload_n 0, 1) := by decide +kernel
theorem d_law_law_792 : decode b_law_law 792 = .ok (.iload_n 3, 1) := by decide +kernel
theorem d_law_law_793 : decode b_law_law 793 = .ok (.iconst 2, 1) := by decide +kernel
theorem d_law_law_794 : decode b_law_law 794 = .ok (.iadd, 1) := by decide +kernel
theorem d_law_law_795 : decode b_law_law 795 = .ok (.iaload, 1) := by decide +kernel
theorem d_law_law_796 : decode b_law_law 796 = .ok (.aload_n 0, 1) := by decide +kernel
theorem d_law_law_797 : decode b_law_law 797 = .ok (.iload_n 3, 1) := by decide +kernel
theorem d_law_law_798 : decode b_law_law 798 = .ok (.iconst 3, 1) := by decide +kernel
theorem d_law_law_799 : decode b_law_law 799 = .ok (.iadd, 1) := by decide +kernel
theorem d_law_law_800 : decode b_law_law 800 = .ok (.iaload, 1) := by decide +kernel
theorem d_law_law_801 : decode b_law_law 801 = .ok (.invokevirtual 82, 3) := by decide +kernel
theorem d_law_law_804 : decode b_law_law 804 = .ok (.pop, 1) := by decide +kernel
theorem d_law_law_805 : decode b_law_law 805 = .ok (.goto 489, 3) := by decide +kernel
theorem d_law_law_808 : decode b_law_law 808 = .ok (.aload_n 1, 1) := by decide +kernel
theorem d_law_law_809 : decode b_law_law 809 = .ok (.aload_n 0, 1) := by decide +kernel
theorem d_law_law_810 : decode b_law_law 810 = .ok (.iload_n 3, 1) := by decide +kernel
theorem d_law_law_811 : decode b_law_law 811 = .ok (.iconst 1, 1) := by decide +kernel
theorem d_law_law_812 : decode b_law_law 812 = .ok (.iadd, 1) := by decide +kernel
theorem d_law_law_813 : decode b_law_law 813 = .ok (.iaload, 1) := by decide +kernel
theorem d_law_law_814 : decode b_law_law 814 = .ok (.aload_n 0, 1) := by decide +kernel
theorem d_law_law_815 : decode b_law_law 815 = .ok (.iload_n 3, 1) := by decide +kernel
theorem d_law_law_816 : decode b_law_law 816 = .ok (.iconst 2, 1) := by decide +kernel
theorem d_law_law_817 : decode b_law_law 817 = .ok (.iadd, 1) := by decide +kernel
theorem d_law_law_818 : decode b_law_law 818 = .ok (.iaload, 1) := by decide +kernel
theorem d_law_law_819 : decode b_law_law 819 = .ok (.aload_n 0, 1) := by decide +kernel
theorem d_law_law_820 : decode b_law_law 820 = .ok (.iload_n 3, 1) := by decide +kernel
theorem d_law_law_821 : decode b_law_law 821 = .ok (.iconst 3, 1) := by decide +kernel
theorem d_law_law_822 : decode b_law_law 822 = .ok (.iadd, 1) := by decide +kernel
theorem d_law_law_823 : decode b_law_law 823 = .ok (.iaload, 1) := by decide +kernel
theorem d_law_law_824 : decode b_law_law 824 = .ok (.aload_n 0, 1) := by decide +kernel
theorem d_law_law_825 : decode b_law_law 825 = .ok (.iload_n 3, 1) := by decide +kernel
theorem d_law_law_826 : decode b_law_law 826 = .ok (.iconst 4, 1) := by decide +kernel
theorem d_law_law_827 : decode b_law_law 827 = .ok (.iadd, 1) := by decide +kernel
theorem d_law_law_828 : decode b_law_law 828 = .ok (.iaload, 1) := by decide +kernel
theorem d_law_law_829 : decode b_law_law 829 = .ok (.invokevirtual 83, 3) := by decide +kernel
theorem d_law_law_832 : decode b_law_law 832 = .ok (.pop, 1) := by decide +kernel
theorem d_law_law_833 : decode b_law_law 833 = .ok (.aload_n 2, 1) := by decide +kernel
theorem d_law_law_834 : decode b_law_law 834 = .ok (.aload_n 0, 1) := by decide +kernel
theorem d_law_law_835 : decode b_law_law 835 = .ok (.iload_n 3, 1) := by decide +kernel
theorem d_law_law_836 : decode b_law_law 836 = .ok (.iconst 1, 1) := by decide +kernel
theorem d_law_law_837 : decode b_law_law 837 = .ok (.iadd, 1) := by decide +kernel
theorem d_law_law_838 : decode b_law_law 838 = .ok (.iaload, 1) := by decide +kernel
theorem d_law_law_839 : decode b_law_law 839 = .ok (.aload_n 0, 1) := by decide +kernel
theorem d_law_law_840 : decode b_law_law 840 = .ok (.iload_n 3, 1) := by decide +kernel
theorem d_law_law_841 : decode b_law_law 841 = .ok (.iconst 2, 1) := by decide +kernel
theorem d_law_law_842 : decode b_law_law 842 = .ok (.iadd, 1) := by decide +kernel
theorem d_law_law_843 : decode b_law_law 843 = .ok (.iaload, 1) := by decide +kernel
theorem d_law_law_844 : decode b_law_law 844 = .ok (.aload_n 0, 1) := by decide +kernel
theorem d_law_law_845 : decode b_law_law 845 = .ok (.iload_n 3, 1) := by decide +kernel
theorem d_law_law_846 : decode b_law_law 846 = .ok (.iconst 3, 1) := by decide +kernel
theorem d_law_law_847 : decode b_law_law 847 = .ok (.iadd, 1) := by decide +kernel
theorem d_law_law_848 : decode b_law_law 848 = .ok (.iaload, 1) := by decide +kernel
theorem d_law_law_849 : decode b_law_law 849 = .ok (.aload_n 0, 1) := by decide +kernel
theorem d_law_law_850 : decode b_law_law 850 = .ok (.iload_n 3, 1) := by decide +kernel
theorem d_law_law_851 : decode b_law_law 851 = .ok (.iconst 4, 1) := by decide +kernel
theorem d_law_law_852 : decode b_law_law 852 = .ok (.iadd, 1) := by decide +kernel
theorem d_law_law_853 : decode b_law_law 853 = .ok (.iaload, 1) := by decide +kernel
theorem d_law_law_854 : decode b_law_law 854 = .ok (.invokevirtual 86, 3) := by decide +kernel
theorem d_law_law_857 : decode b_law_law 857 = .ok (.pop, 1) := by decide +kernel
theorem d_law_law_858 : decode b_law_law 858 = .ok (.goto 436, 3) := by decide +kernel
theorem d_law_law_861 : decode b_law_law 861 = .ok (.aload_n 1, 1) := by decide +kernel
theorem d_law_law_862 : decode b_law_law 862 = .ok (.aload_n 0, 1) := by decide +kernel
theorem d_law_law_863 : decode b_law_law 863 = .ok (.iload_n 3, 1) := by decide +kernel
theorem d_law_law_864 : decode b_law_law 864 = .ok (.iconst 1, 1) := by decide +kernel
theorem d_law_law_865 : decode b_law_law 865 = .ok (.iadd, 1) := by decide +kernel
theorem d_law_law_866 : decode b_law_law 866 = .ok (.iaload, 1) := by decide +kernel
theorem d_law_law_867 : decode b_law_law 867 = .ok (.aload_n 0, 1) := by decide +kernel
theorem d_law_law_868 : decode b_law_law 868 = .ok (.iload_n 3, 1) := by decide +kernel
theorem d_law_law_869 : decode b_law_law 869 = .ok (.iconst 2, 1) := by decide +kernel
theorem d_law_law_870 : decode b_law_law 870 = .ok (.iadd, 1) := by decide +kernel
theorem d_law_law_871 : decode b_law_law 871 = .ok (.iaload, 1) := by decide +kernel
theorem d_law_law_872 : decode b_law_law 872 = .ok (.aload_n 0, 1) := by decide +kernel
theorem d_law_law_873 : decode b_law_law 873 = .ok (.iload_n 3, 1) := by decide +kernel
theorem d_law_law_874 : decode b_law_law 874 = .ok (.iconst 3, 1) := by decide +kernel
theorem d_law_law_875 : decode b_law_law 875 = .ok (.iadd, 1) := by decide +kernel
theorem d_law_law_876 : decode b_law_law 876 = .ok (.iaload, 1) := by decide +kernel
theorem d_law_law_877 : decode b_law_law 877 = .ok (.invokevirtual 87, 3) := by decide +kernel
theorem d_law_law_880 : decode b_law_law 880 = .ok (.pop, 1) := by decide +kernel
theorem d_law_law_881 : decode b_law_law 881 = .ok (.aload_n 2, 1) := by decide +kernel
theorem d_law_law_882 : decode b_law_law 882 = .ok (.aload_n 0, 1) := by decide +kernel
theorem d_law_law_883 : decode b_law_law 883 = .ok (.iload_n 3, 1) := by decide +kernel
theorem d_law_law_884 : decode b_law_law 884 = .ok (.iconst 1, 1) := by decide +kernel
theorem d_law_law_885 : decode b_law_law 885 = .ok (.iadd, 1) := by decide +kernel
theorem d_law_law_886 : decode b_law_law 886 = .ok (.iaload, 1) := by decide +kernel
theorem d_law_law_887 : decode b_law_law 887 = .ok (.aload_n 0, 1) := by decide +kernel
theorem d_law_law_888 : decode b_law_law 888 = .ok (.iload_n 3, 1) := by decide +kernel
theorem d_law_law_889 : decode b_law_law 889 = .ok (.iconst 2, 1) := by decide +kernel
theorem d_law_law_890 : decode b_law_law 890 = .ok (.iadd, 1) := by decide +kernel
theorem d_law_law_891 : decode b_law_law 891 = .ok (.iaload, 1) := by decide +kernel
theorem d_law_law_892 : decode b_law_law 892 = .ok (.aload_n 0, 1) := by decide +kernel
theorem d_law_law_893 : decode b_law_law 893 = .ok (.iload_n 3, 1) := by decide +kernel
theorem d_law_law_894 : decode b_law_law 894 = .ok (.iconst 3, 1) := by decide +kernel
theorem d_law_law_895 : decode b_law_law 895 = .ok (.iadd, 1) := by decide +kernel
theorem d_law_law_896 : decode b_law_law 896 = .ok (.iaload, 1) := by decide +kernel
theorem d_law_law_897 : decode b_law_law 897 = .ok (.invokevirtual 90, 3) := by decide +kernel
theorem d_law_law_900 : decode b_law_law 900 = .ok (.pop, 1) := by decide +kernel
theorem d_law_law_901 : decode b_law_law 901 = .ok (.goto 393, 3) := by decide +kernel
theorem d_law_law_904 : decode b_law_law 904 = .ok (.aload_n 1, 1) := by decide +kernel
theorem d_law_law_905 : decode b_law_law 905 = .ok (.aload_n 0, 1) := by decide +kernel
theorem d_law_law_906 : decode b_law_law 906 = .ok (.iload_n 3, 1) := by decide +kernel
theorem d_law_law_907 : decode b_law_law 907 = .ok (.iconst 1, 1) := by decide +kernel
theorem d_law_law_908 : decode b_law_law 908 = .ok (.iadd, 1) := by decide +kernel
theorem d_law_law_909 : decode b_law_law 909 = .ok (.iaload, 1) := by decide +kernel
theorem d_law_law_910 : decode b_law_law 910 = .ok (.aload_n 0, 1) := by decide +kernel
theorem d_law_law_911 : decode b_law_law 911 = .ok (.iload_n 3, 1) := by decide +kernel
theorem d_law_law_912 : decode b_law_law 912 = .ok (.iconst 2, 1) := by decide +kernel
theorem d_law_law_913 : decode b_law_law 913 = .ok (.iadd, 1) := by decide +kernel
theorem d_law_law_914 : decode b_law_law 914 = .ok (.iaload, 1) := by decide +kernel
theorem d_law_law_915 : decode b_law_law 915 = .ok (.aload_n 0, 1) := by decide +kernel
theorem d_law_law_916 : decode b_law_law 916 = .ok (.iload_n 3, 1) := by decide +kernel
theorem d_law_law_917 : decode b_law_law 917 = .ok (.iconst 3, 1) := by decide +kernel
theorem d_law_law_918 : decode b_law_law 918 = .ok (.iadd, 1) := by decide +kernel
theorem d_law_law_919 : decode b_law_law 919 = .ok (.iaload, 1) := by decide +kernel
theorem d_law_law_920 : decode b_law_law 920 = .ok (.aload_n 0, 1) := by decide +kernel
theorem d_law_law_921 : decode b_law_law 921 = .ok (.iload_n 3, 1) := by decide +kernel
theorem d_law_law_922 : decode b_law_law 922 = .ok (.iconst 4, 1) := by decide +kernel
theorem d_law_law_923 : decode b_law_law 923 = .ok (.iadd, 1) := by decide +kernel
theorem d_law_law_924 : decode b_law_law 924 = .ok (.iaload, 1) := by decide +kernel
theorem d_law_law_925 : decode b_law_law 925 = .ok (.aload_n 0, 1) := by decide +kernel
theorem d_law_law_926 : decode b_law_law 926 = .ok (.iload_n 3, 1) := by decide +kernel
theorem d_law_law_927 : decode b_law_law 927 = .ok (.iconst 5, 1) := by decide +kernel
theorem d_law_law_928 : decode b_law_law 928 = .ok (.iadd, 1) := by decide +kernel
theorem d_law_law_929 : decode b_law_law 929 = .ok (.iaload, 1) := by decide +kernel
theorem d_law_law_930 : decode b_law_law 930 = .ok (.invokevirtual 91, 3) := by decide +kernel
theorem d_law_law_933 : decode b_law_law 933 = .ok (.pop, 1) := by decide +kernel
theorem d_law_law_934 : decode b_law_law 934 = .ok (.aload_n 2, 1) := by decide +kernel
theorem d_law_law_935 : decode b_law_law 935 = .ok (.aload_n 0, 1) := by decide +kernel
theorem d_law_law_936 : decode b_law_law 936 = .ok (.iload_n 3, 1) := by decide +kernel
theorem d_law_law_937 : decode b_law_law 937 = .ok (.iconst 1, 1) := by decide +kernel
theorem d_law_law_938 : decode b_law_law 938 = .ok (.iadd, 1) := by decide +kernel
theorem d_law_law_939 : decode b_law_law 939 = .ok (.iaload, 1) := by decide +kernel
theorem d_law_law_940 : decode b_law_law 940 = .ok (.aload_n 0, 1) := by decide +kernel
theorem d_law_law_941 : decode b_law_law 941 = .ok (.iload_n 3, 1) := by decide +kernel
theorem d_law_law_942 : decode b_law_law 942 = .ok (.iconst 2, 1) := by decide +kernel
theorem d_law_law_943 : decode b_law_law 943 = .ok (.iadd, 1) := by decide +kernel
theorem d_law_law_944 : decode b_law_law 944 = .ok (.iaload, 1) := by decide +kernel
theorem d_law_law_945 : decode b_law_law 945 = .ok (.aload_n 0, 1) := by decide +kernel
theorem d_law_law_946 : decode b_law_law 946 = .ok (.iload_n 3, 1) := by decide +kernel
theorem d_law_law_947 : decode b_law_law 947 = .ok (.iconst 3, 1) := by decide +kernel
theorem d_law_law_948 : decode b_law_law 948 = .ok (.iadd, 1) := by decide +kernel
theorem d_law_law_949 : decode b_law_law 949 = .ok (.iaload, 1) := by decide +kernel
theorem d_law_law_950 : decode b_law_law 950 = .ok (.aload_n 0, 1) := by decide +kernel
theorem d_law_law_951 : decode b_law_law 951 = .ok (.iload_n 3, 1) := by decide +kernel
theorem d_law_law_952 : decode b_law_law 952 = .ok (.iconst 4, 1) := by decide +kernel
theorem d_law_law_953 : decode b_law_law 953 = .ok (.iadd, 1) := by decide +kernel
theorem d_law_law_954 : decode b_law_law 954 = .ok (.iaload, 1) := by decide +kernel
theorem d_law_law_955 : decode b_law_law 955 = .ok (.aload_n 0, 1) := by decide +kernel
theorem d_law_law_956 : decode b_law_law 956 = .ok (.iload_n 3, 1) := by decide +kernel
theorem d_law_law_957 : decode b_law_law 957 = .ok (.iconst 5, 1) := by decide +kernel
theorem d_law_law_958 : decode b_law_law 958 = .ok (.iadd, 1) := by decide +kernel
theorem d_law_law_959 : decode b_law_law 959 = .ok (.iaload, 1) := by decide +kernel
theorem d_law_law_960 : decode b_law_law 960 = .ok (.invokevirtual 95, 3) := by decide +kernel
theorem d_law_law_963 : decode b_law_law 963 = .ok (.pop, 1) := by decide +kernel
theorem d_law_law_964 : decode b_law_law 964 = .ok (.goto 330, 3) := by decide +kernel
theorem d_law_law_967 : decode b_law_law 967 = .ok (.aload_n 1, 1) := by decide +kernel
theorem d_law_law_968 : decode b_law_law 968 = .ok (.aload_n 0, 1) := by decide +kernel
theorem d_law_law_969 : decode b_law_law 969 = .ok (.iload_n 3, 1) := by decide +kernel
theorem d_law_law_970 : decode b_law_law 970 = .ok (.iconst 1, 1) := by decide +kernel
theorem d_law_law_971 : decode b_law_law 971 = .ok (.iadd, 1) := by decide +kernel
theorem d_law_law_972 : decode b_law_law 972 = .ok (.iaload, 1) := by decide +kernel
theorem d_law_law_973 : decode b_law_law 973 = .ok (.aload_n 0, 1) := by decide +kernel
theorem d_law_law_974 : decode b_law_law 974 = .ok (.iload_n 3, 1) := by decide +kernel
theorem d_law_law_975 : decode b_law_law 975 = .ok (.iconst 2, 1) := by decide +kernel
theorem d_law_law_976 : decode b_law_law 976 = .ok (.iadd, 1) := by decide +kernel
theorem d_law_law_977 : decode b_law_law 977 = .ok (.iaload, 1) := by decide +kernel
theorem d_law_law_978 : decode b_law_law 978 = .ok (.invokevirtual 96, 3) := by decide +kernel
theorem d_law_law_981 : decode b_law_law 981 = .ok (.pop, 1) := by decide +kernel
theorem d_law_law_982 : decode b_law_law 982 = .ok (.aload_n 2, 1) := by decide +kernel
theorem d_law_law_983 : decode b_law_law 983 = .ok (.aload_n 0, 1) := by decide +kernel
theorem d_law_law_984 : decode b_law_law 984 = .ok (.iload_n 3, 1) := by decide +kernel
theorem d_law_law_985 : decode b_law_law 985 = .ok (.iconst 1, 1) := by decide +kernel
theorem d_law_law_986 : decode b_law_law 986 = .ok (.iadd, 1) := by decide +kernel
theorem d_law_law_987 : decode b_law_law 987 = .ok (.iaload, 1) := by decide +kernel
theorem d_law_law_988 : decode b_law_law 988 = .ok (.aload_n 0, 1) := by decide +kernel
theorem d_law_law_989 : decode b_law_law 989 = .ok (.iload_n 3, 1) := by decide +kernel
theorem d_law_law_990 : decode b_law_law 990 = .ok (.iconst 2, 1) := by decide +kernel
theorem d_law_law_991 : decode b_law_law 991 = .ok (.iadd, 1) := by decide +kernel
theorem d_law_law_992 : decode b_law_law 992 = .ok (.iaload, 1) := by decide +kernel
theorem d_law_law_993 : decode b_law_law 993 = .ok (.invokevirtual 99, 3) := by decide +kernel
theorem d_law_law_996 : decode b_law_law 996 = .ok (.pop, 1) := by decide +kernel
theorem d_law_law_997 : decode b_law_law 997 = .ok (.goto 297, 3) := by decide +kernel
theorem d_law_law_1000 : decode b_law_law 1000 = .ok (.aload_n 1, 1) := by decide +kernel
theorem d_law_law_1001 : decode b_law_law 1001 = .ok (.aload_n 0, 1) := by decide +kernel
theorem d_law_law_1002 : decode b_law_law 1002 = .ok (.iload_n 3, 1) := by decide +kernel
theorem d_law_law_1003 : decode b_law_law 1003 = .ok (.iconst 1, 1) := by decide +kernel
theorem d_law_law_1004 : decode b_law_law 1004 = .ok (.iadd, 1) := by decide +kernel
theorem d_law_law_1005 : decode b_law_law 1005 = .ok (.iaload, 1) := by decide +kernel
theorem d_law_law_1006 : decode b_law_law 1006 = .ok (.aload_n 0, 1) := by decide +kernel
theorem d_law_law_1007 : decode b_law_law 1007 = .ok (.iload_n 3, 1) := by decide +kernel
theorem d_law_law_1008 : decode b_law_law 1008 = .ok (.iconst 2, 1) := by decide +kernel
theorem d_law_law_1009 : decode b_law_law 1009 = .ok (.iadd, 1) := by decide +kernel
theorem d_law_law_1010 : decode b_law_law 1010 = .ok (.iaload, 1) := by decide +kernel
theorem d_law_law_1011 : decode b_law_law 1011 = .ok (.aload_n 0, 1) := by decide +kernel
theorem d_law_law_1012 : decode b_law_law 1012 = .ok (.iload_n 3, 1) := by decide +kernel
theorem d_law_law_1013 : decode b_law_law 1013 = .ok (.iconst 3, 1) := by decide +kernel
theorem d_law_law_1014 : decode b_law_law 1014 = .ok (.iadd, 1) := by decide +kernel
theorem d_law_law_1015 : decode b_law_law 1015 = .ok (.iaload, 1) := by decide +kernel
theorem d_law_law_1016 : decode b_law_law 1016 = .ok (.invokevirtual 100, 3) := by decide +kernel
theorem d_law_law_1019 : decode b_law_law 1019 = .ok (.pop, 1) := by decide +kernel
theorem d_law_law_1020 : decode b_law_law 1020 = .ok (.aload_n 2, 1) := by decide +kernel
theorem d_law_law_1021 : decode b_law_law 1021 = .ok (.aload_n 0, 1) := by decide +kernel
theorem d_law_law_1022 : decode b_law_law 1022 = .ok (.iload_n 3, 1) := by decide +kernel
theorem d_law_law_1023 : decode b_law_law 1023 = .ok (.iconst 1, 1) := by decide +kernel
theorem d_law_law_1024 : decode b_law_law 1024 = .ok (.iadd, 1) := by decide +kernel
theorem d_law_law_1025 : decode b_law_law 1025 = .ok (.iaload, 1) := by decide +kernel
theorem d_law_law_1026 : decode b_law_law 1026 = .ok (.aload_n 0, 1) := by decide +kernel
theorem d_law_law_1027 : decode b_law_law 1027 = .ok (.iload_n 3, 1) := by decide +kernel
theorem d_law_law_1028 : decode b_law_law 1028 = .ok (.iconst 2, 1) := by decide +kernel
theorem d_law_law_1029 : decode b_law_law 1029 = .ok (.iadd, 1) := by decide +kernel
theorem d_law_law_1030 : decode b_law_law 1030 = .ok (.iaload, 1) := by decide +kernel
theorem d_law_law_1031 : decode b_law_law 1031 = .ok (.aload_n 0, 1) := by decide +kernel
theorem d_law_law_1032 : decode b_law_law 1032 = .ok (.iload_n 3, 1) := by decide +kernel
theorem d_law_law_1033 : decode b_law_law 1033 = .ok (.iconst 3, 1) := by decide +kernel
theorem d_law_law_1034 : decode b_law_law 1034 = .ok (.iadd, 1) := by decide +kernel
theorem d_law_law_1035 : decode b_law_law 1035 = .ok (.iaload, 1) := by decide +kernel
theorem d_law_law_1036 : decode b_law_law 1036 = .ok (.invokevirtual 103, 3) := by decide +kernel
theorem d_law_law_1039 : decode b_law_law 1039 = .ok (.pop, 1) := by decide +kernel
theorem d_law_law_1040 : decode b_law_law 1040 = .ok (.goto 254, 3) := by decide +kernel
theorem d_law_law_1043 : decode b_law_law 1043 = .ok (.aload_n 1, 1) := by decide +kernel
theorem d_law_law_1044 : decode b_law_law 1044 = .ok (.aload_n 0, 1) := by decide +kernel
theorem d_law_law_1045 : decode b_law_law 1045 = .ok (.iload_n 3, 1) := by decide +kernel
theorem d_law_law_1046 : decode b_law_law 1046 = .ok (.iconst 1, 1) := by decide +kernel
theorem d_law_law_1047 : decode b_law_law 1047 = .ok (.iadd, 1) := by decide +kernel
theorem d_law_law_1048 : decode b_law_law 1048 = .ok (.iaload, 1) := by decide +kernel
theorem d_law_law_1049 : decode b_law_law 1049 = .ok (.aload_n 0, 1) := by decide +kernel
theorem d_law_law_1050 : decode b_law_law 1050 = .ok (.iload_n 3, 1) := by decide +kernel
theorem d_law_law_1051 : decode b_law_law 1051 = .ok (.iconst 2, 1) := by decide +kernel
theorem d_law_law_1052 : decode b_law_law 1052 = .ok (.iadd, 1) := by decide +kernel
theorem d_law_law_1053 : decode b_law_law 1053 = .ok (.iaload, 1) := by decide +kernel
theorem d_law_law_1054 : decode b_law_law 1054 = .ok (.invokevirtual 104, 3) := by decide +kernel
theorem d_law_law_1057 : decode b_law_law 1057 = .ok (.pop2, 1) := by decide +kernel
theorem d_law_law_1058 : decode b_law_law 1058 = .ok (.aload_n 2, 1) := by decide +kernel
theorem d_law_law_1059 : decode b_law_law 1059 = .ok (.aload_n 0, 1) := by decide +kernel
theorem d_law_law_1060 : decode b_law_law 1060 = .ok (.iload_n 3, 1) := by decide +kernel
theorem d_law_law_1061 : decode b_law_law 1061 = .ok (.iconst 1, 1) := by decide +kernel
theorem d_law_law_1062 : decode b_law_law 1062 = .ok (.iadd, 1) := by decide +kernel
theorem d_law_law_1063 : decode b_law_law 1063 = .ok (.iaload, 1) := by decide +kernel
theorem d_law_law_1064 : decode b_law_law 1064 = .ok (.aload_n 0, 1) := by decide +kernel
theorem d_law_law_1065 : decode b_law_law 1065 = .ok (.iload_n 3, 1) := by decide +kernel
theorem d_law_law_1066 : decode b_law_law 1066 = .ok (.iconst 2, 1) := by decide +kernel
theorem d_law_law_1067 : decode b_law_law 1067 = .ok (.iadd, 1) := by decide +kernel
theorem d_law_law_1068 : decode b_law_law 1068 = .ok (.iaload, 1) := by decide +kernel
theorem d_law_law_1069 : decode b_law_law 1069 = .ok (.invokevirtual 108, 3) := by decide +kernel
theorem d_law_law_1072 : decode b_law_law 1072 = .ok (.pop2, 1) := by decide +kernel
theorem d_law_law_1073 : decode b_law_law 1073 = .ok (.goto 221, 3) := by decide +kernel
theorem d_law_law_1076 : decode b_law_law 1076 = .ok (.aload_n 1, 1) := by decide +kernel
theorem d_law_law_1077 : decode b_law_law 1077 = .ok (.aload_n 0, 1) := by decide +kernel
theorem d_law_law_1078 : decode b_law_law 1078 = .ok (.iload_n 3, 1) := by decide +kernel
theorem d_law_law_1079 : decode b_law_law 1079 = .ok (.iconst 1, 1) := by decide +kernel
theorem d_law_law_1080 : decode b_law_law 1080 = .ok (.iadd, 1) := by decide +kernel
theorem d_law_law_1081 : decode b_law_law 1081 = .ok (.iaload, 1) := by decide +kernel
theorem d_law_law_1082 : decode b_law_law 1082 = .ok (.aload_n 0, 1) := by decide +kernel
theorem d_law_law_1083 : decode b_law_law 1083 = .ok (.iload_n 3, 1) := by decide +kernel
theorem d_law_law_1084 : decode b_law_law 1084 = .ok (.iconst 2, 1) := by decide +kernel
theorem d_law_law_1085 : decode b_law_law 1085 = .ok (.iadd, 1) := by decide +kernel
theorem d_law_law_1086 : decode b_law_law 1086 = .ok (.iaload, 1) := by decide +kernel
theorem d_law_law_1087 : decode b_law_law 1087 = .ok (.invokevirtual 109, 3) := by decide +kernel
theorem d_law_law_1090 : decode b_law_law 1090 = .ok (.pop, 1) := by decide +kernel
theorem d_law_law_1091 : decode b_law_law 1091 = .ok (.aload_n 2, 1) := by decide +kernel
theorem d_law_law_1092 : decode b_law_law 1092 = .ok (.aload_n 0, 1) := by decide +kernel
theorem d_law_law_1093 : decode b_law_law 1093 = .ok (.iload_n 3, 1) := by decide +kernel
theorem d_law_law_1094 : decode b_law_law 1094 = .ok (.iconst 1, 1) := by decide +kernel
theorem d_law_law_1095 : decode b_law_law 1095 = .ok (.iadd, 1) := by decide +kernel
theorem d_law_law_1096 : decode b_law_law 1096 = .ok (.iaload, 1) := by decide +kernel
theorem d_law_law_1097 : decode b_law_law 1097 = .ok (.aload_n 0, 1) := by decide +kernel
theorem d_law_law_1098 : decode b_law_law 1098 = .ok (.iload_n 3, 1) := by decide +kernel
theorem d_law_law_1099 : decode b_law_law 1099 = .ok (.iconst 2, 1) := by decide +kernel
theorem d_law_law_1100 : decode b_law_law 1100 = .ok (.iadd, 1) := by decide +kernel
theorem d_law_law_1101 : decode b_law_law 1101 = .ok (.iaload, 1) := by decide +kernel
theorem d_law_law_1102 : decode b_law_law 1102 = .ok (.invokevirtual 112, 3) := by decide +kernel
theorem d_law_law_1105 : decode b_law_law 1105 = .ok (.pop, 1) := by decide +kernel
theorem d_law_law_1106 : decode b_law_law 1106 = .ok (.goto 188, 3) := by decide +kernel
theorem d_law_law_1109 : decode b_law_law 1109 = .ok (.aload_n 1, 1) := by decide +kernel
theorem d_law_law_1110 : decode b_law_law 1110 = .ok (.aload_n 0, 1) := by decide +kernel
theorem d_law_law_1111 : decode b_law_law 1111 = .ok (.iload_n 3, 1) := by decide +kernel
theorem d_law_law_1112 : decode b_law_law 1112 = .ok (.iconst 1, 1) := by decide +kernel
theorem d_law_law_1113 : decode b_law_law 1113 = .ok (.iadd, 1) := by decide +kernel
theorem d_law_law_1114 : decode b_law_law 1114 = .ok (.iaload, 1) := by decide +kernel
theorem d_law_law_1115 : decode b_law_law 1115 = .ok (.aload_n 0, 1) := by decide +kernel
theorem d_law_law_1116 : decode b_law_law 1116 = .ok (.iload_n 3, 1) := by decide +kernel
theorem d_law_law_1117 : decode b_law_law 1117 = .ok (.iconst 2, 1) := by decide +kernel
theorem d_law_law_1118 : decode b_law_law 1118 = .ok (.iadd, 1) := by decide +kernel
theorem d_law_law_1119 : decode b_law_law 1119 = .ok (.iaload, 1) := by decide +kernel
theorem d_law_law_1120 : decode b_law_law 1120 = .ok (.aload_n 0, 1) := by decide +kernel
theorem d_law_law_1121 : decode b_law_law 1121 = .ok (.iload_n 3, 1) := by decide +kernel
theorem d_law_law_1122 : decode b_law_law 1122 = .ok (.iconst 3, 1) := by decide +kernel
theorem d_law_law_1123 : decode b_law_law 1123 = .ok (.iadd, 1) := by decide +kernel
theorem d_law_law_1124 : decode b_law_law 1124 = .ok (.iaload, 1) := by decide +kernel
theorem d_law_law_1125 : decode b_law_law 1125 = .ok (.aload_n 0, 1) := by decide +kernel
theorem d_law_law_1126 : decode b_law_law 1126 = .ok (.iload_n 3, 1) := by decide +kernel
theorem d_law_law_1127 : decode b_law_law 1127 = .ok (.iconst 4, 1) := by decide +kernel
theorem d_law_law_1128 : decode b_law_law 1128 = .ok (.iadd, 1) := by decide +kernel
theorem d_law_law_1129 : decode b_law_law 1129 = .ok (.iaload, 1) := by decide +kernel
theorem d_law_law_1130 : decode b_law_law 1130 = .ok (.invokevirtual 113, 3) := by decide +kernel
theorem d_law_law_1133 : decode b_law_law 1133 = .ok (.pop, 1) := by decide +kernel
theorem d_law_law_1134 : decode b_law_law 1134 = .ok (.aload_n 2, 1) := by decide +kernel
theorem d_law_law_1135 : decode b_law_law 1135 = .ok (.aload_n 0, 1) := by decide +kernel
theorem d_law_law_1136 : decode b_law_law 1136 = .ok (.iload_n 3, 1) := by decide +kernel
theorem d_law_law_1137 : decode b_law_law 1137 = .ok (.iconst 1, 1) := by decide +kernel
theorem d_law_law_1138 : decode b_law_law 1138 = .ok (.iadd, 1) := by decide +kernel
theorem d_law_law_1139 : decode b_law_law 1139 = .ok (.iaload, 1) := by decide +kernel
theorem d_law_law_1140 : decode b_law_law 1140 = .ok (.aload_n 0, 1) := by decide +kernel
theorem d_law_law_1141 : decode b_law_law 1141 = .ok (.iload_n 3, 1) := by decide +kernel
theorem d_law_law_1142 : decode b_law_law 1142 = .ok (.iconst 2, 1) := by decide +kernel
theorem d_law_law_1143 : decode b_law_law 1143 = .ok (.iadd, 1) := by decide +kernel
theorem d_law_law_1144 : decode b_law_law 1144 = .ok (.iaload, 1) := by decide +kernel
theorem d_law_law_1145 : decode b_law_law 1145 = .ok (.aload_n 0, 1) := by decide +kernel
theorem d_law_law_1146 : decode b_law_law 1146 = .ok (.iload_n 3, 1) := by decide +kernel
theorem d_law_law_1147 : decode b_law_law 1147 = .ok (.iconst 3, 1) := by decide +kernel
theorem d_law_law_1148 : decode b_law_law 1148 = .ok (.iadd, 1) := by decide +kernel
theorem d_law_law_1149 : decode b_law_law 1149 = .ok (.iaload, 1) := by decide +kernel
theorem d_law_law_1150 : decode b_law_law 1150 = .ok (.aload_n 0, 1) := by decide +kernel
theorem d_law_law_1151 : decode b_law_law 1151 = .ok (.iload_n 3, 1) := by decide +kernel
theorem d_law_law_1152 : decode b_law_law 1152 = .ok (.iconst 4, 1) := by decide +kernel
theorem d_law_law_1153 : decode b_law_law 1153 = .ok (.iadd, 1) := by decide +kernel
theorem d_law_law_1154 : decode b_law_law 1154 = .ok (.iaload, 1) := by decide +kernel
theorem d_law_law_1155 : decode b_law_law 1155 = .ok (.invokevirtual 116, 3) := by decide +kernel
theorem d_law_law_1158 : decode b_law_law 1158 = .ok (.pop, 1) := by decide +kernel
theorem d_law_law_1159 : decode b_law_law 1159 = .ok (.goto 135, 3) := by decide +kernel
theorem d_law_law_1162 : decode b_law_law 1162 = .ok (.aload_n 1, 1) := by decide +kernel
theorem d_law_law_1163 : decode b_law_law 1163 = .ok (.aload_n 0, 1) := by decide +kernel
theorem d_law_law_1164 : decode b_law_law 1164 = .ok (.iload_n 3, 1) := by decide +kernel
theorem d_law_law_1165 : decode b_law_law 1165 = .ok (.iconst 1, 1) := by decide +kernel
theorem d_law_law_1166 : decode b_law_law 1166 = .ok (.iadd, 1) := by decide +kernel
theorem d_law_law_1167 : decode b_law_law 1167 = .ok (.iaload, 1) := by decide +kernel
theorem d_law_law_1168 : decode b_law_law 1168 = .ok (.aload_n 0, 1) := by decide +kernel
theorem d_law_law_1169 : decode b_law_law 1169 = .ok (.iload_n 3, 1) := by decide +kernel
theorem d_law_law_1170 : decode b_law_law 1170 = .ok (.iconst 2, 1) := by decide +kernel
theorem d_law_law_1171 : decode b_law_law 1171 = .ok (.iadd, 1) := by decide +kernel
theorem d_law_law_1172 : decode b_law_law 1172 = .ok (.iaload, 1) := by decide +kernel
theorem d_law_law_1173 : decode b_law_law 1173 = .ok (.invokevirtual 117, 3) := by decide +kernel
theorem d_law_law_1176 : decode b_law_law 1176 = .ok (.pop, 1) := by decide +kernel
theorem d_law_law_1177 : decode b_law_law 1177 = .ok (.aload_n 2, 1) := by decide +kernel
theorem d_law_law_1178 : decode b_law_law 1178 = .ok (.aload_n 0, 1) := by decide +kernel
theorem d_law_law_1179 : decode b_law_law 1179 = .ok (.iload_n 3, 1) := by decide +kernel
theorem d_law_law_1180 : decode b_law_law 1180 = .ok (.iconst 1, 1) := by decide +kernel
theorem d_law_law_1181 : decode b_law_law 1181 = .ok (.iadd, 1) := by decide +kernel
theorem d_law_law_1182 : decode b_law_law 1182 = .ok (.iaload, 1) := by decide +kernel
theorem d_law_law_1183 : decode b_law_law 1183 = .ok (.aload_n 0, 1) := by decide +kernel
theorem d_law_law_1184 : decode b_law_law 1184 = .ok (.iload_n 3, 1) := by decide +kernel
theorem d_law_law_1185 : decode b_law_law 1185 = .ok (.iconst 2, 1) := by decide +kernel
theorem d_law_law_1186 : decode b_law_law 1186 = .ok (.iadd, 1) := by decide +kernel
theorem d_law_law_1187 : decode b_law_law 1187 = .ok (.iaload, 1) := by decide +kernel
theorem d_law_law_1188 : decode b_law_law 1188 = .ok (.invokevirtual 120, 3) := by decide +kernel
theorem d_law_law_1191 : decode b_law_law 1191 = .ok (.pop, 1) := by decide +kernel
theorem d_law_law_1192 : decode b_law_law 1192 = .ok (.goto 102, 3) := by decide +kernel
theorem d_law_law_1195 : decode b_law_law 1195 = .ok (.aload_n 1, 1) := by decide +kernel
theorem d_law_law_1196 : decode b_law_law 1196 = .ok (.aload_n 0, 1) := by decide +kernel
theorem d_law_law_1197 : decode b_law_law 1197 = .ok (.iload_n 3, 1) := by decide +kernel
theorem d_law_law_1198 : decode b_law_law 1198 = .ok (.iconst 1, 1) := by decide +kernel
theorem d_law_law_1199 : decode b_law_law 1199 = .ok (.iadd, 1) := by decide +kernel
theorem d_law_law_1200 : decode b_law_law 1200 = .ok (.iaload, 1) := by decide +kernel
theorem d_law_law_1201 : decode b_law_law 1201 = .ok (.invokevirtual 121, 3) := by decide +kernel
theorem d_law_law_1204 : decode b_law_law 1204 = .ok (.pop, 1) := by decide +kernel
theorem d_law_law_1205 : decode b_law_law 1205 = .ok (.aload_n 2, 1) := by decide +kernel
theorem d_law_law_1206 : decode b_law_law 1206 = .ok (.aload_n 0, 1) := by decide +kernel
theorem d_law_law_1207 : decode b_law_law 1207 = .ok (.iload_n 3, 1) := by decide +kernel
theorem d_law_law_1208 : decode b_law_law 1208 = .ok (.iconst 1, 1) := by decide +kernel
theorem d_law_law_1209 : decode b_law_law 1209 = .ok (.iadd, 1) := by decide +kernel
theorem d_law_law_1210 : decode b_law_law 1210 = .ok (.iaload, 1) := by decide +kernel
theorem d_law_law_1211 : decode b_law_law 1211 = .ok (.invokevirtual 124, 3) := by decide +kernel
theorem d_law_law_1214 : decode b_law_law 1214 = .ok (.pop, 1) := by decide +kernel
theorem d_law_law_1215 : decode b_law_law 1215 = .ok (.goto 79, 3) := by decide +kernel
theorem d_law_law_1218 : decode b_law_law 1218 = .ok (.aload_n 1, 1) := by decide +kernel
theorem d_law_law_1219 : decode b_law_law 1219 = .ok (.aload_n 0, 1) := by decide +kernel
theorem d_law_law_1220 : decode b_law_law 1220 = .ok (.iload_n 3, 1) := by decide +kernel
theorem d_law_law_1221 : decode b_law_law 1221 = .ok (.iconst 1, 1) := by decide +kernel
theorem d_law_law_1222 : decode b_law_law 1222 = .ok (.iadd, 1) := by decide +kernel
theorem d_law_law_1223 : decode b_law_law 1223 = .ok (.iaload, 1) := by decide +kernel
theorem d_law_law_1224 : decode b_law_law 1224 = .ok (.aload_n 0, 1) := by decide +kernel
theorem d_law_law_1225 : decode b_law_law 1225 = .ok (.iload_n 3, 1) := by decide +kernel
theorem d_law_law_1226 : decode b_law_law 1226 = .ok (.iconst 2, 1) := by decide +kernel
theorem d_law_law_1227 : decode b_law_law 1227 = .ok (.iadd, 1) := by decide +kernel
theorem d_law_law_1228 : decode b_law_law 1228 = .ok (.iaload, 1) := by decide +kernel
theorem d_law_law_1229 : decode b_law_law 1229 = .ok (.aload_n 0, 1) := by decide +kernel
theorem d_law_law_1230 : decode b_law_law 1230 = .ok (.iload_n 3, 1) := by decide +kernel
theorem d_law_law_1231 : decode b_law_law 1231 = .ok (.iconst 3, 1) := by decide +kernel
theorem d_law_law_1232 : decode b_law_law 1232 = .ok (.iadd, 1) := by decide +kernel
theorem d_law_law_1233 : decode b_law_law 1233 = .ok (.iaload, 1) := by decide +kernel
theorem d_law_law_1234 : decode b_law_law 1234 = .ok (.invokevirtual 125, 3) := by decide +kernel
theorem d_law_law_1237 : decode b_law_law 1237 = .ok (.pop, 1) := by decide +kernel
theorem d_law_law_1238 : decode b_law_law 1238 = .ok (.aload_n 2, 1) := by decide +kernel
theorem d_law_law_1239 : decode b_law_law 1239 = .ok (.aload_n 0, 1) := by decide +kernel
theorem d_law_law_1240 : decode b_law_law 1240 = .ok (.iload_n 3, 1) := by decide +kernel
theorem d_law_law_1241 : decode b_law_law 1241 = .ok (.iconst 1, 1) := by decide +kernel
theorem d_law_law_1242 : decode b_law_law 1242 = .ok (.iadd, 1) := by decide +kernel
theorem d_law_law_1243 : decode b_law_law 1243 = .ok (.iaload, 1) := by decide +kernel
theorem d_law_law_1244 : decode b_law_law 1244 = .ok (.aload_n 0, 1) := by decide +kernel
theorem d_law_law_1245 : decode b_law_law 1245 = .ok (.iload_n 3, 1) := by decide +kernel
theorem d_law_law_1246 : decode b_law_law 1246 = .ok (.iconst 2, 1) := by decide +kernel
theorem d_law_law_1247 : decode b_law_law 1247 = .ok (.iadd, 1) := by decide +kernel
theorem d_law_law_1248 : decode b_law_law 1248 = .ok (.iaload, 1) := by decide +kernel
theorem d_law_law_1249 : decode b_law_law 1249 = .ok (.aload_n 0, 1) := by decide +kernel
theorem d_law_law_1250 : decode b_law_law 1250 = .ok (.iload_n 3, 1) := by decide +kernel
theorem d_law_law_1251 : decode b_law_law 1251 = .ok (.iconst 3, 1) := by decide +kernel
theorem d_law_law_1252 : decode b_law_law 1252 = .ok (.iadd, 1) := by decide +kernel
theorem d_law_law_1253 : decode b_law_law 1253 = .ok (.iaload, 1) := by decide +kernel
theorem d_law_law_1254 : decode b_law_law 1254 = .ok (.invokevirtual 128, 3) := by decide +kernel
theorem d_law_law_1257 : decode b_law_law 1257 = .ok (.pop, 1) := by decide +kernel
theorem d_law_law_1258 : decode b_law_law 1258 = .ok (.goto 36, 3) := by decide +kernel
theorem d_law_law_1261 : decode b_law_law 1261 = .ok (.aload_n 1, 1) := by decide +kernel
theorem d_law_law_1262 : decode b_law_law 1262 = .ok (.aload_n 0, 1) := by decide +kernel
theorem d_law_law_1263 : decode b_law_law 1263 = .ok (.iload_n 3, 1) := by decide +kernel
theorem d_law_law_1264 : decode b_law_law 1264 = .ok (.iconst 1, 1) := by decide +kernel
theorem d_law_law_1265 : decode b_law_law 1265 = .ok (.iadd, 1) := by decide +kernel
theorem d_law_law_1266 : decode b_law_law 1266 = .ok (.iaload, 1) := by decide +kernel
theorem d_law_law_1267 : decode b_law_law 1267 = .ok (.aload_n 0, 1) := by decide +kernel
theorem d_law_law_1268 : decode b_law_law 1268 = .ok (.iload_n 3, 1) := by decide +kernel
theorem d_law_law_1269 : decode b_law_law 1269 = .ok (.iconst 2, 1) := by decide +kernel
theorem d_law_law_1270 : decode b_law_law 1270 = .ok (.iadd, 1) := by decide +kernel
theorem d_law_law_1271 : decode b_law_law 1271 = .ok (.iaload, 1) := by decide +kernel
theorem d_law_law_1272 : decode b_law_law 1272 = .ok (.invokevirtual 129, 3) := by decide +kernel
theorem d_law_law_1275 : decode b_law_law 1275 = .ok (.pop, 1) := by decide +kernel
theorem d_law_law_1276 : decode b_law_law 1276 = .ok (.aload_n 2, 1) := by decide +kernel
theorem d_law_law_1277 : decode b_law_law 1277 = .ok (.aload_n 0, 1) := by decide +kernel
theorem d_law_law_1278 : decode b_law_law 1278 = .ok (.iload_n 3, 1) := by decide +kernel
theorem d_law_law_1279 : decode b_law_law 1279 = .ok (.iconst 1, 1) := by decide +kernel
theorem d_law_law_1280 : decode b_law_law 1280 = .ok (.iadd, 1) := by decide +kernel
theorem d_law_law_1281 : decode b_law_law 1281 = .ok (.iaload, 1) := by decide +kernel
theorem d_law_law_1282 : decode b_law_law 1282 = .ok (.aload_n 0, 1) := by decide +kernel
theorem d_law_law_1283 : decode b_law_law 1283 = .ok (.iload_n 3, 1) := by decide +kernel
theorem d_law_law_1284 : decode b_law_law 1284 = .ok (.iconst 2, 1) := by decide +kernel
theorem d_law_law_1285 : decode b_law_law 1285 = .ok (.iadd, 1) := by decide +kernel
theorem d_law_law_1286 : decode b_law_law 1286 = .ok (.iaload, 1) := by decide +kernel
theorem d_law_law_1287 : decode b_law_law 1287 = .ok (.invokevirtual 132, 3) := by decide +kernel
theorem d_law_law_1290 : decode b_law_law 1290 = .ok (.pop, 1) := by decide +kernel
theorem d_law_law_1291 : decode b_law_law 1291 = .ok (.goto 3, 3) := by decide +kernel
theorem d_law_law_1294 : decode b_law_law 1294 = .ok (.iinc 3 6, 3) := by decide +kernel
theorem d_law_law_1297 : decode b_law_law 1297 = .ok (.goto (-1279), 3) := by decide +kernel
theorem d_law_law_1300 : decode b_law_law 1300 = .ok (.iconst 1, 1) := by decide +kernel
theorem d_law_law_1301 : decode b_law_law 1301 = .ok (.ireturn, 1) := by decide +kernel
end
section
/-! the law's loop: what holds at its head, and what a call leaves of it -/
def L_env : List tv_T := [(2, 0, 0, [12]), (2, 0, 0, [165]), (0, 0, 3066, []), (2, 0, 0, [8]), (0, 0, 2000, []), (0, 0, 2000, []), (0, 0, 3072, [])]
def L_y : sy_T := (L_env, [], [], [], [], [])
/-- the house, the reference, the place in the script, the reader, the tape's length, its length behind this turn, the next place -/
def L_vs (h1 h2 rd i n k : Nat) : List Value := [.ref h1, .ref h2, .int (nI i), .ref rd, .int (nI n), .int (nI k), .int (nI (i + 6))]
/-- the house's reader -/
def L_rd (ws : va_W) (h1 rd : Nat) : Prop := ∃ (ci : Nat) (fs : List Value), (h1, .inr (ci, fs)) ∈ ws ∧ fs[4]? = some (.ref rd)
def LI (kA : Nat → ClassId) (h1 h2 rd i n : Nat) (ta : Nat → Option Nat) (ws : va_W) : Prop :=
  th_ok kA GG ta ws ∧ (ta h1 = some 12 ∧ ta h2 = some 165 ∧ ta rd = some 8 ∧ n ≤ 2000) ∧ L_rd ws h1 rd ∧ fc_m PRD 20 [.ref h1] [62, 0] ws ∧ fc_m PRD 20 [.ref h1] [62, 1000000] ws ∧ fc_m PRD 20 [.ref h1, .int (nI i)] [62, 2000000] ws ∧ fc_m PRD 20 [.ref h2] [60, 0, 3, 198, 2, 3, 4] ws ∧ fc_m PRD 20 [.ref h2] [60, 0, 3, 367, 110, 111, 112] ws ∧ fc_m PRD 20 [.ref rd, .int (nI n)] [50, 1, 0, 1, 1, 3, 2, 0, 1, 1, 1] ws ∧ fc_m PRD 20 [.ref h2, .int (nI n)] [50, 1, 0, 0, 1, 3, 2, 0, 0, 1, 1] ws ∧ fc_m PRD 20 [.ref h2, .ref rd, .int (nI n)] [60, 0, 2, 1109, 1, 1000] ws
theorem tv_nI {ta : Nat → Option Nat} {k N : Nat} (h : k ≤ N) (hN : N < 2147483648) : tv_ok ta (0, 0, (N : Int), []) (.int (nI k)) := Or.inl ⟨rfl, nI k, rfl, by rw [nI_toInt (by omega)]; show (0 : Int) ≤ k; omega, by rw [nI_toInt (by omega)]; show (k : Int) ≤ N; omega⟩
theorem tv_top {ta : Nat → Option Nat} {x : Int32} : tv_ok ta (0, -2147483648, 2147483647, []) (.int x) := Or.inl ⟨rfl, x, rfl, Int32.le_toInt x, by have := Int32.toInt_lt x; show x.toInt ≤ 2147483647; omega⟩
theorem tv_rf {ta : Nat → Option Nat} {a r : Nat} (h : ta a = some r) : tv_ok ta (2, 0, 0, [r]) (.ref a) := Or.inr (Or.inr (Or.inl ⟨rfl, a, r, rfl, h, List.mem_singleton.mpr rfl⟩))
theorem ag_n {ta : Nat → Option Nat} : ag_ok ta [] [] := trivial
theorem ag_c {ta : Nat → Option Nat} {t : tv_T} {v : Value} {ts : List tv_T} {vs : List Value} (h : tv_ok ta t v) (k : ag_ok ta ts vs) : ag_ok ta (t :: ts) (v :: vs) := ⟨h, k⟩
theorem L_envs {ta : Nat → Option Nat} {h1 h2 rd i n k : Nat} (a1 : ta h1 = some 12) (a2 : ta h2 = some 165) (a3 : ta rd = some 8) (hi : i ≤ 3066) (hn : n ≤ 2000) (hk : k ≤ 2000) : sy_env ta L_env (L_vs h1 h2 rd i n k) := by
  refine ⟨rfl, fun j t v a b => ?_⟩
  match j, a, b with
  | 0, a, b => cases a; cases b; exact tv_rf a1
  | 1, a, b => cases a; cases b; exact tv_rf a2
  | 2, a, b => cases a; cases b; exact tv_nI hi (by decide)
  | 3, a, b => cases a; cases b; exact tv_rf a3
  | 4, a, b => cases a; cases b; exact tv_nI hn (by decide)
  | 5, a, b => cases a; cases b; exact tv_nI hk (by decide)
  | 6, a, b => cases a; cases b; exact tv_nI (N := 3072) (show i + 6 ≤ 3072 by omega) (by decide)
  | j + 7, a, b => exact absurd a (by show ¬ (([] : List tv_T)[j]? = some t); simp)
theorem fc_list {PQ : pq_T} {ta : Nat → Option Nat} {ws : va_W} {vs : List Value} : ∀ {fs : List fc_T}, (fs.all (fun f => Nat.blt f.1 100) = true) → (∀ f ∈ fs, fc_1 PQ f ws vs) → fc_ok PQ fs ta ws vs
  | [], _, _ => trivial
  | f :: r, ha, h => by
    rw [List.all_cons, Bool.and_eq_true] at ha
    exact fc_cons (Nat.le_of_ble_eq_true ha.1) (h f List.mem_cons_self) (fc_list ha.2 (fun g hg => h g (List.mem_cons_of_mem _ hg)))
theorem sy_env_up {ta tb : Nat → Option Nat} {env : List tv_T} {vs : List Value} (hle : ta_le ta tb) (h : sy_env ta env vs) : sy_env tb env vs := ⟨h.1, fun i t v a b => tv_mono hle (h.2 i t v a b)⟩
theorem fc_nowA : ∀ (M R : List fc_T), (∀ g ∈ M, g.1 < 100) → ∀ f ∈ M, f ∈ fc_now (M ++ R)
  | [], _, _, _, h => by cases h
  | g :: M, R, hM, f, h => by
    rw [List.cons_append]
    unfold fc_now
    rw [if_pos (hM g List.mem_cons_self)]
    rcases List.mem_cons.mp h with rfl | h
    · exact List.mem_cons_self
    · exact List.mem_cons_of_mem _ (fc_nowA M R (fun q hq => hM q (List.mem_cons_of_mem _ hq)) f h)
theorem fc_now_all : ∀ {L : List fc_T} {f : fc_T}, f ∈ fc_now L → f ∈ L
  | [], _, h => by cases h
  | g :: r, f, h => by
    unfold fc_now at h
    split at h
    · rcases List.mem_cons.mp h with rfl | h
      · exact List.mem_cons_self
      · exact List.mem_cons_of_mem _ (fc_now_all h)
    · cases h
/-- facts that a call leaves alone: of M those in S -/
def L_kp (mo : mo_T) (M S : List fc_T) : Bool := M.all (fun f => Nat.blt f.1 100 && f.2.1.all (fun q => Nat.blt q 7)) && S.all (fun f => (fc_carry GG L_y (fc_call 7 mo :: M)).contains f)
theorem L_keep {kA : Nat → ClassId} {A : Nat → Prop} {h1 h2 rd i n k : Nat} {ta tb : Nat → Option Nat} {ws w1 : va_W} {mo : mo_T} (hth : th_ok kA GG ta ws) (henv : sy_env ta L_env (L_vs h1 h2 rd i n k)) (hD : va_D A ws) (hle : ta_le ta tb) (hth1 : th_ok kA GG tb w1) (hD1 : va_D A w1) (hk : kp mo ta ws w1) {M S : List fc_T} (hS : L_kp mo M S = true) (hf : ∀ f ∈ M, fc_m PRD f.1 (f.2.1.map (n_v (L_vs h1 h2 rd i n k))) f.2.2 ws) : ∀ f ∈ S, fc_m PRD f.1 (f.2.1.map (n_v (L_vs h1 h2 rd i n k))) f.2.2 w1 := by
  unfold L_kp at hS
  rw [Bool.and_eq_true] at hS
  have hM : ∀ f ∈ M, f.1 < 100 ∧ ∀ q ∈ f.2.1, q < 7 := fun f h => by
    have := List.all_eq_true.mp hS.1 f h
    rw [Bool.and_eq_true] at this
    exact ⟨Nat.le_of_ble_eq_true this.1, fun q hq => Nat.le_of_ble_eq_true (List.all_eq_true.mp this.2 q hq)⟩
  have h0 : fc_ok PRD M ta ws (L_vs h1 h2 rd i n k) := fc_list (List.all_eq_true.mpr (fun f h => Nat.ble_eq_true_of_le (hM f h).1)) (fun f h => ⟨(hM f h).2, hf f h⟩)
  have hold : ∀ j, j < 7 → ∀ a, n_v (L_vs h1 h2 rd i n k) j = .ref a → (ta a).isSome = true := fun j hj a ha => by
    match j, hj with
    | 0, _ => obtain ⟨a_zq, r, e, e2, _⟩ := tv_ref (henv.2 0 (2, 0, 0, [12]) (.ref h1) rfl rfl) rfl; cases e; cases ha; rw [e2]; rfl
    | 1, _ => obtain ⟨a_zq, r, e, e2, _⟩ := tv_ref (henv.2 1 (2, 0, 0, [165]) (.ref h2) rfl rfl) rfl; cases e; cases ha; rw [e2]; rfl
    | 2, _ => cases ha
    | 3, _ => obtain ⟨a_zq, r, e, e2, _⟩ := tv_ref (henv.2 3 (2, 0, 0, [8]) (.ref rd) rfl rfl) rfl; cases e; cases ha; rw [e2]; rfl
    | 4, _ => cases ha
    | 5, _ => cases ha
    | 6, _ => cases ha
  have hcl : fc_ok PRD (fc_call 7 mo :: M) tb w1 (L_vs h1 h2 rd i n k) := fc_step (by show ¬ (102 : Nat) < 100; decide) hle (fc_call_ok (Nat.le_refl 7) hold hth hle hth1 hD hD1 hk) h0
  have hcr := fc_carry_ok hD1 hth1 (y := L_y) (sy_env_up hle henv) hcl
  have hin : ∀ g ∈ fc_carry GG L_y (fc_call 7 mo :: M), g ∈ M := fun g hg => by
    have h3 : fc_top (fc_call 7 mo :: M) = some (fc_call 7 mo, fc_now M) := by unfold fc_top; rw [if_neg (by show ¬ (102 : Nat) < 100; decide)]
    unfold fc_carry at hg
    rw [h3] at hg
    exact fc_now_all (List.mem_filter.mp hg).1
  intro f hf2
  have hm : f ∈ fc_carry GG L_y (fc_call 7 mo :: M) := List.contains_iff_mem.mp (List.all_eq_true.mp hS.2 f hf2)
  exact (fc_now_ok hcr f (fc_nowA _ _ (fun g hg => (hM g (hin g hg)).1) f hm)).2.2
def L_env10 : List tv_T := L_env ++ [(0, -2147483648, 2147483647, []), (0, -2147483648, 2147483647, []), (0, -2147483648, 2147483647, [])]
def L_y10 : sy_T := (L_env10, [], [], [], [], [])
/-- and read's arguments, and the class's answer -/
def L_vs10 (h1 h2 rd i n k : Nat) (a b c : Int32) : List Value := L_vs h1 h2 rd i n k ++ [.int a, .int b, .int c]
theorem L_envs10 {ta : Nat → Option Nat} {h1 h2 rd i n k : Nat} {a b c : Int32} (h : sy_env ta L_env (L_vs h1 h2 rd i n k)) : sy_env ta L_env10 (L_vs10 h1 h2 rd i n k a b c) := by
  refine ⟨rfl, fun j t v p q => ?_⟩
  match j, p, q with
  | 0, p, q => exact h.2 0 t v p q
  | 1, p, q => exact h.2 1 t v p q
  | 2, p, q => exact h.2 2 t v p q
  | 3, p, q => exact h.2 3 t v p q
  | 4, p, q => exact h.2 4 t v p q
  | 5, p, q => exact h.2 5 t v p q
  | 6, p, q => exact h.2 6 t v p q
  | 7, p, q => cases p; cases q; exact tv_top
  | 8, p, q => cases p; cases q; exact tv_top
  | 9, p, q => cases p; cases q; exact tv_top
  | j + 10, p, q => exact absurd p (by show ¬ (([] : List tv_T)[j]? = some t); simp)
theorem L_te0 {len k : Int} {Tc Tm : Int → Int} (h : TEQ Tm Tc k) (e : len = k) : TE0 len Tc Tm := by rw [e]; exact h
theorem L_tek {Tc Tm : Int → Int} {n k : Nat} (h : TEQ Tm Tc (nI n).toInt) (hk : k ≤ n) (hn : n ≤ 2000) : TEQ Tm Tc (nI k).toInt := by
  have h2 : TPR Tc Tm (nI n).toInt := h
  rw [nI_toInt (by omega)] at h2
  show TPR Tc Tm (nI k).toInt
  rw [nI_toInt (by omega)]
  exact ⟨by omega, fun j p q => h2.2 j p (by omega)⟩
def L_kp10 (mo : mo_T) (M S : List fc_T) : Bool := M.all (fun f => Nat.blt f.1 100 && f.2.1.all (fun q => Nat.blt q 10)) && S.all (fun f => (fc_carry GG L_y10 (fc_call 10 mo :: M)).contains f)
theorem L_keep10 {kA : Nat → ClassId} {A : Nat → Prop} {h1 h2 rd i n k : Nat} {a1 a2 a3 : Int32} {ta tb : Nat → Option Nat} {ws w1 : va_W} {mo : mo_T} (hth : th_ok kA GG ta ws) (henv : sy_env ta L_env10 (L_vs10 h1 h2 rd i n k a1 a2 a3)) (hD : va_D A ws) (hle : ta_le ta tb) (hth1 : th_ok kA GG tb w1) (hD1 : va_D A w1) (hk : kp mo ta ws w1) {M S : List fc_T} (hS : L_kp10 mo M S = true) (hf : ∀ f ∈ M, fc_m PRD f.1 (f.2.1.map (n_v (L_vs10 h1 h2 rd i n k a1 a2 a3))) f.2.2 ws) : ∀ f ∈ S, fc_m PRD f.1 (f.2.1.map (n_v (L_vs10 h1 h2 rd i n k a1 a2 a3))) f.2.2 w1 := by
  unfold L_kp10 at hS
  rw [Bool.and_eq_true] at hS
  have hM : ∀ f ∈ M, f.1 < 100 ∧ ∀ q ∈ f.2.1, q < 10 := fun f h => by
    have := List.all_eq_true.mp hS.1 f h
    rw [Bool.and_eq_true] at this
    exact ⟨Nat.le_of_ble_eq_true this.1, fun q hq => Nat.le_of_ble_eq_true (List.all_eq_true.mp this.2 q hq)⟩
  have h0 : fc_ok PRD M ta ws (L_vs10 h1 h2 rd i n k a1 a2 a3) := fc_list (List.all_eq_true.mpr (fun f h => Nat.ble_eq_true_of_le (hM f h).1)) (fun f h => ⟨(hM f h).2, hf f h⟩)
  have hold : ∀ j, j < 10 → ∀ a, n_v (L_vs10 h1 h2 rd i n k a1 a2 a3) j = .ref a → (ta a).isSome = true := fun j hj a ha => by
    match j, hj with
    | 0, _ => obtain ⟨a_zq, r, e, e2, _⟩ := tv_ref (henv.2 0 (2, 0, 0, [12]) (.ref h1) rfl rfl) rfl; cases e; cases ha; rw [e2]; rfl
    | 1, _ => obtain ⟨a_zq, r, e, e2, _⟩ := tv_ref (henv.2 1 (2, 0, 0, [165]) (.ref h2) rfl rfl) rfl; cases e; cases ha; rw [e2]; rfl
    | 2, _ => cases ha
    | 3, _ => obtain ⟨a_zq, r, e, e2, _⟩ := tv_ref (henv.2 3 (2, 0, 0, [8]) (.ref rd) rfl rfl) rfl; cases e; cases ha; rw [e2]; rfl
    | 4, _ => cases ha
    | 5, _ => cases ha
    | 6, _ => cases ha
    | 7, _ => cases ha
    | 8, _ => cases ha
    | 9, _ => cases ha
  have hcl : fc_ok PRD (fc_call 10 mo :: M) tb w1 (L_vs10 h1 h2 rd i n k a1 a2 a3) := fc_step (by show ¬ (102 : Nat) < 100; decide) hle (fc_call_ok (Nat.le_refl 10) hold hth hle hth1 hD hD1 hk) h0
  have hcr := fc_carry_ok hD1 hth1 (y := L_y10) (sy_env_up hle henv) hcl
  have hin : ∀ g ∈ fc_carry GG L_y10 (fc_call 10 mo :: M), g ∈ M := fun g hg => by
    have h3 : fc_top (fc_call 10 mo :: M) = some (fc_call 10 mo, fc_now M) := by unfold fc_top; rw [if_neg (by show ¬ (102 : Nat) < 100; decide)]
    unfold fc_carry at hg
    rw [h3] at hg
    exact fc_now_all (List.mem_filter.mp hg).1
  intro f hf2
  have hm : f ∈ fc_carry GG L_y10 (fc_call 10 mo :: M) := List.contains_iff_mem.mp (List.all_eq_true.mp hS.2 f hf2)
  exact (fc_now_ok hcr f (fc_nowA _ _ (fun g hg => (hM g (hin g hg)).1) f hm)).2.2
theorem L_rdk {h1 rd r : Nat} {ta : Nat → Option Nat} {ws w1 : va_W} {mo : mo_T} (h : L_rd ws h1 rd) (hr : ta h1 = some r) (hk : kp mo ta ws w1) (hm : (r, 4) ∉ mo.2.1) : L_rd w1 h1 rd := by
  obtain ⟨ci, fs, h1_zq, h2_zq⟩ := h
  obtain ⟨fs_zq, q1, q2⟩ := hk.1 _ _ _ h1_zq
  exact ⟨ci, fs_zq, q1, by rw [q2 r 4 hr hm]; exact h2_zq⟩
/-- a script's int at a natural place -/
theorem sc_ld {p : Program} {l : Launch} {e : Env} {R : Room} {s : State} {m : MethodId} {args : Array Value} {below : List Frame} {meth : Method} {c : Code} {H H0 : Heap} {locs : List Loc} {cells slots : Nat} {Q : State → Prop} {cc : ByteArray} {pc : Nat} {ls : Array Slot} {rest : List Value} {A : Nat → Prop} (hx : p.tables.exec = Jvm.exec) (hb : c.code = cc) {b L : Nat} {xs : Nat → Int32} (hX : va_X b L xs s H0) (hbl : b < H0.size) (hbA : ¬ A b) (hS : va_S A H0 H locs) {j : Nat} (hj : j < L) (hL : L < 2 ^ 31) (hdg : decode cc pc = .ok (.iaload, 1))
    (kk : W p l e R s m args below meth c H locs cells slots Q (F0 m (pc + 1) ls (.int (xs j) :: rest))) : W p l e R s m args below meth c H locs cells slots Q (F0 m pc ls (.int (nI j) :: .ref b :: rest)) := by
  refine va_sld hx hb hX hbl hbA hS (vp_in_nI hj hL) hdg ?_
  rw [nI_clamp (by omega)]; exact kk
theorem gv_n {ta : Nat → Option Nat} {ws : va_W} {av : List Value} : gv_ok ta ws av [] [] := trivial
theorem gv_rd {ta : Nat → Option Nat} {ws : va_W} {h1 rd : Nat} {av : List Value} (h : L_rd ws h1 rd) (hr : ta rd = some 8) : gv_ok ta ws (.ref h1 :: av) [((0, 4), (2, 0, 0, [8]))] [.ref rd] := by
  obtain ⟨ci, fs, a, b⟩ := h
  exact ⟨⟨h1, ci, fs, rfl, a, b⟩, tv_rf hr, trivial⟩
/-- an int answer -/
theorem rt_i {ta : Nat → Option Nat} {t : tv_T} {r : Option Value} (h0 : t.1 = 0) (h : rt_ok ta (some t) r) : ∃ x : Int32, r = some (.int x) := by
  cases r with
  | none => exact h.elim
  | some v => obtain ⟨x, e, _⟩ := tv_int (show tv_ok ta t v from h) h0; exact ⟨x, by rw [e]⟩
theorem rt_l {ta : Nat → Option Nat} {t : tv_T} {r : Option Value} (h0 : t.1 = 1) (h : rt_ok ta (some t) r) : ∃ x : Int64, r = some (.long x) := by
  cases r with
  | none => exact h.elim
  | some v => obtain ⟨x, e, _⟩ := tv_long (show tv_ok ta t v from h) h0; exact ⟨x, by rw [e]⟩
/-- a field of the house -/
def L_fd (ws : va_W) (h1 k : Nat) (v : Value) : Prop := ∃ (ci : Nat) (fs : List Value), (h1, .inr (ci, fs)) ∈ ws ∧ fs[k]? = some v
/-- a tool is there -/
def TN (ws : va_W) (h1 k : Nat) : Prop := ∃ a : Nat, L_fd ws h1 k (.ref a)
theorem TN_kp {h1 k r : Nat} {ta : Nat → Option Nat} {ws w1 : va_W} {mo : mo_T} (hr : ta h1 = some r) (hk : kp mo ta ws w1) (hm : (r, k) ∉ mo.2.1) (h : TN ws h1 k) : TN w1 h1 k := by
  obtain ⟨a, ci, fs, q1, q2⟩ := h
  obtain ⟨fs2, q3, q4⟩ := hk.1 _ _ _ q1
  exact ⟨a, ci, fs2, q3, by rw [q4 r k hr hm]; exact q2⟩
/-- what field k of the house is -/
theorem L_fdx {kA : Nat → ClassId} {ta : Nat → Option Nat} {ws : va_W} {h1 k : Nat} {t : tv_T} (hth : th_ok kA GG ta ws) (hr : ta h1 = some 12) (ht : GG_12.2.2.2.2[k]? = some t) : ∃ v, L_fd ws h1 k v ∧ tv_ok ta t v := by
  obtain ⟨e, h2, h3⟩ := th_in hth hr (g := GG_12) rfl
  rcases h3 with ⟨z, _⟩ | ⟨z, _⟩ | ⟨z, z2, _⟩ | ⟨_, fs, rfl, l1, hf⟩
  · exact absurd z (by decide)
  · exact absurd z (by decide)
  · exact absurd z2 (by decide)
  · have hlt : k < fs.length := by rw [l1]; exact (List.getElem?_eq_some_iff.mp ht).1
    exact ⟨fs[k], ⟨_, fs, h2, List.getElem?_eq_getElem hlt⟩, hf k t _ ht (List.getElem?_eq_getElem hlt)⟩
theorem gv_fd {ta : Nat → Option Nat} {ws : va_W} {h1 k : Nat} {v : Value} {t : tv_T} {av : List Value} (h : L_fd ws h1 k v) (ht : tv_ok ta t v) : gv_ok ta ws (.ref h1 :: av) [((0, k), t)] [v] := by
  obtain ⟨ci, fs, a, b⟩ := h
  exact ⟨⟨h1, ci, fs, rfl, a, b⟩, ht, trivial⟩
theorem L_fd1 {A : Nat → Prop} {ws : va_W} {h1 k : Nat} {v v2 : Value} (hD : va_D A ws) (h : L_fd ws h1 k v) (h2 : L_fd ws h1 k v2) : v = v2 := by
  obtain ⟨ci, fs, a, b⟩ := h
  obtain ⟨ci2, fs2, a2, b2⟩ := h2
  have e1 := w_at_mem hD a
  rw [w_at_mem hD a2] at e1
  cases e1
  rw [b] at b2
  exact Option.some.inj b2
/-- every end says that the tool is there -/
def L_pa (k : Nat) (PA : List sy_T) : Bool := !PA.isEmpty && PA.all (fun P => P.2.2.2.1.any (fun q => decide (q.1 = (0, k)) && (match P.1[q.2]? with | some t => decide (t.1 = 2) | none => false)))
theorem TN_pa {PQ : pq_T} {tb : Nat → Option Nat} {w1 : va_W} {h1 k : Nat} {bv : List Value} {PA : List sy_T} {PO : List fc_T} {r : Option Value} (h : po_ok PQ tb w1 (.ref h1 :: bv) PA PO r) (hp : L_pa k PA = true) : TN w1 h1 k := by
  unfold L_pa at hp
  rw [Bool.and_eq_true] at hp
  rcases h.2 with e | ⟨P, hP, vs, hpre, henv, _, _, hm, _⟩
  · rw [e] at hp; exact absurd hp.1 (by decide)
  · have hal := List.all_eq_true.mp hp.2 P hP
    obtain ⟨q, hq, hq2⟩ := List.any_eq_true.mp hal
    rw [Bool.and_eq_true, decide_eq_true_eq] at hq2
    obtain ⟨a, ci, fs, v, m1, m2, m3, m4⟩ := hm q hq
    cases ht : P.1[q.2]? with
    | none => rw [ht] at hq2; exact absurd hq2.2 (by decide)
    | some t =>
      rw [ht] at hq2
      have ht2 : t.1 = 2 := by simpa using hq2.2
      obtain ⟨x, r2, e, _⟩ := tv_ref (henv.2 q.2 t v ht m4) ht2
      rw [hq2.1] at m1 m3
      obtain ⟨tl, rfl⟩ := hpre
      have e2 : (.ref h1 : Value) = .ref a := Option.some.inj m1
      cases e2
      exact ⟨x, ci, fs, m2, by rw [← e]; exact m3⟩
end
