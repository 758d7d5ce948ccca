theorem wm_1813 : (Cond.methodLink "DrawingHouseLaw" (83 : Nat) ({ cls := "DrawingHouse", name := "at", desc := "(IIII)I" } : MethodName) : Cond) ∈ lw_g := lw_gi (lw_c8 (List.mem_of_getElem? (i := 133) rfl)) rfl
theorem wm_1814 : (Cond.instanceMethod ({ cls := "DrawingHouse", name := "at", desc := "(IIII)I" } : MethodName) : Cond) ∈ lw_g := lw_gi (lw_c8 (List.mem_of_getElem? (i := 134) rfl)) rfl
theorem wm_1815 : (Cond.selects "DrawingHouse" ({ cls := "DrawingHouse", name := "at", desc := "(IIII)I" } : MethodName) ({ cls := "DrawingHouse", name := "at", desc := "(IIII)I" } : MethodName) : Cond) ∈ lw_g := lw_gi (lw_c8 (List.mem_of_getElem? (i := 135) rfl)) rfl
theorem wm_1825 : (Cond.methodLink "DrawingHouseLaw" (87 : Nat) ({ cls := "DrawingHouse", name := "told", desc := "(III)I" } : MethodName) : Cond) ∈ lw_g := lw_gi (lw_c8 (List.mem_of_getElem? (i := 145) rfl)) rfl
theorem wm_1826 : (Cond.instanceMethod ({ cls := "DrawingHouse", name := "told", desc := "(III)I" } : MethodName) : Cond) ∈ lw_g := lw_gi (lw_c8 (List.mem_of_getElem? (i := 146) rfl)) rfl
theorem wm_1827 : (Cond.selects "DrawingHouse" ({ cls := "DrawingHouse", name := "told", desc := "(III)I" } : MethodName) ({ cls := "DrawingHouse", name := "told", desc := "(III)I" } : MethodName) : Cond) ∈ lw_g := lw_gi (lw_c8 (List.mem_of_getElem? (i := 147) rfl)) rfl
theorem wm_1842 : (Cond.methodLink "DrawingHouseLaw" (91 : Nat) ({ cls := "DrawingHouse", name := "put", desc := "(IIIII)Z" } : MethodName) : Cond) ∈ lw_g := lw_gi (lw_c8 (List.mem_of_getElem? (i := 162) rfl)) rfl
theorem wm_1843 : (Cond.instanceMethod ({ cls := "DrawingHouse", name := "put", desc := "(IIIII)Z" } : MethodName) : Cond) ∈ lw_g := lw_gi (lw_c8 (List.mem_of_getElem? (i := 163) rfl)) rfl
theorem wm_1844 : (Cond.selects "DrawingHouse" ({ cls := "DrawingHouse", name := "put", desc := "(IIIII)Z" } : MethodName) ({ cls := "DrawingHouse", name := "put", desc := "(IIIII)Z" } : MethodName) : Cond) ∈ lw_g := lw_gi (lw_c8 (List.mem_of_getElem? (i := 164) rfl)) rfl
theorem wm_1852 : (Cond.methodLink "DrawingHouseLaw" (96 : Nat) ({ cls := "DrawingHouse", name := "route", desc := "(II)I" } : MethodName) : Cond) ∈ lw_g := lw_gi (lw_c8 (List.mem_of_getElem? (i := 172) rfl)) rfl
theorem wm_1853 : (Cond.instanceMethod ({ cls := "DrawingHouse", name := "route", desc := "(II)I" } : MethodName) : Cond) ∈ lw_g := lw_gi (lw_c8 (List.mem_of_getElem? (i := 173) rfl)) rfl
theorem wm_1854 : (Cond.selects "DrawingHouse" ({ cls := "DrawingHouse", name := "route", desc := "(II)I" } : MethodName) ({ cls := "DrawingHouse", name := "route", desc := "(II)I" } : MethodName) : Cond) ∈ lw_g := lw_gi (lw_c8 (List.mem_of_getElem? (i := 174) rfl)) rfl
theorem wm_1971 : (Cond.methodLink "DrawingHouseLaw" (100 : Nat) ({ cls := "DrawingHouse", name := "label", desc := "(III)I" } : MethodName) : Cond) ∈ lw_g := lw_gi (lw_c9 (List.mem_of_getElem? (i := 51) rfl)) rfl
theorem wm_1972 : (Cond.instanceMethod ({ cls := "DrawingHouse", name := "label", desc := "(III)I" } : MethodName) : Cond) ∈ lw_g := lw_gi (lw_c9 (List.mem_of_getElem? (i := 52) rfl)) rfl
theorem wm_1973 : (Cond.selects "DrawingHouse" ({ cls := "DrawingHouse", name := "label", desc := "(III)I" } : MethodName) ({ cls := "DrawingHouse", name := "label", desc := "(III)I" } : MethodName) : Cond) ∈ lw_g := lw_gi (lw_c9 (List.mem_of_getElem? (i := 53) rfl)) rfl
theorem wm_2002 : (Cond.methodLink "DrawingHouseLaw" (104 : Nat) ({ cls := "DrawingHouse", name := "judge", desc := "(II)J" } : MethodName) : Cond) ∈ lw_g := lw_gi (lw_c9 (List.mem_of_getElem? (i := 82) rfl)) rfl
theorem wm_2003 : (Cond.instanceMethod ({ cls := "DrawingHouse", name := "judge", desc := "(II)J" } : MethodName) : Cond) ∈ lw_g := lw_gi (lw_c9 (List.mem_of_getElem? (i := 83) rfl)) rfl
theorem wm_2004 : (Cond.selects "DrawingHouse" ({ cls := "DrawingHouse", name := "judge", desc := "(II)J" } : MethodName) ({ cls := "DrawingHouse", name := "judge", desc := "(II)J" } : MethodName) : Cond) ∈ lw_g := lw_gi (lw_c9 (List.mem_of_getElem? (i := 84) rfl)) rfl
theorem wm_3649 : (Cond.methodLink "DrawingHouseLaw" (86 : Nat) ({ cls := "DrawingHouseModel", name := "at", desc := "(IIII)I" } : MethodName) : Cond) ∈ lw_g := lw_gi (lw_c16 (List.mem_of_getElem? (i := 49) rfl)) rfl
theorem wm_3650 : (Cond.instanceMethod ({ cls := "DrawingHouseModel", name := "at", desc := "(IIII)I" } : MethodName) : Cond) ∈ lw_g := lw_gi (lw_c16 (List.mem_of_getElem? (i := 50) rfl)) rfl
theorem wm_3651 : (Cond.selects "DrawingHouseModel" ({ cls := "DrawingHouseModel", name := "at", desc := "(IIII)I" } : MethodName) ({ cls := "DrawingHouseModel", name := "at", desc := "(IIII)I" } : MethodName) : Cond) ∈ lw_g := lw_gi (lw_c16 (List.mem_of_getElem? (i := 51) rfl)) rfl
theorem wm_3654 : (Cond.methodLink "DrawingHouseLaw" (90 : Nat) ({ cls := "DrawingHouseModel", name := "told", desc := "(III)I" } : MethodName) : Cond) ∈ lw_g := lw_gi (lw_c16 (List.mem_of_getElem? (i := 54) rfl)) rfl
theorem wm_3655 : (Cond.instanceMethod ({ cls := "DrawingHouseModel", name := "told", desc := "(III)I" } : MethodName) : Cond) ∈ lw_g := lw_gi (lw_c16 (List.mem_of_getElem? (i := 55) rfl)) rfl
theorem wm_3656 : (Cond.selects "DrawingHouseModel" ({ cls := "DrawingHouseModel", name := "told", desc := "(III)I" } : MethodName) ({ cls := "DrawingHouseModel", name := "told", desc := "(III)I" } : MethodName) : Cond) ∈ lw_g := lw_gi (lw_c16 (List.mem_of_getElem? (i := 56) rfl)) rfl
theorem wm_3658 : (Cond.methodLink "DrawingHouseLaw" (95 : Nat) ({ cls := "DrawingHouseModel", name := "put", desc := "(IIIII)Z" } : MethodName) : Cond) ∈ lw_g := lw_gi (lw_c16 (List.mem_of_getElem? (i := 58) rfl)) rfl
theorem wm_3659 : (Cond.instanceMethod ({ cls := "DrawingHouseModel", name := "put", desc := "(IIIII)Z" } : MethodName) : Cond) ∈ lw_g := lw_gi (lw_c16 (List.mem_of_getElem? (i := 59) rfl)) rfl
theorem wm_3660 : (Cond.selects "DrawingHouseModel" ({ cls := "DrawingHouseModel", name := "put", desc := "(IIIII)Z" } : MethodName) ({ cls := "DrawingHouseModel", name := "put", desc := "(IIIII)Z" } : MethodName) : Cond) ∈ lw_g := lw_gi (lw_c16 (List.mem_of_getElem? (i := 60) rfl)) rfl
theorem wm_3662 : (Cond.methodLink "DrawingHouseLaw" (99 : Nat) ({ cls := "DrawingHouseModel", name := "route", desc := "(II)I" } : MethodName) : Cond) ∈ lw_g := lw_gi (lw_c16 (List.mem_of_getElem? (i := 62) rfl)) rfl
theorem wm_3663 : (Cond.instanceMethod ({ cls := "DrawingHouseModel", name := "route", desc := "(II)I" } : MethodName) : Cond) ∈ lw_g := lw_gi (lw_c16 (List.mem_of_getElem? (i := 63) rfl)) rfl
theorem wm_3664 : (Cond.selects "DrawingHouseModel" ({ cls := "DrawingHouseModel", name := "route", desc := "(II)I" } : MethodName) ({ cls := "DrawingHouseModel", name := "route", desc := "(II)I" } : MethodName) : Cond) ∈ lw_g := lw_gi (lw_c16 (List.mem_of_getElem? (i := 64) rfl)) rfl
theorem wm_3715 : (Cond.methodLink "DrawingHouseLaw" (103 : Nat) ({ cls := "DrawingHouseModel", name := "label", desc := "(III)I" } : MethodName) : Cond) ∈ lw_g := lw_gi (lw_c16 (List.mem_of_getElem? (i := 115) rfl)) rfl
theorem wm_3716 : (Cond.instanceMethod ({ cls := "DrawingHouseModel", name := "label", desc := "(III)I" } : MethodName) : Cond) ∈ lw_g := lw_gi (lw_c16 (List.mem_of_getElem? (i := 116) rfl)) rfl
theorem wm_3717 : (Cond.selects "DrawingHouseModel" ({ cls := "DrawingHouseModel", name := "label", desc := "(III)I" } : MethodName) ({ cls := "DrawingHouseModel", name := "label", desc := "(III)I" } : MethodName) : Cond) ∈ lw_g := lw_gi (lw_c16 (List.mem_of_getElem? (i := 117) rfl)) rfl
theorem wm_3735 : (Cond.methodLink "DrawingHouseLaw" (108 : Nat) ({ cls := "DrawingHouseModel", name := "judge", desc := "(II)J" } : MethodName) : Cond) ∈ lw_g := lw_gi (lw_c16 (List.mem_of_getElem? (i := 135) rfl)) rfl
theorem wm_3736 : (Cond.instanceMethod ({ cls := "DrawingHouseModel", name := "judge", desc := "(II)J" } : MethodName) : Cond) ∈ lw_g := lw_gi (lw_c16 (List.mem_of_getElem? (i := 136) rfl)) rfl
theorem wm_3737 : (Cond.selects "DrawingHouseModel" ({ cls := "DrawingHouseModel", name := "judge", desc := "(II)J" } : MethodName) ({ cls := "DrawingHouseModel", name := "judge", desc := "(II)J" } : MethodName) : Cond) ∈ lw_g := lw_gi (lw_c16 (List.mem_of_getElem? (i := 137) rfl)) rfl
abbrev b_Ho_at : ByteArray := prog_1_method_18_code
def y_Ho_at : MethodName := ⟨"DrawingHouse", "at", "(IIII)I"⟩
abbrev z_Ho_at : List Cond := Cond.code y_Ho_at b_Ho_at 5 (some .int) :: lw_g
theorem d_Ho_at_0 : decode b_Ho_at 0 = .ok (.iload_n 1, 1) := by decide +kernel
theorem d_Ho_at_1 : decode b_Ho_at 1 = .ok (.invokestatic 115, 3) := by decide +kernel
theorem d_Ho_at_4 : decode b_Ho_at 4 = .ok (.ifCond .eq 19, 3) := by decide +kernel
theorem d_Ho_at_7 : decode b_Ho_at 7 = .ok (.aload_n 0, 1) := by decide +kernel
theorem d_Ho_at_8 : decode b_Ho_at 8 = .ok (.getfield 31, 3) := by decide +kernel
theorem d_Ho_at_11 : decode b_Ho_at 11 = .ok (.iload_n 1, 1) := by decide +kernel
theorem d_Ho_at_12 : decode b_Ho_at 12 = .ok (.aaload, 1) := by decide +kernel
theorem d_Ho_at_13 : decode b_Ho_at 13 = .ok (.iload_n 2, 1) := by decide +kernel
theorem d_Ho_at_14 : decode b_Ho_at 14 = .ok (.iload_n 3, 1) := by decide +kernel
theorem d_Ho_at_15 : decode b_Ho_at 15 = .ok (.iload 4, 2) := by decide +kernel
theorem d_Ho_at_17 : decode b_Ho_at 17 = .ok (.invokevirtual 312, 3) := by decide +kernel
theorem d_Ho_at_20 : decode b_Ho_at 20 = .ok (.goto 6, 3) := by decide +kernel
theorem d_Ho_at_23 : decode b_Ho_at 23 = .ok (.ldc_w 315, 3) := by decide +kernel
theorem d_Ho_at_26 : decode b_Ho_at 26 = .ok (.ireturn, 1) := by decide +kernel
abbrev b_Mo_at2 : ByteArray := prog_15_method_108_code
def y_Mo_at2 : MethodName := ⟨"DrawingHouseModel", "at", "(IIII)I"⟩
abbrev z_Mo_at2 : List Cond := Cond.code y_Mo_at2 b_Mo_at2 6 (some .int) :: lw_g
theorem d_Mo_at2_0 : decode b_Mo_at2 0 = .ok (.iload_n 1, 1) := by decide +kernel
theorem d_Mo_at2_1 : decode b_Mo_at2 1 = .ok (.invokestatic 521, 3) := by decide +kernel
theorem d_Mo_at2_4 : decode b_Mo_at2 4 = .ok (.ifCond .eq 12, 3) := by decide +kernel
theorem d_Mo_at2_7 : decode b_Mo_at2 7 = .ok (.aload_n 0, 1) := by decide +kernel
theorem d_Mo_at2_8 : decode b_Mo_at2 8 = .ok (.getfield 120, 3) := by decide +kernel
theorem d_Mo_at2_11 : decode b_Mo_at2 11 = .ok (.iload_n 1, 1) := by decide +kernel
theorem d_Mo_at2_12 : decode b_Mo_at2 12 = .ok (.iaload, 1) := by decide +kernel
theorem d_Mo_at2_13 : decode b_Mo_at2 13 = .ok (.ifCond .ge 7, 3) := by decide +kernel
theorem d_Mo_at2_16 : decode b_Mo_at2 16 = .ok (.ldc_w 775, 3) := by decide +kernel
theorem d_Mo_at2_19 : decode b_Mo_at2 19 = .ok (.ireturn, 1) := by decide +kernel
abbrev b_Dr_coordinate : ByteArray := prog_2_method_5_code
def y_Dr_coordinate : MethodName := ⟨"DrawingHouse$Drawing", "coordinate", "(III)I"⟩
abbrev z_Dr_coordinate : List Cond := Cond.code y_Dr_coordinate b_Dr_coordinate 4 (some .int) :: lw_g
theorem d_Dr_coordinate_0 : decode b_Dr_coordinate 0 = .ok (.aload_n 0, 1) := by decide +kernel
theorem d_Dr_coordinate_1 : decode b_Dr_coordinate 1 = .ok (.getfield 9, 3) := by decide +kernel
theorem d_Dr_coordinate_4 : decode b_Dr_coordinate 4 = .ok (.iconst (-1), 1) := by decide +kernel
theorem d_Dr_coordinate_5 : decode b_Dr_coordinate 5 = .ok (.if_icmp .ne 6, 3) := by decide +kernel
theorem d_Dr_coordinate_8 : decode b_Dr_coordinate 8 = .ok (.ldc 84, 2) := by decide +kernel
theorem d_Dr_coordinate_10 : decode b_Dr_coordinate 10 = .ok (.ireturn, 1) := by decide +kernel
abbrev b_Ho_told : ByteArray := prog_1_method_19_code
def y_Ho_told : MethodName := ⟨"DrawingHouse", "told", "(III)I"⟩
abbrev z_Ho_told : List Cond := Cond.code y_Ho_told b_Ho_told 4 (some .int) :: lw_g
theorem d_Ho_told_0 : decode b_Ho_told 0 = .ok (.iload_n 1, 1) := by decide +kernel
theorem d_Ho_told_1 : decode b_Ho_told 1 = .ok (.invokestatic 115, 3) := by decide +kernel
theorem d_Ho_told_4 : decode b_Ho_told 4 = .ok (.ifCond .eq 17, 3) := by decide +kernel
theorem d_Ho_told_7 : decode b_Ho_told 7 = .ok (.aload_n 0, 1) := by decide +kernel
theorem d_Ho_told_8 : decode b_Ho_told 8 = .ok (.getfield 31, 3) := by decide +kernel
theorem d_Ho_told_11 : decode b_Ho_told 11 = .ok (.iload_n 1, 1) := by decide +kernel
theorem d_Ho_told_12 : decode b_Ho_told 12 = .ok (.aaload, 1) := by decide +kernel
theorem d_Ho_told_13 : decode b_Ho_told 13 = .ok (.iload_n 2, 1) := by decide +kernel
theorem d_Ho_told_14 : decode b_Ho_told 14 = .ok (.iload_n 3, 1) := by decide +kernel
theorem d_Ho_told_15 : decode b_Ho_told 15 = .ok (.invokevirtual 316, 3) := by decide +kernel
theorem d_Ho_told_18 : decode b_Ho_told 18 = .ok (.goto 4, 3) := by decide +kernel
theorem d_Ho_told_21 : decode b_Ho_told 21 = .ok (.iconst (-1), 1) := by decide +kernel
theorem d_Ho_told_22 : decode b_Ho_told 22 = .ok (.ireturn, 1) := by decide +kernel
abbrev b_Mo_told : ByteArray := prog_15_method_109_code
def y_Mo_told : MethodName := ⟨"DrawingHouseModel", "told", "(III)I"⟩
abbrev z_Mo_told : List Cond := Cond.code y_Mo_told b_Mo_told 6 (some .int) :: lw_g
theorem d_Mo_told_0 : decode b_Mo_told 0 = .ok (.iload_n 1, 1) := by decide +kernel
theorem d_Mo_told_1 : decode b_Mo_told 1 = .ok (.invokestatic 521, 3) := by decide +kernel
theorem d_Mo_told_4 : decode b_Mo_told 4 = .ok (.ifCond .eq 12, 3) := by decide +kernel
theorem d_Mo_told_7 : decode b_Mo_told 7 = .ok (.aload_n 0, 1) := by decide +kernel
theorem d_Mo_told_8 : decode b_Mo_told 8 = .ok (.getfield 120, 3) := by decide +kernel
theorem d_Mo_told_11 : decode b_Mo_told 11 = .ok (.iload_n 1, 1) := by decide +kernel
theorem d_Mo_told_12 : decode b_Mo_told 12 = .ok (.iaload, 1) := by decide +kernel
theorem d_Mo_told_13 : decode b_Mo_told 13 = .ok (.ifCond .ge 5, 3) := by decide +kernel
theorem d_Mo_told_16 : decode b_Mo_told 16 = .ok (.iconst (-1), 1) := by decide +kernel
theorem d_Mo_told_17 : decode b_Mo_told 17 = .ok (.ireturn, 1) := by decide +kernel
abbrev b_Dr_report : ByteArray := prog_2_method_6_code
def y_Dr_report : MethodName := ⟨"DrawingHouse$Drawing", "report", "(II)I"⟩
abbrev z_Dr_report : List Cond := Cond.code y_Dr_report b_Dr_report 3 (some .int) :: lw_g
theorem d_Dr_report_0 : decode b_Dr_report 0 = .ok (.aload_n 0, 1) := by decide +kernel
theorem d_Dr_report_1 : decode b_Dr_report 1 = .ok (.getfield 9, 3) := by decide +kernel
theorem d_Dr_report_4 : decode b_Dr_report 4 = .ok (.iconst (-1), 1) := by decide +kernel
theorem d_Dr_report_5 : decode b_Dr_report 5 = .ok (.if_icmp .ne 5, 3) := by decide +kernel
theorem d_Dr_report_8 : decode b_Dr_report 8 = .ok (.iconst (-1), 1) := by decide +kernel
theorem d_Dr_report_9 : decode b_Dr_report 9 = .ok (.ireturn, 1) := by decide +kernel
abbrev b_Ho_put : ByteArray := prog_1_method_20_code
def y_Ho_put : MethodName := ⟨"DrawingHouse", "put", "(IIIII)Z"⟩
abbrev z_Ho_put : List Cond := Cond.code y_Ho_put b_Ho_put 6 (some .boolean) :: lw_g
theorem d_Ho_put_0 : decode b_Ho_put 0 = .ok (.iload_n 1, 1) := by decide +kernel
theorem d_Ho_put_1 : decode b_Ho_put 1 = .ok (.invokestatic 115, 3) := by decide +kernel
theorem d_Ho_put_4 : decode b_Ho_put 4 = .ok (.ifCond .eq 25, 3) := by decide +kernel
theorem d_Ho_put_7 : decode b_Ho_put 7 = .ok (.aload_n 0, 1) := by decide +kernel
theorem d_Ho_put_8 : decode b_Ho_put 8 = .ok (.getfield 31, 3) := by decide +kernel
theorem d_Ho_put_11 : decode b_Ho_put 11 = .ok (.iload_n 1, 1) := by decide +kernel
theorem d_Ho_put_12 : decode b_Ho_put 12 = .ok (.aaload, 1) := by decide +kernel
theorem d_Ho_put_13 : decode b_Ho_put 13 = .ok (.iload_n 2, 1) := by decide +kernel
theorem d_Ho_put_14 : decode b_Ho_put 14 = .ok (.iload_n 3, 1) := by decide +kernel
theorem d_Ho_put_15 : decode b_Ho_put 15 = .ok (.iload 4, 2) := by decide +kernel
theorem d_Ho_put_17 : decode b_Ho_put 17 = .ok (.iload 5, 2) := by decide +kernel
theorem d_Ho_put_19 : decode b_Ho_put 19 = .ok (.invokevirtual 319, 3) := by decide +kernel
theorem d_Ho_put_22 : decode b_Ho_put 22 = .ok (.ifCond .eq 7, 3) := by decide +kernel
theorem d_Ho_put_29 : decode b_Ho_put 29 = .ok (.iconst 0, 1) := by decide +kernel
theorem d_Ho_put_30 : decode b_Ho_put 30 = .ok (.ireturn, 1) := by decide +kernel
abbrev b_Mo_put : ByteArray := prog_15_method_110_code
def y_Mo_put : MethodName := ⟨"DrawingHouseModel", "put", "(IIIII)Z"⟩
abbrev z_Mo_put : List Cond := Cond.code y_Mo_put b_Mo_put 6 (some .boolean) :: lw_g
theorem d_Mo_put_0 : decode b_Mo_put 0 = .ok (.iload_n 1, 1) := by decide +kernel
theorem d_Mo_put_1 : decode b_Mo_put 1 = .ok (.invokestatic 521, 3) := by decide +kernel
theorem d_Mo_put_4 : decode b_Mo_put 4 = .ok (.ifCond .eq 40, 3) := by decide +kernel
theorem d_Mo_put_7 : decode b_Mo_put 7 = .ok (.aload_n 0, 1) := by decide +kernel
theorem d_Mo_put_8 : decode b_Mo_put 8 = .ok (.getfield 120, 3) := by decide +kernel
theorem d_Mo_put_11 : decode b_Mo_put 11 = .ok (.iload_n 1, 1) := by decide +kernel
theorem d_Mo_put_12 : decode b_Mo_put 12 = .ok (.iaload, 1) := by decide +kernel
theorem d_Mo_put_13 : decode b_Mo_put 13 = .ok (.ifCond .lt 31, 3) := by decide +kernel
theorem d_Mo_put_44 : decode b_Mo_put 44 = .ok (.iconst 0, 1) := by decide +kernel
theorem d_Mo_put_45 : decode b_Mo_put 45 = .ok (.ireturn, 1) := by decide +kernel
abbrev b_Dr_move : ByteArray := prog_2_method_9_code
def y_Dr_move : MethodName := ⟨"DrawingHouse$Drawing", "move", "(IIII)Z"⟩
abbrev z_Dr_move : List Cond := Cond.code y_Dr_move b_Dr_move 5 (some .boolean) :: lw_g
theorem d_Dr_move_0 : decode b_Dr_move 0 = .ok (.aload_n 0, 1) := by decide +kernel
theorem d_Dr_move_1 : decode b_Dr_move 1 = .ok (.getfield 9, 3) := by decide +kernel
theorem d_Dr_move_4 : decode b_Dr_move 4 = .ok (.iconst (-1), 1) := by decide +kernel
theorem d_Dr_move_5 : decode b_Dr_move 5 = .ok (.if_icmp .eq 29, 3) := by decide +kernel
theorem d_Dr_move_34 : decode b_Dr_move 34 = .ok (.iconst 0, 1) := by decide +kernel
theorem d_Dr_move_35 : decode b_Dr_move 35 = .ok (.ireturn, 1) := by decide +kernel
abbrev b_Ho_hasDrawing : ByteArray := prog_1_method_31_code
def y_Ho_hasDrawing : MethodName := ⟨"DrawingHouse", "hasDrawing", "(I)Z"⟩
abbrev z_Ho_hasDrawing : List Cond := Cond.code y_Ho_hasDrawing b_Ho_hasDrawing 2 (some .boolean) :: lw_g
theorem d_Ho_hasDrawing_0 : decode b_Ho_hasDrawing 0 = .ok (.iload_n 1, 1) := by decide +kernel
theorem d_Ho_hasDrawing_1 : decode b_Ho_hasDrawing 1 = .ok (.invokestatic 115, 3) := by decide +kernel
theorem d_Ho_hasDrawing_4 : decode b_Ho_hasDrawing 4 = .ok (.ifCond .eq 20, 3) := by decide +kernel
theorem d_Ho_hasDrawing_7 : decode b_Ho_hasDrawing 7 = .ok (.aload_n 0, 1) := by decide +kernel
theorem d_Ho_hasDrawing_8 : decode b_Ho_hasDrawing 8 = .ok (.getfield 31, 3) := by decide +kernel
theorem d_Ho_hasDrawing_11 : decode b_Ho_hasDrawing 11 = .ok (.iload_n 1, 1) := by decide +kernel
theorem d_Ho_hasDrawing_12 : decode b_Ho_hasDrawing 12 = .ok (.aaload, 1) := by decide +kernel
theorem d_Ho_hasDrawing_13 : decode b_Ho_hasDrawing 13 = .ok (.getfield 309, 3) := by decide +kernel
theorem d_Ho_hasDrawing_16 : decode b_Ho_hasDrawing 16 = .ok (.iconst (-1), 1) := by decide +kernel
theorem d_Ho_hasDrawing_17 : decode b_Ho_hasDrawing 17 = .ok (.if_icmp .eq 7, 3) := by decide +kernel
theorem d_Ho_hasDrawing_24 : decode b_Ho_hasDrawing 24 = .ok (.iconst 0, 1) := by decide +kernel
theorem d_Ho_hasDrawing_25 : decode b_Ho_hasDrawing 25 = .ok (.ireturn, 1) := by decide +kernel
abbrev b_Ho_route : ByteArray := prog_1_method_21_code
def y_Ho_route : MethodName := ⟨"DrawingHouse", "route", "(II)I"⟩
abbrev z_Ho_route : List Cond := Cond.code y_Ho_route b_Ho_route 3 (some .int) :: lw_g
theorem d_Ho_route_0 : decode b_Ho_route 0 = .ok (.aload_n 0, 1) := by decide +kernel
theorem d_Ho_route_1 : decode b_Ho_route 1 = .ok (.iload_n 1, 1) := by decide +kernel
theorem d_Ho_route_2 : decode b_Ho_route 2 = .ok (.invokevirtual 323, 3) := by decide +kernel
theorem d_Ho_route_5 : decode b_Ho_route 5 = .ok (.ifCond .eq 16, 3) := by decide +kernel
theorem d_Ho_route_21 : decode b_Ho_route 21 = .ok (.iconst (-1), 1) := by decide +kernel
theorem d_Ho_route_22 : decode b_Ho_route 22 = .ok (.ireturn, 1) := by decide +kernel
abbrev b_Mo_isDrawn : ByteArray := prog_15_method_180_code
def y_Mo_isDrawn : MethodName := ⟨"DrawingHouseModel", "isDrawn", "(I)Z"⟩
abbrev z_Mo_isDrawn : List Cond := Cond.code y_Mo_isDrawn b_Mo_isDrawn 2 (some .boolean) :: lw_g
theorem d_Mo_isDrawn_0 : decode b_Mo_isDrawn 0 = .ok (.iload_n 1, 1) := by decide +kernel
theorem d_Mo_isDrawn_1 : decode b_Mo_isDrawn 1 = .ok (.invokestatic 521, 3) := by decide +kernel
theorem d_Mo_isDrawn_4 : decode b_Mo_isDrawn 4 = .ok (.ifCond .eq 12, 3) := by decide +kernel
theorem d_Mo_isDrawn_7 : decode b_Mo_isDrawn 7 = .ok (.aload_n 0, 1) := by decide +kernel
theorem d_Mo_isDrawn_8 : decode b_Mo_isDrawn 8 = .ok (.getfield 120, 3) := by decide +kernel
theorem d_Mo_isDrawn_11 : decode b_Mo_isDrawn 11 = .ok (.iload_n 1, 1) := by decide +kernel
theorem d_Mo_isDrawn_12 : decode b_Mo_isDrawn 12 = .ok (.iaload, 1) := by decide +kernel
theorem d_Mo_isDrawn_13 : decode b_Mo_isDrawn 13 = .ok (.ifCond .ge 5, 3) := by decide +kernel
theorem d_Mo_isDrawn_16 : decode b_Mo_isDrawn 16 = .ok (.iconst 0, 1) := by decide +kernel
theorem d_Mo_isDrawn_17 : decode b_Mo_isDrawn 17 = .ok (.ireturn, 1) := by decide +kernel
abbrev b_Mo_route : ByteArray := prog_15_method_187_code
def y_Mo_route : MethodName := ⟨"DrawingHouseModel", "route", "(II)I"⟩
abbrev z_Mo_route : List Cond := Cond.code y_Mo_route b_Mo_route 7 (some .int) :: lw_g
theorem d_Mo_route_0 : decode b_Mo_route 0 = .ok (.aload_n 0, 1) := by decide +kernel
theorem d_Mo_route_1 : decode b_Mo_route 1 = .ok (.iload_n 1, 1) := by decide +kernel
theorem d_Mo_route_2 : decode b_Mo_route 2 = .ok (.invokevirtual 1032, 3) := by decide +kernel
theorem d_Mo_route_5 : decode b_Mo_route 5 = .ok (.ifCond .eq 17, 3) := by decide +kernel
theorem d_Mo_route_22 : decode b_Mo_route 22 = .ok (.iconst (-1), 1) := by decide +kernel
theorem d_Mo_route_23 : decode b_Mo_route 23 = .ok (.ireturn, 1) := by decide +kernel
abbrev b_Ho_label : ByteArray := prog_1_method_22_code
def y_Ho_label : MethodName := ⟨"DrawingHouse", "label", "(III)I"⟩
abbrev z_Ho_label : List Cond := Cond.code y_Ho_label b_Ho_label 4 (some .int) :: lw_g
theorem d_Ho_label_0 : decode b_Ho_label 0 = .ok (.aload_n 0, 1) := by decide +kernel
theorem d_Ho_label_1 : decode b_Ho_label 1 = .ok (.iload_n 1, 1) := by decide +kernel
theorem d_Ho_label_2 : decode b_Ho_label 2 = .ok (.invokevirtual 323, 3) := by decide +kernel
theorem d_Ho_label_5 : decode b_Ho_label 5 = .ok (.ifCond .eq 25, 3) := by decide +kernel
theorem d_Ho_label_30 : decode b_Ho_label 30 = .ok (.ldc_w 315, 3) := by decide +kernel
theorem d_Ho_label_33 : decode b_Ho_label 33 = .ok (.ireturn, 1) := by decide +kernel
abbrev b_Mo_label : ByteArray := prog_15_method_196_code
def y_Mo_label : MethodName := ⟨"DrawingHouseModel", "label", "(III)I"⟩
abbrev z_Mo_label : List Cond := Cond.code y_Mo_label b_Mo_label 5 (some .int) :: lw_g
theorem d_Mo_label_0 : decode b_Mo_label 0 = .ok (.aload_n 0, 1) := by decide +kernel
theorem d_Mo_label_1 : decode b_Mo_label 1 = .ok (.iload_n 1, 1) := by decide +kernel
theorem d_Mo_label_2 : decode b_Mo_label 2 = .ok (.invokevirtual 1032, 3) := by decide +kernel
theorem d_Mo_label_5 : decode b_Mo_label 5 = .ok (.ifCond .eq 35, 3) := by decide +kernel
theorem d_Mo_label_40 : decode b_Mo_label 40 = .ok (.ldc_w 775, 3) := by decide +kernel
theorem d_Mo_label_43 : decode b_Mo_label 43 = .ok (.ireturn, 1) := by decide +kernel
abbrev b_Ho_judge : ByteArray := prog_1_method_23_code
def y_Ho_judge : MethodName := ⟨"DrawingHouse", "judge", "(II)J"⟩
abbrev z_Ho_judge : List Cond := Cond.code y_Ho_judge b_Ho_judge 3 (some .long) :: lw_g
theorem d_Ho_judge_0 : decode b_Ho_judge 0 = .ok (.aload_n 0, 1) := by decide +kernel
theorem d_Ho_judge_1 : decode b_Ho_judge 1 = .ok (.iload_n 1, 1) := by decide +kernel
theorem d_Ho_judge_2 : decode b_Ho_judge 2 = .ok (.invokevirtual 323, 3) := by decide +kernel
theorem d_Ho_judge_5 : decode b_Ho_judge 5 = .ok (.ifCond .eq 16, 3) := by decide +kernel
theorem d_Ho_judge_21 : decode b_Ho_judge 21 = .ok (.ldc2_w 340, 3) := by decide +kernel
theorem d_Ho_judge_24 : decode b_Ho_judge 24 = .ok (.lreturn, 1) := by decide +kernel
abbrev b_Mo_judge : ByteArray := prog_15_method_205_code
def y_Mo_judge : MethodName := ⟨"DrawingHouseModel", "judge", "(II)J"⟩
abbrev z_Mo_judge : List Cond := Cond.code y_Mo_judge b_Mo_judge 9 (some .long) :: lw_g
theorem d_Mo_judge_0 : decode b_Mo_judge 0 = .ok (.aload_n 0, 1) := by decide +kernel
theorem d_Mo_judge_1 : decode b_Mo_judge 1 = .ok (.iload_n 1, 1) := by decide +kernel
theorem d_Mo_judge_2 : decode b_Mo_judge 2 = .ok (.invokevirtual 1032, 3) := by decide +kernel
theorem d_Mo_judge_5 : decode b_Mo_judge 5 = .ok (.ifCond .eq 13, 3) := by decide +kernel
theorem d_Mo_judge_18 : decode b_Mo_judge 18 = .ok (.ldc2_w 1007, 3) := by decide +kernel
theorem d_Mo_judge_21 : decode b_Mo_judge 21 = .ok (.lreturn, 1) := by decide +kernel
theorem d_law_law_808 : decode b_law_law 808 = .ok (.aload_n 1, 1) := by decide +kernel
theorem d_law_law_809 : decode b_law_law 809 = .ok (.aload_n 0, 1) := by decide +kernel
theorem d_law_law_810 : decode b_law_law 810 = .ok (.iload_n 3, 1) := by decide +kernel
theorem d_law_law_811 : decode b_law_law 811 = .ok (.iconst 1, 1) := by decide +kernel
theorem d_law_law_812 : decode b_law_law 812 = .ok (.iadd, 1) := by decide +kernel
theorem d_law_law_813 : decode b_law_law 813 = .ok (.iaload, 1) := by decide +kernel
theorem d_law_law_814 : decode b_law_law 814 = .ok (.aload_n 0, 1) := by decide +kernel
theorem d_law_law_815 : decode b_law_law 815 = .ok (.iload_n 3, 1) := by decide +kernel
theorem d_law_law_816 : decode b_law_law 816 = .ok (.iconst 2, 1) := by decide +kernel
theorem d_law_law_817 : decode b_law_law 817 = .ok (.iadd, 1) := by decide +kernel
theorem d_law_law_818 : decode b_law_law 818 = .ok (.iaload, 1) := by decide +kernel
theorem d_law_law_819 : decode b_law_law 819 = .ok (.aload_n 0, 1) := by decide +kernel
theorem d_law_law_820 : decode b_law_law 820 = .ok (.iload_n 3, 1) := by decide +kernel
theorem d_law_law_821 : decode b_law_law 821 = .ok (.iconst 3, 1) := by decide +kernel
theorem d_law_law_822 : decode b_law_law 822 = .ok (.iadd, 1) := by decide +kernel
theorem d_law_law_823 : decode b_law_law 823 = .ok (.iaload, 1) := by decide +kernel
theorem d_law_law_824 : decode b_law_law 824 = .ok (.aload_n 0, 1) := by decide +kernel
theorem d_law_law_825 : decode b_law_law 825 = .ok (.iload_n 3, 1) := by decide +kernel
theorem d_law_law_826 : decode b_law_law 826 = .ok (.iconst 4, 1) := by decide +kernel
theorem d_law_law_827 : decode b_law_law 827 = .ok (.iadd, 1) := by decide +kernel
theorem d_law_law_828 : decode b_law_law 828 = .ok (.iaload, 1) := by decide +kernel
theorem d_law_law_829 : decode b_law_law 829 = .ok (.invokevirtual 83, 3) := by decide +kernel
theorem d_law_law_832 : decode b_law_law 832 = .ok (.aload_n 2, 1) := by decide +kernel
theorem d_law_law_833 : decode b_law_law 833 = .ok (.aload_n 0, 1) := by decide +kernel
theorem d_law_law_834 : decode b_law_law 834 = .ok (.iload_n 3, 1) := by decide +kernel
theorem d_law_law_835 : decode b_law_law 835 = .ok (.iconst 1, 1) := by decide +kernel
theorem d_law_law_836 : decode b_law_law 836 = .ok (.iadd, 1) := by decide +kernel
theorem d_law_law_837 : decode b_law_law 837 = .ok (.iaload, 1) := by decide +kernel
theorem d_law_law_838 : decode b_law_law 838 = .ok (.aload_n 0, 1) := by decide +kernel
theorem d_law_law_839 : decode b_law_law 839 = .ok (.iload_n 3, 1) := by decide +kernel
theorem d_law_law_840 : decode b_law_law 840 = .ok (.iconst 2, 1) := by decide +kernel
theorem d_law_law_841 : decode b_law_law 841 = .ok (.iadd, 1) := by decide +kernel
theorem d_law_law_842 : decode b_law_law 842 = .ok (.iaload, 1) := by decide +kernel
theorem d_law_law_843 : decode b_law_law 843 = .ok (.aload_n 0, 1) := by decide +kernel
theorem d_law_law_844 : decode b_law_law 844 = .ok (.iload_n 3, 1) := by decide +kernel
theorem d_law_law_845 : decode b_law_law 845 = .ok (.iconst 3, 1) := by decide +kernel
theorem d_law_law_846 : decode b_law_law 846 = .ok (.iadd, 1) := by decide +kernel
theorem d_law_law_847 : decode b_law_law 847 = .ok (.iaload, 1) := by decide +kernel
theorem d_law_law_848 : decode b_law_law 848 = .ok (.aload_n 0, 1) := by decide +kernel
theorem d_law_law_849 : decode b_law_law 849 = .ok (.iload_n 3, 1) := by decide +kernel
theorem d_law_law_850 : decode b_law_law 850 = .ok (.iconst 4, 1) := by decide +kernel
theorem d_law_law_851 : decode b_law_law 851 = .ok (.iadd, 1) := by decide +kernel
theorem d_law_law_852 : decode b_law_law 852 = .ok (.iaload, 1) := by decide +kernel
theorem d_law_law_853 : decode b_law_law 853 = .ok (.invokevirtual 86, 3) := by decide +kernel
theorem d_law_law_856 : decode b_law_law 856 = .ok (.if_icmp .eq 439, 3) := by decide +kernel
theorem d_law_law_861 : decode b_law_law 861 = .ok (.aload_n 1, 1) := by decide +kernel
theorem d_law_law_862 : decode b_law_law 862 = .ok (.aload_n 0, 1) := by decide +kernel
theorem d_law_law_863 : decode b_law_law 863 = .ok (.iload_n 3, 1) := by decide +kernel
theorem d_law_law_864 : decode b_law_law 864 = .ok (.iconst 1, 1) := by decide +kernel
theorem d_law_law_865 : decode b_law_law 865 = .ok (.iadd, 1) := by decide +kernel
theorem d_law_law_866 : decode b_law_law 866 = .ok (.iaload, 1) := by decide +kernel
theorem d_law_law_867 : decode b_law_law 867 = .ok (.aload_n 0, 1) := by decide +kernel
theorem d_law_law_868 : decode b_law_law 868 = .ok (.iload_n 3, 1) := by decide +kernel
theorem d_law_law_869 : decode b_law_law 869 = .ok (.iconst 2, 1) := by decide +kernel
theorem d_law_law_870 : decode b_law_law 870 = .ok (.iadd, 1) := by decide +kernel
theorem d_law_law_871 : decode b_law_law 871 = .ok (.iaload, 1) := by decide +kernel
theorem d_law_law_872 : decode b_law_law 872 = .ok (.aload_n 0, 1) := by decide +kernel
theorem d_law_law_873 : decode b_law_law 873 = .ok (.iload_n 3, 1) := by decide +kernel
theorem d_law_law_874 : decode b_law_law 874 = .ok (.iconst 3, 1) := by decide +kernel
theorem d_law_law_875 : decode b_law_law 875 = .ok (.iadd, 1) := by decide +kernel
theorem d_law_law_876 : decode b_law_law 876 = .ok (.iaload, 1) := by decide +kernel
theorem d_law_law_877 : decode b_law_law 877 = .ok (.invokevirtual 87, 3) := by decide +kernel
theorem d_law_law_880 : decode b_law_law 880 = .ok (.aload_n 2, 1) := by decide +kernel
theorem d_law_law_881 : decode b_law_law 881 = .ok (.aload_n 0, 1) := by decide +kernel
theorem d_law_law_882 : decode b_law_law 882 = .ok (.iload_n 3, 1) := by decide +kernel
theorem d_law_law_883 : decode b_law_law 883 = .ok (.iconst 1, 1) := by decide +kernel
theorem d_law_law_884 : decode b_law_law 884 = .ok (.iadd, 1) := by decide +kernel
theorem d_law_law_885 : decode b_law_law 885 = .ok (.iaload, 1) := by decide +kernel
theorem d_law_law_886 : decode b_law_law 886 = .ok (.aload_n 0, 1) := by decide +kernel
theorem d_law_law_887 : decode b_law_law 887 = .ok (.iload_n 3, 1) := by decide +kernel
theorem d_law_law_888 : decode b_law_law 888 = .ok (.iconst 2, 1) := by decide +kernel
theorem d_law_law_889 : decode b_law_law 889 = .ok (.iadd, 1) := by decide +kernel
theorem d_law_law_890 : decode b_law_law 890 = .ok (.iaload, 1) := by decide +kernel
theorem d_law_law_891 : decode b_law_law 891 = .ok (.aload_n 0, 1) := by decide +kernel
theorem d_law_law_892 : decode b_law_law 892 = .ok (.iload_n 3, 1) := by decide +kernel
theorem d_law_law_893 : decode b_law_law 893 = .ok (.iconst 3, 1) := by decide +kernel
theorem d_law_law_894 : decode b_law_law 894 = .ok (.iadd, 1) := by decide +kernel
theorem d_law_law_895 : decode b_law_law 895 = .ok (.iaload, 1) := by decide +kernel
theorem d_law_law_896 : decode b_law_law 896 = .ok (.invokevirtual 90, 3) := by decide +kernel
theorem d_law_law_899 : decode b_law_law 899 = .ok (.if_icmp .eq 396, 3) := by decide +kernel
theorem d_law_law_904 : decode b_law_law 904 = .ok (.aload_n 1, 1) := by decide +kernel
theorem d_law_law_905 : decode b_law_law 905 = .ok (.aload_n 0, 1) := by decide +kernel
theorem d_law_law_906 : decode b_law_law 906 = .ok (.iload_n 3, 1) := by decide +kernel
theorem d_law_law_907 : decode b_law_law 907 = .ok (.iconst 1, 1) := by decide +kernel
theorem d_law_law_908 : decode b_law_law 908 = .ok (.iadd, 1) := by decide +kernel
theorem d_law_law_909 : decode b_law_law 909 = .ok (.iaload, 1) := by decide +kernel
theorem d_law_law_910 : decode b_law_law 910 = .ok (.aload_n 0, 1) := by decide +kernel
theorem d_law_law_911 : decode b_law_law 911 = .ok (.iload_n 3, 1) := by decide +kernel
theorem d_law_law_912 : decode b_law_law 912 = .ok (.iconst 2, 1) := by decide +kernel
theorem d_law_law_913 : decode b_law_law 913 = .ok (.iadd, 1) := by decide +kernel
theorem d_law_law_914 : decode b_law_law 914 = .ok (.iaload, 1) := by decide +kernel
theorem d_law_law_915 : decode b_law_law 915 = .ok (.aload_n 0, 1) := by decide +kernel
theorem d_law_law_916 : decode b_law_law 916 = .ok (.iload_n 3, 1) := by decide +kernel
theorem d_law_law_917 : decode b_law_law 917 = .ok (.iconst 3, 1) := by decide +kernel
theorem d_law_law_918 : decode b_law_law 918 = .ok (.iadd, 1) := by decide +kernel
theorem d_law_law_919 : decode b_law_law 919 = .ok (.iaload, 1) := by decide +kernel
theorem d_law_law_920 : decode b_law_law 920 = .ok (.aload_n 0, 1) := by decide +kernel
theorem d_law_law_921 : decode b_law_law 921 = .ok (.iload_n 3, 1) := by decide +kernel
theorem d_law_law_922 : decode b_law_law 922 = .ok (.iconst 4, 1) := by decide +kernel
theorem d_law_law_923 : decode b_law_law 923 = .ok (.iadd, 1) := by decide +kernel
theorem d_law_law_924 : decode b_law_law 924 = .ok (.iaload, 1) := by decide +kernel
theorem d_law_law_925 : decode b_law_law 925 = .ok (.aload_n 0, 1) := by decide +kernel
theorem d_law_law_926 : decode b_law_law 926 = .ok (.iload_n 3, 1) := by decide +kernel
theorem d_law_law_927 : decode b_law_law 927 = .ok (.iconst 5, 1) := by decide +kernel
theorem d_law_law_928 : decode b_law_law 928 = .ok (.iadd, 1) := by decide +kernel
theorem d_law_law_929 : decode b_law_law 929 = .ok (.iaload, 1) := by decide +kernel
theorem d_law_law_930 : decode b_law_law 930 = .ok (.invokevirtual 91, 3) := by decide +kernel
theorem d_law_law_933 : decode b_law_law 933 = .ok (.aload_n 2, 1) := by decide +kernel
theorem d_law_law_934 : decode b_law_law 934 = .ok (.aload_n 0, 1) := by decide +kernel
theorem d_law_law_935 : decode b_law_law 935 = .ok (.iload_n 3, 1) := by decide +kernel
theorem d_law_law_936 : decode b_law_law 936 = .ok (.iconst 1, 1) := by decide +kernel
theorem d_law_law_937 : decode b_law_law 937 = .ok (.iadd, 1) := by decide +kernel
theorem d_law_law_938 : decode b_law_law 938 = .ok (.iaload, 1) := by decide +kernel
theorem d_law_law_939 : decode b_law_law 939 = .ok (.aload_n 0, 1) := by decide +kernel
theorem d_law_law_940 : decode b_law_law 940 = .ok (.iload_n 3, 1) := by decide +kernel
theorem d_law_law_941 : decode b_law_law 941 = .ok (.iconst 2, 1) := by decide +kernel
theorem d_law_law_942 : decode b_law_law 942 = .ok (.iadd, 1) := by decide +kernel
theorem d_law_law_943 : decode b_law_law 943 = .ok (.iaload, 1) := by decide +kernel
theorem d_law_law_944 : decode b_law_law 944 = .ok (.aload_n 0, 1) := by decide +kernel
theorem d_law_law_945 : decode b_law_law 945 = .ok (.iload_n 3, 1) := by decide +kernel
theorem d_law_law_946 : decode b_law_law 946 = .ok (.iconst 3, 1) := by decide +kernel
theorem d_law_law_947 : decode b_law_law 947 = .ok (.iadd, 1) := by decide +kernel
theorem d_law_law_948 : decode b_law_law 948 = .ok (.iaload, 1) := by decide +kernel
theorem d_law_law_949 : decode b_law_law 949 = .ok (.aload_n 0, 1) := by decide +kernel
theorem d_law_law_950 : decode b_law_law 950 = .ok (.iload_n 3, 1) := by decide +kernel
theorem d_law_law_951 : decode b_law_law 951 = .ok (.iconst 4, 1) := by decide +kernel
theorem d_law_law_952 : decode b_law_law 952 = .ok (.iadd, 1) := by decide +kernel
theorem d_law_law_953 : decode b_law_law 953 = .ok (.iaload, 1) := by decide +kernel
theorem d_law_law_954 : decode b_law_law 954 = .ok (.aload_n 0, 1) := by decide +kernel
theorem d_law_law_955 : decode b_law_law 955 = .ok (.iload_n 3, 1) := by decide +kernel
theorem d_law_law_956 : decode b_law_law 956 = .ok (.iconst 5, 1) := by decide +kernel
theorem d_law_law_957 : decode b_law_law 957 = .ok (.iadd, 1) := by decide +kernel
theorem d_law_law_958 : decode b_law_law 958 = .ok (.iaload, 1) := by decide +kernel
theorem d_law_law_959 : decode b_law_law 959 = .ok (.invokevirtual 95, 3) := by decide +kernel
theorem d_law_law_962 : decode b_law_law 962 = .ok (.if_icmp .eq 333, 3) := by decide +kernel
theorem d_law_law_967 : decode b_law_law 967 = .ok (.aload_n 1, 1) := by decide +kernel
theorem d_law_law_968 : decode b_law_law 968 = .ok (.aload_n 0, 1) := by decide +kernel
theorem d_law_law_969 : decode b_law_law 969 = .ok (.iload_n 3, 1) := by decide +kernel
theorem d_law_law_970 : decode b_law_law 970 = .ok (.iconst 1, 1) := by decide +kernel
theorem d_law_law_971 : decode b_law_law 971 = .ok (.iadd, 1) := by decide +kernel
theorem d_law_law_972 : decode b_law_law 972 = .ok (.iaload, 1) := by decide +kernel
theorem d_law_law_973 : decode b_law_law 973 = .ok (.aload_n 0, 1) := by decide +kernel
theorem d_law_law_974 : decode b_law_law 974 = .ok (.iload_n 3, 1) := by decide +kernel
theorem d_law_law_975 : decode b_law_law 975 = .ok (.iconst 2, 1) := by decide +kernel
theorem d_law_law_976 : decode b_law_law 976 = .ok (.iadd, 1) := by decide +kernel
theorem d_law_law_977 : decode b_law_law 977 = .ok (.iaload, 1) := by decide +kernel
theorem d_law_law_978 : decode b_law_law 978 = .ok (.invokevirtual 96, 3) := by decide +kernel
theorem d_law_law_981 : decode b_law_law 981 = .ok (.aload_n 2, 1) := by decide +kernel
theorem d_law_law_982 : decode b_law_law 982 = .ok (.aload_n 0, 1) := by decide +kernel
theorem d_law_law_983 : decode b_law_law 983 = .ok (.iload_n 3, 1) := by decide +kernel
theorem d_law_law_984 : decode b_law_law 984 = .ok (.iconst 1, 1) := by decide +kernel
theorem d_law_law_985 : decode b_law_law 985 = .ok (.iadd, 1) := by decide +kernel
theorem d_law_law_986 : decode b_law_law 986 = .ok (.iaload, 1) := by decide +kernel
theorem d_law_law_987 : decode b_law_law 987 = .ok (.aload_n 0, 1) := by decide +kernel
theorem d_law_law_988 : decode b_law_law 988 = .ok (.iload_n 3, 1) := by decide +kernel
theorem d_law_law_989 : decode b_law_law 989 = .ok (.iconst 2, 1) := by decide +kernel
theorem d_law_law_990 : decode b_law_law 990 = .ok (.iadd, 1) := by decide +kernel
theorem d_law_law_991 : decode b_law_law 991 = .ok (.iaload, 1) := by decide +kernel
theorem d_law_law_992 : decode b_law_law 992 = .ok (.invokevirtual 99, 3) := by decide +kernel
theorem d_law_law_995 : decode b_law_law 995 = .ok (.if_icmp .eq 300, 3) := by decide +kernel
theorem d_law_law_1000 : decode b_law_law 1000 = .ok (.aload_n 1, 1) := by decide +kernel
theorem d_law_law_1001 : decode b_law_law 1001 = .ok (.aload_n 0, 1) := by decide +kernel
theorem d_law_law_1002 : decode b_law_law 1002 = .ok (.iload_n 3, 1) := by decide +kernel
theorem d_law_law_1003 : decode b_law_law 1003 = .ok (.iconst 1, 1) := by decide +kernel
theorem d_law_law_1004 : decode b_law_law 1004 = .ok (.iadd, 1) := by decide +kernel
theorem d_law_law_1005 : decode b_law_law 1005 = .ok (.iaload, 1) := by decide +kernel
theorem d_law_law_1006 : decode b_law_law 1006 = .ok (.aload_n 0, 1) := by decide +kernel
theorem d_law_law_1007 : decode b_law_law 1007 = .ok (.iload_n 3, 1) := by decide +kernel
theorem d_law_law_1008 : decode b_law_law 1008 = .ok (.iconst 2, 1) := by decide +kernel
theorem d_law_law_1009 : decode b_law_law 1009 = .ok (.iadd, 1) := by decide +kernel
theorem d_law_law_1010 : decode b_law_law 1010 = .ok (.iaload, 1) := by decide +kernel
theorem d_law_law_1011 : decode b_law_law 1011 = .ok (.aload_n 0, 1) := by decide +kernel
theorem d_law_law_1012 : decode b_law_law 1012 = .ok (.iload_n 3, 1) := by decide +kernel
theorem d_law_law_1013 : decode b_law_law 1013 = .ok (.iconst 3, 1) := by decide +kernel
theorem d_law_law_1014 : decode b_law_law 1014 = .ok (.iadd, 1) := by decide +kernel
theorem d_law_law_1015 : decode b_law_law 1015 = .ok (.iaload, 1) := by decide +kernel
theorem d_law_law_1016 : decode b_law_law 1016 = .ok (.invokevirtual 100, 3) := by decide +kernel
theorem d_law_law_1019 : decode b_law_law 1019 = .ok (.aload_n 2, 1) := by decide +kernel
theorem d_law_law_1020 : decode b_law_law 1020 = .ok (.aload_n 0, 1) := by decide +kernel
theorem d_law_law_1021 : decode b_law_law 1021 = .ok (.iload_n 3, 1) := by decide +kernel
theorem d_law_law_1022 : decode b_law_law 1022 = .ok (.iconst 1, 1) := by decide +kernel
theorem d_law_law_1023 : decode b_law_law 1023 = .ok (.iadd, 1) := by decide +kernel
theorem d_law_law_1024 : decode b_law_law 1024 = .ok (.iaload, 1) := by decide +kernel
theorem d_law_law_1025 : decode b_law_law 1025 = .ok (.aload_n 0, 1) := by decide +kernel
theorem d_law_law_1026 : decode b_law_law 1026 = .ok (.iload_n 3, 1) := by decide +kernel
theorem d_law_law_1027 : decode b_law_law 1027 = .ok (.iconst 2, 1) := by decide +kernel
theorem d_law_law_1028 : decode b_law_law 1028 = .ok (.iadd, 1) := by decide +kernel
theorem d_law_law_1029 : decode b_law_law 1029 = .ok (.iaload, 1) := by decide +kernel
theorem d_law_law_1030 : decode b_law_law 1030 = .ok (.aload_n 0, 1) := by decide +kernel
theorem d_law_law_1031 : decode b_law_law 1031 = .ok (.iload_n 3, 1) := by decide +kernel
theorem d_law_law_1032 : decode b_law_law 1032 = .ok (.iconst 3, 1) := by decide +kernel
theorem d_law_law_1033 : decode b_law_law 1033 = .ok (.iadd, 1) := by decide +kernel
theorem d_law_law_1034 : decode b_law_law 1034 = .ok (.iaload, 1) := by decide +kernel
theorem d_law_law_1035 : decode b_law_law 1035 = .ok (.invokevirtual 103, 3) := by decide +kernel
theorem d_law_law_1038 : decode b_law_law 1038 = .ok (.if_icmp .eq 257, 3) := by decide +kernel
theorem d_law_law_1043 : decode b_law_law 1043 = .ok (.aload_n 1, 1) := by decide +kernel
theorem d_law_law_1044 : decode b_law_law 1044 = .ok (.aload_n 0, 1) := by decide +kernel
theorem d_law_law_1045 : decode b_law_law 1045 = .ok (.iload_n 3, 1) := by decide +kernel
theorem d_law_law_1046 : decode b_law_law 1046 = .ok (.iconst 1, 1) := by decide +kernel
theorem d_law_law_1047 : decode b_law_law 1047 = .ok (.iadd, 1) := by decide +kernel
theorem d_law_law_1048 : decode b_law_law 1048 = .ok (.iaload, 1) := by decide +kernel
theorem d_law_law_1049 : decode b_law_law 1049 = .ok (.aload_n 0, 1) := by decide +kernel
theorem d_law_law_1050 : decode b_law_law 1050 = .ok (.iload_n 3, 1) := by decide +kernel
theorem d_law_law_1051 : decode b_law_law 1051 = .ok (.iconst 2, 1) := by decide +kernel
theorem d_law_law_1052 : decode b_law_law 1052 = .ok (.iadd, 1) := by decide +kernel
theorem d_law_law_1053 : decode b_law_law 1053 = .ok (.iaload, 1) := by decide +kernel
theorem d_law_law_1054 : decode b_law_law 1054 = .ok (.invokevirtual 104, 3) := by decide +kernel
theorem d_law_law_1057 : decode b_law_law 1057 = .ok (.aload_n 2, 1) := by decide +kernel
theorem d_law_law_1058 : decode b_law_law 1058 = .ok (.aload_n 0, 1) := by decide +kernel
theorem d_law_law_1059 : decode b_law_law 1059 = .ok (.iload_n 3, 1) := by decide +kernel
theorem d_law_law_1060 : decode b_law_law 1060 = .ok (.iconst 1, 1) := by decide +kernel
theorem d_law_law_1061 : decode b_law_law 1061 = .ok (.iadd, 1) := by decide +kernel
theorem d_law_law_1062 : decode b_law_law 1062 = .ok (.iaload, 1) := by decide +kernel
theorem d_law_law_1063 : decode b_law_law 1063 = .ok (.aload_n 0, 1) := by decide +kernel
theorem d_law_law_1064 : decode b_law_law 1064 = .ok (.iload_n 3, 1) := by decide +kernel
theorem d_law_law_1065 : decode b_law_law 1065 = .ok (.iconst 2, 1) := by decide +kernel
theorem d_law_law_1066 : decode b_law_law 1066 = .ok (.iadd, 1) := by decide +kernel
theorem d_law_law_1067 : decode b_law_law 1067 = .ok (.iaload, 1) := by decide +kernel
theorem d_law_law_1068 : decode b_law_law 1068 = .ok (.invokevirtual 108, 3) := by decide +kernel
theorem d_law_law_1071 : decode b_law_law 1071 = .ok (.lcmp, 1) := by decide +kernel
theorem d_law_law_1072 : decode b_law_law 1072 = .ok (.ifCond .eq 223, 3) := by decide +kernel
set_option maxRecDepth 100000 in
set_option maxHeartbeats 4000000 in
/-- DrawingHouse.at(IIII)I -/
theorem c_Ho_at_z1 (l : Launch) (D : va_G) (kA : Nat → ClassId) (a0 : Nat) (v1 : Int32) (v2 : Int32) (v3 : Int32) (v4 : Int32) (hg : sp_Ho_isPlace v1 = 0) (hgM : sp_Mo_isPlace v1 = 0) : Ci l y_Ho_at z_Ho_at { frames := 1, cells := 0, slots := 0, locals := 20 } D classes (TY kA) [.ref a0, .int v1, .int v2, .int v3, .int v4] [] (fun r (_ : List va_W) => r = -2147483648) (fun u => u) 0 0 := by
  intro sz
  refine k_met (cc := b_Ho_at) (maxL := 5) (ret := (some .int)) (by decide) rfl (Nat.le_of_ble_eq_true rfl) (fun p e s m below meth c ls X hl hB => ?_)
  obtain ⟨hsz, hP, hK, hD0, hN⟩ := hB
  subst hsz
  have hD := hD0.self (sz := s.heap.size)
  generalize hAe : va_A (cat []) s.heap.size = A at hD ⊢
  have hA : ∀ q : Nat, s.heap.size ≤ q → A q := fun q h => by rw [← hAe]; exact Or.inr h
  have hS : va_S A s.heap s.heap [] := va_S.rf
  obtain ⟨hx, hb, hml, hown, hts, hr, hlk, hnm⟩ := id X
  have hl : lv_has ls 5 [(0, .ref a0), (1, .int v1), (2, .int v2), (3, .int v3), (4, .int v4)] := hl
  have hP : va_P D classes (cat []) s.heap := hP
  have hK : va_K D classes (TY kA) s := hK
  refine lv_iload_n (pc := 0) hx hb d_Ho_at_0 rfl (lv_at hl 1 rfl) ?_
  refine k_goI (gr := []) (k_rS (pc := 1) (As := [.int v1]) (rest := []) X (c_Ho_isPlace l D kA v1 s.heap.size) rfl wm_633 wm_1 wm_631 wm_632 1 (by decide +kernel) ⟨Nat.le_of_ble_eq_true rfl, Nat.le_of_ble_eq_true rfl⟩ rfl rfl (k_pre hN hK hP hD [] [] 0 rfl (by decide) rfl) rfl hl.1 rfl (Nat.le_of_ble_eq_true rfl) d_Ho_at_1 ⟨Nat.le_of_ble_eq_true rfl, Nat.le_of_ble_eq_true rfl⟩) hP hD hS hA [] [] 0 rfl (by decide) rfl rfl (fun r1 u2 H locs hu2 hP hD hS => ?_)
  subst hu2
  have hP : va_P D classes (cat []) H := hP
  have hD : va_D A (cat []) := hD
  refine lv_if_eq (pc := 4) (tgt := 23) hx hb d_Ho_at_4 (by decide) (fun c1 => ?_) (fun c1 => absurd (hg) c1)
  refine lv_ldcw (pc := 23) (v := -2147483648) hx hb hown (hts _ wm_1824) d_Ho_at_23 ?_
  refine W.widen (k := 0) (n := 0) (Nat.le_of_ble_eq_true rfl) (Nat.le_of_ble_eq_true rfl) ?_
  exact W.iret (v := (-2147483648)) hx hb hr (fun t ht hW => ⟨⟨(-2147483648), [], rfl, rfl, by rw [ht]; exact hP, va_K.moved hW.alike hK, hD⟩, hS.F ht⟩) hS.2.2 d_Ho_at_26
set_option maxRecDepth 100000 in
set_option maxHeartbeats 4000000 in
/-- DrawingHouseModel.at(IIII)I -/
theorem c_Mo_at2_z1 (l : Launch) (D : va_G) (kA : Nat → ClassId) (a0 : Nat) (v1 : Int32) (v2 : Int32) (v3 : Int32) (v4 : Int32) (hg : sp_Ho_isPlace v1 = 0) (hgM : sp_Mo_isPlace v1 = 0) : Ci l y_Mo_at2 z_Mo_at2 { frames := 2, cells := 0, slots := 0, locals := 42 } D classes (TY kA) [.ref a0, .int v1, .int v2, .int v3, .int v4] [] (fun r (_ : List va_W) => r = -2147483648) (fun u => u) 0 0 := by
  intro sz
  refine k_met (cc := b_Mo_at2) (maxL := 6) (ret := (some .int)) (by decide) rfl (Nat.le_of_ble_eq_true rfl) (fun p e s m below meth c ls X hl hB => ?_)
  obtain ⟨hsz, hP, hK, hD0, hN⟩ := hB
  subst hsz
  have hD := hD0.self (sz := s.heap.size)
  generalize hAe : va_A (cat []) s.heap.size = A at hD ⊢
  have hA : ∀ q : Nat, s.heap.size ≤ q → A q := fun q h => by rw [← hAe]; exact Or.inr h
  have hS : va_S A s.heap s.heap [] := va_S.rf
  obtain ⟨hx, hb, hml, hown, hts, hr, hlk, hnm⟩ := id X
  have hl : lv_has ls 6 [(0, .ref a0), (1, .int v1), (2, .int v2), (3, .int v3), (4, .int v4)] := hl
  have hP : va_P D classes (cat []) s.heap := hP
  have hK : va_K D classes (TY kA) s := hK
  refine lv_iload_n (pc := 0) hx hb d_Mo_at2_0 rfl (lv_at hl 1 rfl) ?_
  refine k_goI (gr := []) (k_rS (pc := 1) (As := [.int v1]) (rest := []) X (c_Mo_isPlace l D kA v1 s.heap.size) rfl wm_2978 wm_9 wm_2976 wm_2977 1 (by decide +kernel) ⟨Nat.le_of_ble_eq_true rfl, Nat.le_of_ble_eq_true rfl⟩ rfl rfl (k_pre hN hK hP hD [] [] 0 rfl (by decide) rfl) rfl hl.1 rfl (Nat.le_of_ble_eq_true rfl) d_Mo_at2_1 ⟨Nat.le_of_ble_eq_true rfl, Nat.le_of_ble_eq_true rfl⟩) hP hD hS hA [] [] 0 rfl (by decide) rfl rfl (fun r1 u2 H locs hu2 hP hD hS => ?_)
  subst hu2
  have hP : va_P D classes (cat []) H := hP
  have hD : va_D A (cat []) := hD
  refine lv_if_eq (pc := 4) (tgt := 16) hx hb d_Mo_at2_4 (by decide) (fun c1 => ?_) (fun c1 => absurd (hgM) c1)
  refine lv_ldcw (pc := 16) (v := -2147483648) hx hb hown (hts _ wm_3653) d_Mo_at2_16 ?_
  refine W.widen (k := 0) (n := 0) (Nat.le_of_ble_eq_true rfl) (Nat.le_of_ble_eq_true rfl) ?_
  exact W.iret (v := (-2147483648)) hx hb hr (fun t ht hW => ⟨⟨(-2147483648), [], rfl, rfl, by rw [ht]; exact hP, va_K.moved hW.alike hK, hD⟩, hS.F ht⟩) hS.2.2 d_Mo_at2_19
set_option maxRecDepth 100000 in
set_option maxHeartbeats 4000000 in
/-- at, a fresh house -/
theorem lf_at_1 {p : Program} {e : Env} {s : State} {m : MethodId} {below : List Frame} {meth : Method} {c : Code} (l : Launch) {b : Nat} {xs : Nat → Int32} (C0 : lw_At p s m meth c b 6 xs) {D : va_G} {kA : Nat → ClassId} (h : Nat) (h2 : Nat) (q : Nat → Nat) (qm : Nat → Nat) (v1 : Int32) (v2 : Int32) (v3 : Int32) (v4 : Int32) (hg : sp_Ho_isPlace v1 = 0) (hgM : sp_Mo_isPlace v1 = 0) (hv1 : xs 1 = v1) (hv2 : xs 2 = v2) (hv3 : xs 3 = v3) (hv4 : xs 4 = v4) {H : Heap} {locs : List Loc} {ls : Array Slot} (hK : va_K D classes (TY kA) s) (hN : nst s) (hP : va_P D classes (cat [[(h, .inr (12, [.ref (q 0), .ref (q 1), .ref (q 2), .ref (q 3), .ref (q 4), .ref (q 5), .ref (q 6), .int 0, .int ((-1)), .ref (q 9), .ref (q 10), .int 0, .int 0, .ref (q 13), .int 0, .int 0, .null, .null, .null, .null, .null]))], [(h2, .inr (13, mF qm x0Mo y0Mo))]]) H) (hD : va_D (fun q : Nat => s.heap.size ≤ q) (cat [[(h, .inr (12, [.ref (q 0), .ref (q 1), .ref (q 2), .ref (q 3), .ref (q 4), .ref (q 5), .ref (q 6), .int 0, .int ((-1)), .ref (q 9), .ref (q 10), .int 0, .int 0, .ref (q 13), .int 0, .int 0, .null, .null, .null, .null, .null]))], [(h2, .inr (13, mF qm x0Mo y0Mo))]])) (hS : va_S (fun q : Nat => s.heap.size ≤ q) s.heap H locs) (hl : lv_has ls 4 [(3, .int 0), (2, .ref h2), (1, .ref h), (0, .ref b)]) : W p l e room_1 s m #[Value.ref b] below meth c H locs 368 365796 (lw_Z below #[Value.ref b] s) (F0 m 808 ls []) := by
  obtain ⟨hx, hb, hr, hml, hown, hts0, hX, hbl, hlocks, hgv⟩ := id C0
  have hts : ∀ w ∈ lw_g, w.before #[Value.ref b] s = true := fun w h => hts0 w (lw_gt h)
  have X : cx p s m #[Value.ref b] meth c b_law_law 4 ret "DrawingHouseLaw" meth.name := ⟨hx, hb, hml, hown, hts, hr, hlocks, rfl⟩
  obtain ⟨A, hAe⟩ : ∃ A : Nat → Prop, A = fun q : Nat => s.heap.size ≤ q := ⟨_, rfl⟩
  have hA : ∀ q : Nat, s.heap.size ≤ q → A q := fun q h => by rw [hAe]; exact h
  have hbA : ¬ A b := by rw [hAe]; exact Nat.not_le.mpr hbl
  rw [← hAe] at hD hS
  refine lv_aload_n (pc := 808) hx hb d_law_law_808 rfl (lv_at hl 2 rfl) ?_
  refine lv_aload_n (pc := 809) hx hb d_law_law_809 rfl (lv_at hl 3 rfl) ?_
  refine lv_iload_n (pc := 810) hx hb d_law_law_810 rfl (lv_at hl 0 rfl) ?_
  refine lv_iconst (pc := 811) (v := 1) hx hb d_law_law_811 (by decide) ?_
  refine lv_iadd (pc := 812) hx hb d_law_law_812 ?_
  refine k_cst (v := 1) (by decide) ?_
  refine va_sld (pc := 813) hx hb hX hbl hbA hS (by unfold vp_in; decide) d_law_law_813 ?_
  refine k_cst (v := v1) hv1 ?_
  refine lv_aload_n (pc := 814) hx hb d_law_law_814 rfl (lv_at hl 3 rfl) ?_
  refine lv_iload_n (pc := 815) hx hb d_law_law_815 rfl (lv_at hl 0 rfl) ?_
  refine lv_iconst (pc := 816) (v := 2) hx hb d_law_law_816 (by decide) ?_
  refine lv_iadd (pc := 817) hx hb d_law_law_817 ?_
  refine k_cst (v := 2) (by decide) ?_
  refine va_sld (pc := 818) hx hb hX hbl hbA hS (by unfold vp_in; decide) d_law_law_818 ?_
  refine k_cst (v := v2) hv2 ?_
  refine lv_aload_n (pc := 819) hx hb d_law_law_819 rfl (lv_at hl 3 rfl) ?_
  refine lv_iload_n (pc := 820) hx hb d_law_law_820 rfl (lv_at hl 0 rfl) ?_
  refine lv_iconst (pc := 821) (v := 3) hx hb d_law_law_821 (by decide) ?_
  refine lv_iadd (pc := 822) hx hb d_law_law_822 ?_
  refine k_cst (v := 3) (by decide) ?_
  refine va_sld (pc := 823) hx hb hX hbl hbA hS (by unfold vp_in; decide) d_law_law_823 ?_
  refine k_cst (v := v3) hv3 ?_
  refine lv_aload_n (pc := 824) hx hb d_law_law_824 rfl (lv_at hl 3 rfl) ?_
  refine lv_iload_n (pc := 825) hx hb d_law_law_825 rfl (lv_at hl 0 rfl) ?_
  refine lv_iconst (pc := 826) (v := 4) hx hb d_law_law_826 (by decide) ?_
  refine lv_iadd (pc := 827) hx hb d_law_law_827 ?_
  refine k_cst (v := 4) (by decide) ?_
  refine va_sld (pc := 828) hx hb hX hbl hbA hS (by unfold vp_in; decide) d_law_law_828 ?_
  refine k_cst (v := v4) hv4 ?_
  refine k_goI (gr := [[(h, .inr (12, [.ref (q 0), .ref (q 1), .ref (q 2), .ref (q 3), .ref (q 4), .ref (q 5), .ref (q 6), .int 0, .int ((-1)), .ref (q 9), .ref (q 10), .int 0, .int 0, .ref (q 13), .int 0, .int 0, .null, .null, .null, .null, .null]))], [(h2, .inr (13, mF qm x0Mo y0Mo))]]) (k_rV (pc := 829) (As := [.int v1, .int v2, .int v3, .int v4]) (rest := []) X (c_Ho_at_z1 l D kA h v1 v2 v3 v4 hg hgM H.size) rfl wm_1816 wm_1 wm_1813 wm_1814 wm_1815 4 (by decide +kernel) ⟨Nat.le_of_ble_eq_true rfl, Nat.le_of_ble_eq_true rfl⟩ rfl rfl (va_recv hK hP (ci := 12) (q0 := 0) rfl rfl) (k_pre hN hK hP hD [] [0, 1] 2 rfl (by decide) rfl) rfl hl.1 rfl (Nat.le_of_ble_eq_true rfl) d_law_law_829 ⟨Nat.le_of_ble_eq_true rfl, Nat.le_of_ble_eq_true rfl⟩) hP hD hS hA [] [0, 1] 2 rfl (by decide) rfl rfl (fun r1 u2 H locs hu2 hP hD hS => ?_)
  obtain ⟨hP, hD⟩ := k_left hP hD
  subst hu2
  have hP : va_P D classes (cat [[(h, .inr (12, [.ref (q 0), .ref (q 1), .ref (q 2), .ref (q 3), .ref (q 4), .ref (q 5), .ref (q 6), .int 0, .int ((-1)), .ref (q 9), .ref (q 10), .int 0, .int 0, .ref (q 13), .int 0, .int 0, .null, .null, .null, .null, .null]))], [(h2, .inr (13, mF qm x0Mo y0Mo))]]) H := hP
  have hD : va_D A (cat [[(h, .inr (12, [.ref (q 0), .ref (q 1), .ref (q 2), .ref (q 3), .ref (q 4), .ref (q 5), .ref (q 6), .int 0, .int ((-1)), .ref (q 9), .ref (q 10), .int 0, .int 0, .ref (q 13), .int 0, .int 0, .null, .null, .null, .null, .null]))], [(h2, .inr (13, mF qm x0Mo y0Mo))]]) := hD
  refine lv_aload_n (pc := 832) hx hb d_law_law_832 rfl (lv_at hl 1 rfl) ?_
  refine lv_aload_n (pc := 833) hx hb d_law_law_833 rfl (lv_at hl 3 rfl) ?_
  refine lv_iload_n (pc := 834) hx hb d_law_law_834 rfl (lv_at hl 0 rfl) ?_
  refine lv_iconst (pc := 835) (v := 1) hx hb d_law_law_835 (by decide) ?_
  refine lv_iadd (pc := 836) hx hb d_law_law_836 ?_
  refine k_cst (v := 1) (by decide) ?_
  refine va_sld (pc := 837) hx hb hX hbl hbA hS (by unfold vp_in; decide) d_law_law_837 ?_
  refine k_cst (v := v1) hv1 ?_
  refine lv_aload_n (pc := 838) hx hb d_law_law_838 rfl (lv_at hl 3 rfl) ?_
  refine lv_iload_n (pc := 839) hx hb d_law_law_839 rfl (lv_at hl 0 rfl) ?_
  refine lv_iconst (pc := 840) (v := 2) hx hb d_law_law_840 (by decide) ?_
  refine lv_iadd (pc := 841) hx hb d_law_law_841 ?_
  refine k_cst (v := 2) (by decide) ?_
  refine va_sld (pc := 842) hx hb hX hbl hbA hS (by unfold vp_in; decide) d_law_law_842 ?_
  refine k_cst (v := v2) hv2 ?_
  refine lv_aload_n (pc := 843) hx hb d_law_law_843 rfl (lv_at hl 3 rfl) ?_
  refine lv_iload_n (pc := 844) hx hb d_law_law_844 rfl (lv_at hl 0 rfl) ?_
  refine lv_iconst (pc := 845) (v := 3) hx hb d_law_law_845 (by decide) ?_
  refine lv_iadd (pc := 846) hx hb d_law_law_846 ?_
  refine k_cst (v := 3) (by decide) ?_
  refine va_sld (pc := 847) hx hb hX hbl hbA hS (by unfold vp_in; decide) d_law_law_847 ?_
  refine k_cst (v := v3) hv3 ?_
  refine lv_aload_n (pc := 848) hx hb d_law_law_848 rfl (lv_at hl 3 rfl) ?_
  refine lv_iload_n (pc := 849) hx hb d_law_law_849 rfl (lv_at hl 0 rfl) ?_
  refine lv_iconst (pc := 850) (v := 4) hx hb d_law_law_850 (by decide) ?_
  refine lv_iadd (pc := 851) hx hb d_law_law_851 ?_
  refine k_cst (v := 4) (by decide) ?_
  refine va_sld (pc := 852) hx hb hX hbl hbA hS (by unfold vp_in; decide) d_law_law_852 ?_
  refine k_cst (v := v4) hv4 ?_
  refine k_goI (gr := [[(h, .inr (12, [.ref (q 0), .ref (q 1), .ref (q 2), .ref (q 3), .ref (q 4), .ref (q 5), .ref (q 6), .int 0, .int ((-1)), .ref (q 9), .ref (q 10), .int 0, .int 0, .ref (q 13), .int 0, .int 0, .null, .null, .null, .null, .null]))], [(h2, .inr (13, mF qm x0Mo y0Mo))]]) (k_rV (pc := 853) (As := [.int v1, .int v2, .int v3, .int v4]) (rest := [.int (-2147483648)]) X (c_Mo_at2_z1 l D kA h2 v1 v2 v3 v4 hg hgM H.size) rfl wm_3652 wm_9 wm_3649 wm_3650 wm_3651 4 (by decide +kernel) ⟨Nat.le_of_ble_eq_true rfl, Nat.le_of_ble_eq_true rfl⟩ rfl rfl (va_recv hK hP (ci := 13) (q0 := 1) rfl rfl) (k_pre hN hK hP hD [] [0, 1] 2 rfl (by decide) rfl) rfl hl.1 rfl (Nat.le_of_ble_eq_true rfl) d_law_law_853 ⟨Nat.le_of_ble_eq_true rfl, Nat.le_of_ble_eq_true rfl⟩) hP hD hS hA [] [0, 1] 2 rfl (by decide) rfl rfl (fun r3 u4 H locs hu4 hP hD hS => ?_)
  obtain ⟨hP, hD⟩ := k_left hP hD
  subst hu4
  have hP : va_P D classes (cat [[(h, .inr (12, [.ref (q 0), .ref (q 1), .ref (q 2), .ref (q 3), .ref (q 4), .ref (q 5), .ref (q 6), .int 0, .int ((-1)), .ref (q 9), .ref (q 10), .int 0, .int 0, .ref (q 13), .int 0, .int 0, .null, .null, .null, .null, .null]))], [(h2, .inr (13, mF qm x0Mo y0Mo))]]) H := hP
  have hD : va_D A (cat [[(h, .inr (12, [.ref (q 0), .ref (q 1), .ref (q 2), .ref (q 3), .ref (q 4), .ref (q 5), .ref (q 6), .int 0, .int ((-1)), .ref (q 9), .ref (q 10), .int 0, .int 0, .ref (q 13), .int 0, .int 0, .null, .null, .null, .null, .null]))], [(h2, .inr (13, mF qm x0Mo y0Mo))]]) := hD
  refine lv_icmp_eq (pc := 856) (tgt := 1295) hx hb d_law_law_856 (by decide) (fun _ => ?_) (fun c1 => absurd (by decide) c1)
  rw [hAe] at hS
  exact law_exit l C0 (Nat.le_of_ble_eq_true rfl) (Nat.le_of_ble_eq_true rfl) hS hl
set_option maxRecDepth 100000 in
set_option maxHeartbeats 4000000 in
/-- DrawingHouse$Drawing.coordinate(III)I -/
theorem c_Dr_coordinate_z1 (l : Launch) (D : va_G) (kA : Nat → ClassId) (g : Nat → Nat → Nat) (j : Nat) (v2 : Int32) (v3 : Int32) (v4 : Int32) (a0 : Nat) (a1 : Nat) (a2 : Nat) (a3 : Nat) (a4 : Nat) (a5 : Nat) (a6 : Nat) (a7 : Nat) (a8 : Nat) (a9 : Nat) (a10 : Nat) (a11 : Nat) (a12 : Nat) (hj : j < 4) : Ci l y_Dr_coordinate z_Dr_coordinate { frames := 0, cells := 0, slots := 0, locals := 0 } D classes (TY kA) [.ref (g 3 j), .int v2, .int v3, .int v4] [[(g 3 j, .inr (0, [.ref a0, .int ((-1)), .ref a1, .ref a2, .ref a3, .ref a4, .ref a5, .int 0, .int 0, .int 0, .ref a6, .ref a7, .ref a8, .ref a9, .ref a10, .ref a11, .ref a12, .int 0, .int 0, .int 0, .int 0]))]] (fun r (_ : Unit) => r = -2147483648) (fun u => [[(g 3 j, .inr (0, [.ref a0, .int ((-1)), .ref a1, .ref a2, .ref a3, .ref a4, .ref a5, .int 0, .int 0, .int 0, .ref a6, .ref a7, .ref a8, .ref a9, .ref a10, .ref a11, .ref a12, .int 0, .int 0, .int 0, .int 0]))]]) 0 0 := by
  intro sz
  refine k_met (cc := b_Dr_coordinate) (maxL := 4) (ret := (some .int)) (by decide) rfl (Nat.le_of_ble_eq_true rfl) (fun p e s m below meth c ls X hl hB => ?_)
  obtain ⟨hsz, hP, hK, hD0, hN⟩ := hB
  subst hsz
  have hD := hD0.self (sz := s.heap.size)
  generalize hAe : va_A (cat [[(g 3 j, .inr (0, [.ref a0, .int ((-1)), .ref a1, .ref a2, .ref a3, .ref a4, .ref a5, .int 0, .int 0, .int 0, .ref a6, .ref a7, .ref a8, .ref a9, .ref a10, .ref a11, .ref a12, .int 0, .int 0, .int 0, .int 0]))]]) s.heap.size = A at hD ⊢
  have hA : ∀ q : Nat, s.heap.size ≤ q → A q := fun q h => by rw [← hAe]; exact Or.inr h
  have hS : va_S A s.heap s.heap [] := va_S.rf
  obtain ⟨hx, hb, hml, hown, hts, hr, hlk, hnm⟩ := id X
  have hl : lv_has ls 4 [(0, .ref (g 3 j)), (1, .int v2), (2, .int v3), (3, .int v4)] := hl
  have hP : va_P D classes (cat [[(g 3 j, .inr (0, [.ref a0, .int ((-1)), .ref a1, .ref a2, .ref a3, .ref a4, .ref a5, .int 0, .int 0, .int 0, .ref a6, .ref a7, .ref a8, .ref a9, .ref a10, .ref a11, .ref a12, .int 0, .int 0, .int 0, .int 0]))]]) s.heap := hP
  have hK : va_K D classes (TY kA) s := hK
  refine lv_aload_n (pc := 0) hx hb d_Dr_coordinate_0 rfl (lv_at hl 0 rfl) ?_
  refine k_get (pc := 1) X hK hP 0 rfl rfl i_Dr 1 (by decide) wm_466 rfl rfl d_Dr_coordinate_1 ?_
  refine lv_iconst (pc := 4) (v := -1) hx hb d_Dr_coordinate_4 (by decide) ?_
  refine lv_icmp_ne (pc := 5) (tgt := 11) hx hb d_Dr_coordinate_5 (by decide) (fun c1 => absurd (by decide) c1) (fun _ => ?_)
  refine lv_ldc (pc := 8) (v := -2147483648) hx hb hown (hts _ wm_1821) d_Dr_coordinate_8 ?_
  refine W.widen (k := 0) (n := 0) (Nat.le_of_ble_eq_true rfl) (Nat.le_of_ble_eq_true rfl) ?_
  exact W.iret (v := (-2147483648)) hx hb hr (fun t ht hW => ⟨⟨(-2147483648), (), rfl, rfl, by rw [ht]; exact hP, va_K.moved hW.alike hK, hD⟩, hS.F ht⟩) hS.2.2 d_Dr_coordinate_10
set_option maxRecDepth 100000 in
set_option maxHeartbeats 4000000 in
/-- DrawingHouse.at(IIII)I -/
theorem c_Ho_at_z2 (l : Launch) (D : va_G) (kA : Nat → ClassId) (a0 : Nat) (j : Nat) (v2 : Int32) (v3 : Int32) (v4 : Int32) (a1 : Nat) (a2 : Nat) (a3 : Nat) (a4 : Nat) (a5 : Nat) (a6 : Nat) (a7 : Nat) (a8 : Nat) (a9 : Nat) (a10 : Nat) (g : Nat → Nat → Nat) (a11 : Nat) (a12 : Nat) (a13 : Nat) (a14 : Nat) (a15 : Nat) (a16 : Nat) (a17 : Nat) (a18 : Nat) (a19 : Nat) (a20 : Nat) (a21 : Nat) (a22 : Nat) (a23 : Nat) (hj : j < 4) : Ci l y_Ho_at z_Ho_at { frames := 1, cells := 0, slots := 0, locals := 23 } D classes (TY kA) [.ref a0, .int (nI j), .int v2, .int v3, .int v4] [[(a0, .inr (12, [.ref a1, .ref a2, .ref a3, .ref a4, .ref a5, .ref a6, .ref a7, .int 0, .int ((-1)), .ref a8, .ref a9, .int 0, .int 0, .ref a10, .int 0, .int 0, .null, .null, .null, .null, .null]))], [(a4, .inl (kA 7, 4, .inr (.inr (.inr (.inr (rr (g 3)))))))], [(g 3 j, .inr (0, [.ref a11, .int ((-1)), .ref a12, .ref a13, .ref a14, .ref a15, .ref a16, .int 0, .int 0, .int 0, .ref a17, .ref a18, .ref a19, .ref a20, .ref a21, .ref a22, .ref a23, .int 0, .int 0, .int 0, .int 0]))]] (fun r (_ : List va_W) => r = -2147483648) (fun u => u) 0 0 := by
  intro sz
  refine k_met (cc := b_Ho_at) (maxL := 5) (ret := (some .int)) (by decide) rfl (Nat.le_of_ble_eq_true rfl) (fun p e s m below meth c ls X hl hB => ?_)
  obtain ⟨hsz, hP, hK, hD0, hN⟩ := hB
  subst hsz
  have hD := hD0.self (sz := s.heap.size)
  generalize hAe : va_A (cat [[(a0, .inr (12, [.ref a1, .ref a2, .ref a3, .ref a4, .ref a5, .ref a6, .ref a7, .int 0, .int ((-1)), .ref a8, .ref a9, .int 0, .int 0, .ref a10, .int 0, .int 0, .null, .null, .null, .null, .null]))], [(a4, .inl (kA 7, 4, .inr (.inr (.inr (.inr (rr (g 3)))))))], [(g 3 j, .inr (0, [.ref a11, .int ((-1)), .ref a12, .ref a13, .ref a14, .ref a15, .ref a16, .int 0, .int 0, .int 0, .ref a17, .ref a18, .ref a19, .ref a20, .ref a21, .ref a22, .ref a23, .int 0, .int 0, .int 0, .int 0]))]]) s.heap.size = A at hD ⊢
  have hA : ∀ q : Nat, s.heap.size ≤ q → A q := fun q h => by rw [← hAe]; exact Or.inr h
  have hS : va_S A s.heap s.heap [] := va_S.rf
  obtain ⟨hx, hb, hml, hown, hts, hr, hlk, hnm⟩ := id X
  have hl : lv_has ls 5 [(0, .ref a0), (1, .int (nI j)), (2, .int v2), (3, .int v3), (4, .int v4)] := hl
  have hP : va_P D classes (cat [[(a0, .inr (12, [.ref a1, .ref a2, .ref a3, .ref a4, .ref a5, .ref a6, .ref a7, .int 0, .int ((-1)), .ref a8, .ref a9, .int 0, .int 0, .ref a10, .int 0, .int 0, .null, .null, .null, .null, .null]))], [(a4, .inl (kA 7, 4, .inr (.inr (.inr (.inr (rr (g 3)))))))], [(g 3 j, .inr (0, [.ref a11, .int ((-1)), .ref a12, .ref a13, .ref a14, .ref a15, .ref a16, .int 0, .int 0, .int 0, .ref a17, .ref a18, .ref a19, .ref a20, .ref a21, .ref a22, .ref a23, .int 0, .int 0, .int 0, .int 0]))]]) s.heap := hP
  have hK : va_K D classes (TY kA) s := hK
  refine lv_iload_n (pc := 0) hx hb d_Ho_at_0 rfl (lv_at hl 1 rfl) ?_
  refine k_goI (gr := [[(a0, .inr (12, [.ref a1, .ref a2, .ref a3, .ref a4, .ref a5, .ref a6, .ref a7, .int 0, .int ((-1)), .ref a8, .ref a9, .int 0, .int 0, .ref a10, .int 0, .int 0, .null, .null, .null, .null, .null]))], [(a4, .inl (kA 7, 4, .inr (.inr (.inr (.inr (rr (g 3)))))))], [(g 3 j, .inr (0, [.ref a11, .int ((-1)), .ref a12, .ref a13, .ref a14, .ref a15, .ref a16, .int 0, .int 0, .int 0, .ref a17, .ref a18, .ref a19, .ref a20, .ref a21, .ref a22, .ref a23, .int 0, .int 0, .int 0, .int 0]))]]) (k_rS (pc := 1) (As := [.int (nI j)]) (rest := []) X (c_Ho_isPlace l D kA (nI j) s.heap.size) rfl wm_633 wm_1 wm_631 wm_632 1 (by decide +kernel) ⟨Nat.le_of_ble_eq_true rfl, Nat.le_of_ble_eq_true rfl⟩ rfl rfl (k_pre hN hK hP hD [] [0, 1, 2] 3 rfl (by decide) rfl) rfl hl.1 rfl (Nat.le_of_ble_eq_true rfl) d_Ho_at_1 ⟨Nat.le_of_ble_eq_true rfl, Nat.le_of_ble_eq_true rfl⟩) hP hD hS hA [] [0, 1, 2] 3 rfl (by decide) rfl rfl (fun r1 u2 H locs hu2 hP hD hS => ?_)
  subst hu2
  refine k_cst (v := 1) (place_ok hj) ?_
  have hP : va_P D classes (cat [[(a0, .inr (12, [.ref a1, .ref a2, .ref a3, .ref a4, .ref a5, .ref a6, .ref a7, .int 0, .int ((-1)), .ref a8, .ref a9, .int 0, .int 0, .ref a10, .int 0, .int 0, .null, .null, .null, .null, .null]))], [(a4, .inl (kA 7, 4, .inr (.inr (.inr (.inr (rr (g 3)))))))], [(g 3 j, .inr (0, [.ref a11, .int ((-1)), .ref a12, .ref a13, .ref a14, .ref a15, .ref a16, .int 0, .int 0, .int 0, .ref a17, .ref a18, .ref a19, .ref a20, .ref a21, .ref a22, .ref a23, .int 0, .int 0, .int 0, .int 0]))]]) H := hP
  have hD : va_D A (cat [[(a0, .inr (12, [.ref a1, .ref a2, .ref a3, .ref a4, .ref a5, .ref a6, .ref a7, .int 0, .int ((-1)), .ref a8, .ref a9, .int 0, .int 0, .ref a10, .int 0, .int 0, .null, .null, .null, .null, .null]))], [(a4, .inl (kA 7, 4, .inr (.inr (.inr (.inr (rr (g 3)))))))], [(g 3 j, .inr (0, [.ref a11, .int ((-1)), .ref a12, .ref a13, .ref a14, .ref a15, .ref a16, .int 0, .int 0, .int 0, .ref a17, .ref a18, .ref a19, .ref a20, .ref a21, .ref a22, .ref a23, .int 0, .int 0, .int 0, .int 0]))]]) := hD
  refine lv_if_eq (pc := 4) (tgt := 23) hx hb d_Ho_at_4 (by decide) (fun c1 => absurd c1 (by decide)) (fun c1 => ?_)
  refine lv_aload_n (pc := 7) hx hb d_Ho_at_7 rfl (lv_at hl 0 rfl) ?_
  refine k_get (pc := 8) X hK hP 0 rfl rfl i_Ho 3 (by decide) wm_558 rfl rfl d_Ho_at_8 ?_
  refine lv_iload_n (pc := 11) hx hb d_Ho_at_11 rfl (lv_at hl 1 rfl) ?_
  refine k_ald (pc := 12) hx hb hK hP 1 7 rfl rfl (j) rfl (by omega) (by decide) (rr_at (by omega)) d_Ho_at_12 ?_
  refine lv_iload_n (pc := 13) hx hb d_Ho_at_13 rfl (lv_at hl 2 rfl) ?_
  refine lv_iload_n (pc := 14) hx hb d_Ho_at_14 rfl (lv_at hl 3 rfl) ?_
  refine lv_iload (pc := 15) hx hb d_Ho_at_15 (lv_at hl 4 rfl) ?_
  refine k_goI (gr := [[(a0, .inr (12, [.ref a1, .ref a2, .ref a3, .ref a4, .ref a5, .ref a6, .ref a7, .int 0, .int ((-1)), .ref a8, .ref a9, .int 0, .int 0, .ref a10, .int 0, .int 0, .null, .null, .null, .null, .null]))], [(a4, .inl (kA 7, 4, .inr (.inr (.inr (.inr (rr (g 3)))))))]]) (k_rV (pc := 17) (As := [.int v2, .int v3, .int v4]) (rest := []) X (c_Dr_coordinate_z1 l D kA g j v2 v3 v4 a11 a12 a13 a14 a15 a16 a17 a18 a19 a20 a21 a22 a23 hj H.size) rfl wm_1820 wm_8 wm_1817 wm_1818 wm_1819 3 (by decide +kernel) ⟨Nat.le_of_ble_eq_true rfl, Nat.le_of_ble_eq_true rfl⟩ rfl rfl (va_recv hK hP (ci := 0) (q0 := 2) rfl rfl) (k_pre hN hK hP hD [2] [0, 1] 3 rfl (by decide) rfl) rfl hl.1 rfl (Nat.le_of_ble_eq_true rfl) d_Ho_at_17 ⟨Nat.le_of_ble_eq_true rfl, Nat.le_of_ble_eq_true rfl⟩) hP hD hS hA [2] [0, 1] 3 rfl (by decide) rfl rfl (fun r3 u4 H locs hu4 hP hD hS => ?_)
  subst hu4
  have hP : va_P D classes (cat [[(a0, .inr (12, [.ref a1, .ref a2, .ref a3, .ref a4, .ref a5, .ref a6, .ref a7, .int 0, .int ((-1)), .ref a8, .ref a9, .int 0, .int 0, .ref a10, .int 0, .int 0, .null, .null, .null, .null, .null]))], [(a4, .inl (kA 7, 4, .inr (.inr (.inr (.inr (rr (g 3)))))))], [(g 3 j, .inr (0, [.ref a11, .int ((-1)), .ref a12, .ref a13, .ref a14, .ref a15, .ref a16, .int 0, .int 0, .int 0, .ref a17, .ref a18, .ref a19, .ref a20, .ref a21, .ref a22, .ref a23, .int 0, .int 0, .int 0, .int 0]))]]) H := hP
  have hD : va_D A (cat [[(a0, .inr (12, [.ref a1, .ref a2, .ref a3, .ref a4, .ref a5, .ref a6, .ref a7, .int 0, .int ((-1)), .ref a8, .ref a9, .int 0, .int 0, .ref a10, .int 0, .int 0, .null, .null, .null, .null, .null]))], [(a4, .inl (kA 7, 4, .inr (.inr (.inr (.inr (rr (g 3)))))))], [(g 3 j, .inr (0, [.ref a11, .int ((-1)), .ref a12, .ref a13, .ref a14, .ref a15, .ref a16, .int 0, .int 0, .int 0, .ref a17, .ref a18, .ref a19, .ref a20, .ref a21, .ref a22, .ref a23, .int 0, .int 0, .int 0, .int 0]))]]) := hD
  refine lv_goto (pc := 20) (tgt := 26) hx hb d_Ho_at_20 (by decide) ?_
  refine W.widen (k := 0) (n := 0) (Nat.le_of_ble_eq_true rfl) (Nat.le_of_ble_eq_true rfl) ?_
  exact W.iret (v := (-2147483648)) hx hb hr (fun t ht hW => ⟨⟨(-2147483648), [[(a0, .inr (12, [.ref a1, .ref a2, .ref a3, .ref a4, .ref a5, .ref a6, .ref a7, .int 0, .int ((-1)), .ref a8, .ref a9, .int 0, .int 0, .ref a10, .int 0, .int 0, .null, .null, .null, .null, .null]))], [(a4, .inl (kA 7, 4, .inr (.inr (.inr (.inr (rr (g 3)))))))], [(g 3 j, .inr (0, [.ref a11, .int ((-1)), .ref a12, .ref a13, .ref a14, .ref a15, .ref a16, .int 0, .int 0, .int 0, .ref a17, .ref a18, .ref a19, .ref a20, .ref a21, .ref a22, .ref a23, .int 0, .int 0, .int 0, .int 0]))]], rfl, rfl, by rw [ht]; exact hP, va_K.moved hW.alike hK, hD⟩, hS.F ht⟩) hS.2.2 d_Ho_at_26
set_option maxRecDepth 100000 in
set_option maxHeartbeats 4000000 in
/-- DrawingHouseModel.at(IIII)I -/
theorem c_Mo_at2_z2 (l : Launch) (D : va_G) (kA : Nat → ClassId) (a0 : Nat) (j : Nat) (v2 : Int32) (v3 : Int32) (v4 : Int32) (qm : Nat → Nat) (hj : j < 4) : Ci l y_Mo_at2 z_Mo_at2 { frames := 2, cells := 0, slots := 0, locals := 42 } D classes (TY kA) [.ref a0, .int (nI j), .int v2, .int v3, .int v4] [[(a0, .inr (13, mF qm x0Mo y0Mo))], [(qm 61, .inl (kA 0, 4, .inl (upd (upd (upd (upd (fun _ => 0) 0 (-1)) 1 (-1)) 2 (-1)) 3 (-1))))]] (fun r (_ : List va_W) => r = -2147483648) (fun u => u) 0 0 := by
  intro sz
  refine k_met (cc := b_Mo_at2) (maxL := 6) (ret := (some .int)) (by decide) rfl (Nat.le_of_ble_eq_true rfl) (fun p e s m below meth c ls X hl hB => ?_)
  obtain ⟨hsz, hP, hK, hD0, hN⟩ := hB
  subst hsz
  have hD := hD0.self (sz := s.heap.size)
  generalize hAe : va_A (cat [[(a0, .inr (13, mF qm x0Mo y0Mo))], [(qm 61, .inl (kA 0, 4, .inl (upd (upd (upd (upd (fun _ => 0) 0 (-1)) 1 (-1)) 2 (-1)) 3 (-1))))]]) s.heap.size = A at hD ⊢
  have hA : ∀ q : Nat, s.heap.size ≤ q → A q := fun q h => by rw [← hAe]; exact Or.inr h
  have hS : va_S A s.heap s.heap [] := va_S.rf
  obtain ⟨hx, hb, hml, hown, hts, hr, hlk, hnm⟩ := id X
  have hl : lv_has ls 6 [(0, .ref a0), (1, .int (nI j)), (2, .int v2), (3, .int v3), (4, .int v4)] := hl
  have hP : va_P D classes (cat [[(a0, .inr (13, mF qm x0Mo y0Mo))], [(qm 61, .inl (kA 0, 4, .inl (upd (upd (upd (upd (fun _ => 0) 0 (-1)) 1 (-1)) 2 (-1)) 3 (-1))))]]) s.heap := hP
  have hK : va_K D classes (TY kA) s := hK
  refine lv_iload_n (pc := 0) hx hb d_Mo_at2_0 rfl (lv_at hl 1 rfl) ?_
  refine k_goI (gr := [[(a0, .inr (13, mF qm x0Mo y0Mo))], [(qm 61, .inl (kA 0, 4, .inl (upd (upd (upd (upd (fun _ => 0) 0 (-1)) 1 (-1)) 2 (-1)) 3 (-1))))]]) (k_rS (pc := 1) (As := [.int (nI j)]) (rest := []) X (c_Mo_isPlace l D kA (nI j) s.heap.size) rfl wm_2978 wm_9 wm_2976 wm_2977 1 (by decide +kernel) ⟨Nat.le_of_ble_eq_true rfl, Nat.le_of_ble_eq_true rfl⟩ rfl rfl (k_pre hN hK hP hD [] [0, 1] 2 rfl (by decide) rfl) rfl hl.1 rfl (Nat.le_of_ble_eq_true rfl) d_Mo_at2_1 ⟨Nat.le_of_ble_eq_true rfl, Nat.le_of_ble_eq_true rfl⟩) hP hD hS hA [] [0, 1] 2 rfl (by decide) rfl rfl (fun r1 u2 H locs hu2 hP hD hS => ?_)
  subst hu2
  refine k_cst (v := 1) (placeM_ok hj) ?_
  have hP : va_P D classes (cat [[(a0, .inr (13, mF qm x0Mo y0Mo))], [(qm 61, .inl (kA 0, 4, .inl (upd (upd (upd (upd (fun _ => 0) 0 (-1)) 1 (-1)) 2 (-1)) 3 (-1))))]]) H := hP
  have hD : va_D A (cat [[(a0, .inr (13, mF qm x0Mo y0Mo))], [(qm 61, .inl (kA 0, 4, .inl (upd (upd (upd (upd (fun _ => 0) 0 (-1)) 1 (-1)) 2 (-1)) 3 (-1))))]]) := hD
  refine lv_if_eq (pc := 4) (tgt := 16) hx hb d_Mo_at2_4 (by decide) (fun c1 => absurd c1 (by decide)) (fun c1 => ?_)
  refine lv_aload_n (pc := 7) hx hb d_Mo_at2_7 rfl (lv_at hl 0 rfl) ?_
  refine k_get (pc := 8) (v := .ref (qm 61)) X hK hP 0 rfl rfl i_Mo 61 (by decide) wm_2493 rfl rfl d_Mo_at2_8 ?_
  refine lv_iload_n (pc := 11) hx hb d_Mo_at2_11 rfl (lv_at hl 1 rfl) ?_
  refine k_ild (pc := 12) hx hb hK hP 1 0 rfl rfl (j) rfl (by omega) (by decide) d_Mo_at2_12 ?_
  refine k_cst (v := (-1)) (drawn0 hj) ?_
  refine lv_if_ge (pc := 13) (tgt := 20) hx hb d_Mo_at2_13 (by decide) (fun c1 => absurd c1 (by decide)) (fun c1 => ?_)
  refine lv_ldcw (pc := 16) (v := -2147483648) hx hb hown (hts _ wm_3653) d_Mo_at2_16 ?_
  refine W.widen (k := 0) (n := 0) (Nat.le_of_ble_eq_true rfl) (Nat.le_of_ble_eq_true rfl) ?_
  exact W.iret (v := (-2147483648)) hx hb hr (fun t ht hW => ⟨⟨(-2147483648), [[(a0, .inr (13, mF qm x0Mo y0Mo))], [(qm 61, .inl (kA 0, 4, .inl (upd (upd (upd (upd (fun _ => 0) 0 (-1)) 1 (-1)) 2 (-1)) 3 (-1))))]], rfl, rfl, by rw [ht]; exact hP, va_K.moved hW.alike hK, hD⟩, hS.F ht⟩) hS.2.2 d_Mo_at2_19
set_option maxRecDepth 100000 in
set_option maxHeartbeats 4000000 in
/-- at, a fresh house -/
theorem lf_at_2 {p : Program} {e : Env} {s : State} {m : MethodId} {below : List Frame} {meth : Method} {c : Code} (l : Launch) {b : Nat} {xs : Nat → Int32} (C0 : lw_At p s m meth c b 6 xs) {D : va_G} {kA : Nat → ClassId} (h : Nat) (h2 : Nat) (q : Nat → Nat) (qd : Nat → Nat) (qm : Nat → Nat) (g : Nat → Nat → Nat) (j : Nat) (v2 : Int32) (v3 : Int32) (v4 : Int32) (hj : j < 4) (hv1 : xs 1 = nI j) (hv2 : xs 2 = v2) (hv3 : xs 3 = v3) (hv4 : xs 4 = v4) {H : Heap} {locs : List Loc} {ls : Array Slot} (hK : va_K D classes (TY kA) s) (hN : nst s) (hP : va_P D classes (cat [[(h, .inr (12, [.ref (q 0), .ref (q 1), .ref (q 2), .ref (q 3), .ref (q 4), .ref (q 5), .ref (q 6), .int 0, .int ((-1)), .ref (q 9), .ref (q 10), .int 0, .int 0, .ref (q 13), .int 0, .int 0, .null, .null, .null, .null, .null]))], [(q 3, .inl (kA 7, 4, .inr (.inr (.inr (.inr (rr (g 3)))))))], [(g 3 j, .inr (0, [.ref (qd 0), .int ((-1)), .ref (qd 2), .ref (qd 3), .ref (qd 4), .ref (qd 5), .ref (qd 6), .int 0, .int 0, .int 0, .ref (qd 10), .ref (qd 11), .ref (qd 12), .ref (qd 13), .ref (qd 14), .ref (qd 15), .ref (qd 16), .int 0, .int 0, .int 0, .int 0]))], [(h2, .inr (13, mF qm x0Mo y0Mo))], [(qm 61, .inl (kA 0, 4, .inl (upd (upd (upd (upd (fun _ => 0) 0 (-1)) 1 (-1)) 2 (-1)) 3 (-1))))]]) H) (hD : va_D (fun q : Nat => s.heap.size ≤ q) (cat [[(h, .inr (12, [.ref (q 0), .ref (q 1), .ref (q 2), .ref (q 3), .ref (q 4), .ref (q 5), .ref (q 6), .int 0, .int ((-1)), .ref (q 9), .ref (q 10), .int 0, .int 0, .ref (q 13), .int 0, .int 0, .null, .null, .null, .null, .null]))], [(q 3, .inl (kA 7, 4, .inr (.inr (.inr (.inr (rr (g 3)))))))], [(g 3 j, .inr (0, [.ref (qd 0), .int ((-1)), .ref (qd 2), .ref (qd 3), .ref (qd 4), .ref (qd 5), .ref (qd 6), .int 0, .int 0, .int 0, .ref (qd 10), .ref (qd 11), .ref (qd 12), .ref (qd 13), .ref (qd 14), .ref (qd 15), .ref (qd 16), .int 0, .int 0, .int 0, .int 0]))], [(h2, .inr (13, mF qm x0Mo y0Mo))], [(qm 61, .inl (kA 0, 4, .inl (upd (upd (upd (upd (fun _ => 0) 0 (-1)) 1 (-1)) 2 (-1)) 3 (-1))))]])) (hS : va_S (fun q : Nat => s.heap.size ≤ q) s.heap H locs) (hl : lv_has ls 4 [(3, .int 0), (2, .ref h2), (1, .ref h), (0, .ref b)]) : W p l e room_1 s m #[Value.ref b] below meth c H locs 368 365796 (lw_Z below #[Value.ref b] s) (F0 m 808 ls []) := by
  obtain ⟨hx, hb, hr, hml, hown, hts0, hX, hbl, hlocks, hgv⟩ := id C0
  have hts : ∀ w ∈ lw_g, w.before #[Value.ref b] s = true := fun w h => hts0 w (lw_gt h)
  have X : cx p s m #[Value.ref b] meth c b_law_law 4 ret "DrawingHouseLaw" meth.name := ⟨hx, hb, hml, hown, hts, hr, hlocks, rfl⟩
  obtain ⟨A, hAe⟩ : ∃ A : Nat → Prop, A = fun q : Nat => s.heap.size ≤ q := ⟨_, rfl⟩
  have hA : ∀ q : Nat, s.heap.size ≤ q → A q := fun q h => by rw [hAe]; exact h
  have hbA : ¬ A b := by rw [hAe]; exact Nat.not_le.mpr hbl
  rw [← hAe] at hD hS
  refine lv_aload_n (pc := 808) hx hb d_law_law_808 rfl (lv_at hl 2 rfl) ?_
  refine lv_aload_n (pc := 809) hx hb d_law_law_809 rfl (lv_at hl 3 rfl) ?_
  refine lv_iload_n (pc := 810) hx hb d_law_law_810 rfl (lv_at hl 0 rfl) ?_
  refine lv_iconst (pc := 811) (v := 1) hx hb d_law_law_811 (by decide) ?_
  refine lv_iadd (pc := 812) hx hb d_law_law_812 ?_
  refine k_cst (v := 1) (by decide) ?_
  refine va_sld (pc := 813) hx hb hX hbl hbA hS (by unfold vp_in; decide) d_law_law_813 ?_
  refine k_cst (v := nI j) hv1 ?_
  refine lv_aload_n (pc := 814) hx hb d_law_law_814 rfl (lv_at hl 3 rfl) ?_
  refine lv_iload_n (pc := 815) hx hb d_law_law_815 rfl (lv_at hl 0 rfl) ?_
  refine lv_iconst (pc := 816) (v := 2) hx hb d_law_law_816 (by decide) ?_
  refine lv_iadd (pc := 817) hx hb d_law_law_817 ?_
  refine k_cst (v := 2) (by decide) ?_
  refine va_sld (pc := 818) hx hb hX hbl hbA hS (by unfold vp_in; decide) d_law_law_818 ?_
  refine k_cst (v := v2) hv2 ?_
  refine lv_aload_n (pc := 819) hx hb d_law_law_819 rfl (lv_at hl 3 rfl) ?_
  refine lv_iload_n (pc := 820) hx hb d_law_law_820 rfl (lv_at hl 0 rfl) ?_
  refine lv_iconst (pc := 821) (v := 3) hx hb d_law_law_821 (by decide) ?_
  refine lv_iadd (pc := 822) hx hb d_law_law_822 ?_
  refine k_cst (v := 3) (by decide) ?_
  refine va_sld (pc := 823) hx hb hX hbl hbA hS (by unfold vp_in; decide) d_law_law_823 ?_
  refine k_cst (v := v3) hv3 ?_
  refine lv_aload_n (pc := 824) hx hb d_law_law_824 rfl (lv_at hl 3 rfl) ?_
  refine lv_iload_n (pc := 825) hx hb d_law_law_825 rfl (lv_at hl 0 rfl) ?_
  refine lv_iconst (pc := 826) (v := 4) hx hb d_law_law_826 (by decide) ?_
  refine lv_iadd (pc := 827) hx hb d_law_law_827 ?_
  refine k_cst (v := 4) (by decide) ?_
  refine va_sld (pc := 828) hx hb hX hbl hbA hS (by unfold vp_in; decide) d_law_law_828 ?_
  refine k_cst (v := v4) hv4 ?_
  refine k_goI (gr := [[(h2, .inr (13, mF qm x0Mo y0Mo))], [(qm 61, .inl (kA 0, 4, .inl (upd (upd (upd (upd (fun _ => 0) 0 (-1)) 1 (-1)) 2 (-1)) 3 (-1))))]]) (k_rV (pc := 829) (As := [.int (nI j), .int v2, .int v3, .int v4]) (rest := []) X (c_Ho_at_z2 l D kA h j v2 v3 v4 (q 0) (q 1) (q 2) (q 3) (q 4) (q 5) (q 6) (q 9) (q 10) (q 13) g (qd 0) (qd 2) (qd 3) (qd 4) (qd 5) (qd 6) (qd 10) (qd 11) (qd 12) (qd 13) (qd 14) (qd 15) (qd 16) hj H.size) rfl wm_1816 wm_1 wm_1813 wm_1814 wm_1815 4 (by decide +kernel) ⟨Nat.le_of_ble_eq_true rfl, Nat.le_of_ble_eq_true rfl⟩ rfl rfl (va_recv hK hP (ci := 12) (q0 := 0) rfl rfl) (k_pre hN hK hP hD [0, 1, 2] [3, 4] 5 rfl (by decide) rfl) rfl hl.1 rfl (Nat.le_of_ble_eq_true rfl) d_law_law_829 ⟨Nat.le_of_ble_eq_true rfl, Nat.le_of_ble_eq_true rfl⟩) hP hD hS hA [0, 1, 2] [3, 4] 5 rfl (by decide) rfl rfl (fun r1 u2 H locs hu2 hP hD hS => ?_)
  obtain ⟨hP, hD⟩ := k_left hP hD
  subst hu2
  have hP : va_P D classes (cat [[(h2, .inr (13, mF qm x0Mo y0Mo))], [(qm 61, .inl (kA 0, 4, .inl (upd (upd (upd (upd (fun _ => 0) 0 (-1)) 1 (-1)) 2 (-1)) 3 (-1))))]]) H := hP
  have hD : va_D A (cat [[(h2, .inr (13, mF qm x0Mo y0Mo))], [(qm 61, .inl (kA 0, 4, .inl (upd (upd (upd (upd (fun _ => 0) 0 (-1)) 1 (-1)) 2 (-1)) 3 (-1))))]]) := hD
  refine lv_aload_n (pc := 832) hx hb d_law_law_832 rfl (lv_at hl 1 rfl) ?_
  refine lv_aload_n (pc := 833) hx hb d_law_law_833 rfl (lv_at hl 3 rfl) ?_
  refine lv_iload_n (pc := 834) hx hb d_law_law_834 rfl (lv_at hl 0 rfl) ?_
  refine lv_iconst (pc := 835) (v := 1) hx hb d_law_law_835 (by decide) ?_
  refine lv_iadd (pc := 836) hx hb d_law_law_836 ?_
  refine k_cst (v := 1) (by decide) ?_
  refine va_sld (pc := 837) hx hb hX hbl hbA hS (by unfold vp_in; decide) d_law_law_837 ?_
  refine k_cst (v := nI j) hv1 ?_
  refine lv_aload_n (pc := 838) hx hb d_law_law_838 rfl (lv_at hl 3 rfl) ?_
  refine lv_iload_n (pc := 839) hx hb d_law_law_839 rfl (lv_at hl 0 rfl) ?_
  refine lv_iconst (pc := 840) (v := 2) hx hb d_law_law_840 (by decide) ?_
  refine lv_iadd (pc := 841) hx hb d_law_law_841 ?_
  refine k_cst (v := 2) (by decide) ?_
  refine va_sld (pc := 842) hx hb hX hbl hbA hS (by unfold vp_in; decide) d_law_law_842 ?_
  refine k_cst (v := v2) hv2 ?_
  refine lv_aload_n (pc := 843) hx hb d_law_law_843 rfl (lv_at hl 3 rfl) ?_
  refine lv_iload_n (pc := 844) hx hb d_law_law_844 rfl (lv_at hl 0 rfl) ?_
  refine lv_iconst (pc := 845) (v := 3) hx hb d_law_law_845 (by decide) ?_
  refine lv_iadd (pc := 846) hx hb d_law_law_846 ?_
  refine k_cst (v := 3) (by decide) ?_
  refine va_sld (pc := 847) hx hb hX hbl hbA hS (by unfold vp_in; decide) d_law_law_847 ?_
  refine k_cst (v := v3) hv3 ?_
  refine lv_aload_n (pc := 848) hx hb d_law_law_848 rfl (lv_at hl 3 rfl) ?_
  refine lv_iload_n (pc := 849) hx hb d_law_law_849 rfl (lv_at hl 0 rfl) ?_
  refine lv_iconst (pc := 850) (v := 4) hx hb d_law_law_850 (by decide) ?_
  refine lv_iadd (pc := 851) hx hb d_law_law_851 ?_
  refine k_cst (v := 4) (by decide) ?_
  refine va_sld (pc := 852) hx hb hX hbl hbA hS (by unfold vp_in; decide) d_law_law_852 ?_
  refine k_cst (v := v4) hv4 ?_
  refine k_goI (gr := []) (k_rV (pc := 853) (As := [.int (nI j), .int v2, .int v3, .int v4]) (rest := [.int (-2147483648)]) X (c_Mo_at2_z2 l D kA h2 j v2 v3 v4 qm hj H.size) rfl wm_3652 wm_9 wm_3649 wm_3650 wm_3651 4 (by decide +kernel) ⟨Nat.le_of_ble_eq_true rfl, Nat.le_of_ble_eq_true rfl⟩ rfl rfl (va_recv hK hP (ci := 13) (q0 := 0) rfl rfl) (k_pre hN hK hP hD [0, 1] [] 2 rfl (by decide) rfl) rfl hl.1 rfl (Nat.le_of_ble_eq_true rfl) d_law_law_853 ⟨Nat.le_of_ble_eq_true rfl, Nat.le_of_ble_eq_true rfl⟩) hP hD hS hA [0, 1] [] 2 rfl (by decide) rfl rfl (fun r3 u4 H locs hu4 hP hD hS => ?_)
  obtain ⟨hP, hD⟩ := k_left hP hD
  subst hu4
  have hP : va_P D classes (cat []) H := hP
  have hD : va_D A (cat []) := hD
  refine lv_icmp_eq (pc := 856) (tgt := 1295) hx hb d_law_law_856 (by decide) (fun _ => ?_) (fun c1 => absurd (by decide) c1)
  rw [hAe] at hS
  exact law_exit l C0 (Nat.le_of_ble_eq_true rfl) (Nat.le_of_ble_eq_true rfl) hS hl
set_option maxRecDepth 100000 in
set_option maxHeartbeats 4000000 in
/-- DrawingHouse.told(III)I -/
theorem c_Ho_told_z1 (l : Launch) (D : va_G) (kA : Nat → ClassId) (a0 : Nat) (v1 : Int32) (v2 : Int32) (v3 : Int32) (hg : sp_Ho_isPlace v1 = 0) (hgM : sp_Mo_isPlace v1 = 0) : Ci l y_Ho_told z_Ho_told { frames := 1, cells := 0, slots := 0, locals := 20 } D classes (TY kA) [.ref a0, .int v1, .int v2, .int v3] [] (fun r (_ : List va_W) => r = (-1)) (fun u => u) 0 0 := by
  intro sz
  refine k_met (cc := b_Ho_told) (maxL := 4) (ret := (some .int)) (by decide) rfl (Nat.le_of_ble_eq_true rfl) (fun p e s m below meth c ls X hl hB => ?_)
  obtain ⟨hsz, hP, hK, hD0, hN⟩ := hB
  subst hsz
  have hD := hD0.self (sz := s.heap.size)
  generalize hAe : va_A (cat []) s.heap.size = A at hD ⊢
  have hA : ∀ q : Nat, s.heap.size ≤ q → A q := fun q h => by rw [← hAe]; exact Or.inr h
  have hS : va_S A s.heap s.heap [] := va_S.rf
  obtain ⟨hx, hb, hml, hown, hts, hr, hlk, hnm⟩ := id X
  have hl : lv_has ls 4 [(0, .ref a0), (1, .int v1), (2, .int v2), (3, .int v3)] := hl
  have hP : va_P D classes (cat []) s.heap := hP
  have hK : va_K D classes (TY kA) s := hK
  refine lv_iload_n (pc := 0) hx hb d_Ho_told_0 rfl (lv_at hl 1 rfl) ?_
  refine k_goI (gr := []) (k_rS (pc := 1) (As := [.int v1]) (rest := []) X (c_Ho_isPlace l D kA v1 s.heap.size) rfl wm_633 wm_1 wm_631 wm_632 1 (by decide +kernel) ⟨Nat.le_of_ble_eq_true rfl, Nat.le_of_ble_eq_true rfl⟩ rfl rfl (k_pre hN hK hP hD [] [] 0 rfl (by decide) rfl) rfl hl.1 rfl (Nat.le_of_ble_eq_true rfl) d_Ho_told_1 ⟨Nat.le_of_ble_eq_true rfl, Nat.le_of_ble_eq_true rfl⟩) hP hD hS hA [] [] 0 rfl (by decide) rfl rfl (fun r1 u2 H locs hu2 hP hD hS => ?_)
  subst hu2
  have hP : va_P D classes (cat []) H := hP
  have hD : va_D A (cat []) := hD
  refine lv_if_eq (pc := 4) (tgt := 21) hx hb d_Ho_told_4 (by decide) (fun c1 => ?_) (fun c1 => absurd (hg) c1)
  refine lv_iconst (pc := 21) (v := -1) hx hb d_Ho_told_21 (by decide) ?_
  refine W.widen (k := 0) (n := 0) (Nat.le_of_ble_eq_true rfl) (Nat.le_of_ble_eq_true rfl) ?_
  exact W.iret (v := (-1)) hx hb hr (fun t ht hW => ⟨⟨(-1), [], rfl, rfl, by rw [ht]; exact hP, va_K.moved hW.alike hK, hD⟩, hS.F ht⟩) hS.2.2 d_Ho_told_22
set_option maxRecDepth 100000 in
set_option maxHeartbeats 4000000 in
/-- DrawingHouseModel.told(III)I -/
theorem c_Mo_told_z1 (l : Launch) (D : va_G) (kA : Nat → ClassId) (a0 : Nat) (v1 : Int32) (v2 : Int32) (v3 : Int32) (hg : sp_Ho_isPlace v1 = 0) (hgM : sp_Mo_isPlace v1 = 0) : Ci l y_Mo_told z_Mo_told { frames := 2, cells := 0, slots := 0, locals := 42 } D classes (TY kA) [.ref a0, .int v1, .int v2, .int v3] [] (fun r (_ : List va_W) => r = (-1)) (fun u => u) 0 0 := by
  intro sz
  refine k_met (cc := b_Mo_told) (maxL := 6) (ret := (some .int)) (by decide) rfl (Nat.le_of_ble_eq_true rfl) (fun p e s m below meth c ls X hl hB => ?_)
  obtain ⟨hsz, hP, hK, hD0, hN⟩ := hB
  subst hsz
  have hD := hD0.self (sz := s.heap.size)
  generalize hAe : va_A (cat []) s.heap.size = A at hD ⊢
  have hA : ∀ q : Nat, s.heap.size ≤ q → A q := fun q h => by rw [← hAe]; exact Or.inr h
  have hS : va_S A s.heap s.heap [] := va_S.rf
  obtain ⟨hx, hb, hml, hown, hts, hr, hlk, hnm⟩ := id X
  have hl : lv_has ls 6 [(0, .ref a0), (1, .int v1), (2, .int v2), (3, .int v3)] := hl
  have hP : va_P D classes (cat []) s.heap := hP
  have hK : va_K D classes (TY kA) s := hK
  refine lv_iload_n (pc := 0) hx hb d_Mo_told_0 rfl (lv_at hl 1 rfl) ?_
  refine k_goI (gr := []) (k_rS (pc := 1) (As := [.int v1]) (rest := []) X (c_Mo_isPlace l D kA v1 s.heap.size) rfl wm_2978 wm_9 wm_2976 wm_2977 1 (by decide +kernel) ⟨Nat.le_of_ble_eq_true rfl, Nat.le_of_ble_eq_true rfl⟩ rfl rfl (k_pre hN hK hP hD [] [] 0 rfl (by decide) rfl) rfl hl.1 rfl (Nat.le_of_ble_eq_true rfl) d_Mo_told_1 ⟨Nat.le_of_ble_eq_true rfl, Nat.le_of_ble_eq_true rfl⟩) hP hD hS hA [] [] 0 rfl (by decide) rfl rfl (fun r1 u2 H locs hu2 hP hD hS => ?_)
  subst hu2
  have hP : va_P D classes (cat []) H := hP
  have hD : va_D A (cat []) := hD
  refine lv_if_eq (pc := 4) (tgt := 16) hx hb d_Mo_told_4 (by decide) (fun c1 => ?_) (fun c1 => absurd (hgM) c1)
  refine lv_iconst (pc := 16) (v := -1) hx hb d_Mo_told_16 (by decide) ?_
  refine W.widen (k := 0) (n := 0) (Nat.le_of_ble_eq_true rfl) (Nat.le_of_ble_eq_true rfl) ?_
  exact W.iret (v := (-1)) hx hb hr (fun t ht hW => ⟨⟨(-1), [], rfl, rfl, by rw [ht]; exact hP, va_K.moved hW.alike hK, hD⟩, hS.F ht⟩) hS.2.2 d_Mo_told_17
set_option maxRecDepth 100000 in
set_option maxHeartbeats 4000000 in
/-- told, a fresh house -/
theorem lf_told_1 {p : Program} {e : Env} {s : State} {m : MethodId} {below : List Frame} {meth : Method} {c : Code} (l : Launch) {b : Nat} {xs : Nat → Int32} (C0 : lw_At p s m meth c b 6 xs) {D : va_G} {kA : Nat → ClassId} (h : Nat) (h2 : Nat) (q : Nat → Nat) (qm : Nat → Nat) (v1 : Int32) (v2 : Int32) (v3 : Int32) (hg : sp_Ho_isPlace v1 = 0) (hgM : sp_Mo_isPlace v1 = 0) (hv1 : xs 1 = v1) (hv2 : xs 2 = v2) (hv3 : xs 3 = v3) {H : Heap} {locs : List Loc} {ls : Array Slot} (hK : va_K D classes (TY kA) s) (hN : nst s) (hP : va_P D classes (cat [[(h, .inr (12, [.ref (q 0), .ref (q 1), .ref (q 2), .ref (q 3), .ref (q 4), .ref (q 5), .ref (q 6), .int 0, .int ((-1)), .ref (q 9), .ref (q 10), .int 0, .int 0, .ref (q 13), .int 0, .int 0, .null, .null, .null, .null, .null]))], [(h2, .inr (13, mF qm x0Mo y0Mo))]]) H) (hD : va_D (fun q : Nat => s.heap.size ≤ q) (cat [[(h, .inr (12, [.ref (q 0), .ref (q 1), .ref (q 2), .ref (q 3), .ref (q 4), .ref (q 5), .ref (q 6), .int 0, .int ((-1)), .ref (q 9), .ref (q 10), .int 0, .int 0, .ref (q 13), .int 0, .int 0, .null, .null, .null, .null, .null]))], [(h2, .inr (13, mF qm x0Mo y0Mo))]])) (hS : va_S (fun q : Nat => s.heap.size ≤ q) s.heap H locs) (hl : lv_has ls 4 [(3, .int 0), (2, .ref h2), (1, .ref h), (0, .ref b)]) : W p l e room_1 s m #[Value.ref b] below meth c H locs 368 365796 (lw_Z below #[Value.ref b] s) (F0 m 861 ls []) := by
  obtain ⟨hx, hb, hr, hml, hown, hts0, hX, hbl, hlocks, hgv⟩ := id C0
  have hts : ∀ w ∈ lw_g, w.before #[Value.ref b] s = true := fun w h => hts0 w (lw_gt h)
  have X : cx p s m #[Value.ref b] meth c b_law_law 4 ret "DrawingHouseLaw" meth.name := ⟨hx, hb, hml, hown, hts, hr, hlocks, rfl⟩
  obtain ⟨A, hAe⟩ : ∃ A : Nat → Prop, A = fun q : Nat => s.heap.size ≤ q := ⟨_, rfl⟩
  have hA : ∀ q : Nat, s.heap.size ≤ q → A q := fun q h => by rw [hAe]; exact h
  have hbA : ¬ A b := by rw [hAe]; exact Nat.not_le.mpr hbl
  rw [← hAe] at hD hS
  refine lv_aload_n (pc := 861) hx hb d_law_law_861 rfl (lv_at hl 2 rfl) ?_
  refine lv_aload_n (pc := 862) hx hb d_law_law_862 rfl (lv_at hl 3 rfl) ?_
  refine lv_iload_n (pc := 863) hx hb d_law_law_863 rfl (lv_at hl 0 rfl) ?_
  refine lv_iconst (pc := 864) (v := 1) hx hb d_law_law_864 (by decide) ?_
  refine lv_iadd (pc := 865) hx hb d_law_law_865 ?_
  refine k_cst (v := 1) (by decide) ?_
  refine va_sld (pc := 866) hx hb hX hbl hbA hS (by unfold vp_in; decide) d_law_law_866 ?_
  refine k_cst (v := v1) hv1 ?_
  refine lv_aload_n (pc := 867) hx hb d_law_law_867 rfl (lv_at hl 3 rfl) ?_
  refine lv_iload_n (pc := 868) hx hb d_law_law_868 rfl (lv_at hl 0 rfl) ?_
  refine lv_iconst (pc := 869) (v := 2) hx hb d_law_law_869 (by decide) ?_
  refine lv_iadd (pc := 870) hx hb d_law_law_870 ?_
  refine k_cst (v := 2) (by decide) ?_
  refine va_sld (pc := 871) hx hb hX hbl hbA hS (by unfold vp_in; decide) d_law_law_871 ?_
  refine k_cst (v := v2) hv2 ?_
  refine lv_aload_n (pc := 872) hx hb d_law_law_872 rfl (lv_at hl 3 rfl) ?_
  refine lv_iload_n (pc := 873) hx hb d_law_law_873 rfl (lv_at hl 0 rfl) ?_
  refine lv_iconst (pc := 874) (v := 3) hx hb d_law_law_874 (by decide) ?_
  refine lv_iadd (pc := 875) hx hb d_law_law_875 ?_
  refine k_cst (v := 3) (by decide) ?_
  refine va_sld (pc := 876) hx hb hX hbl hbA hS (by unfold vp_in; decide) d_law_law_876 ?_
  refine k_cst (v := v3) hv3 ?_
  refine k_goI (gr := [[(h, .inr (12, [.ref (q 0), .ref (q 1), .ref (q 2), .ref (q 3), .ref (q 4), .ref (q 5), .ref (q 6), .int 0, .int ((-1)), .ref (q 9), .ref (q 10), .int 0, .int 0, .ref (q 13), .int 0, .int 0, .null, .null, .null, .null, .null]))], [(h2, .inr (13, mF qm x0Mo y0Mo))]]) (k_rV (pc := 877) (As := [.int v1, .int v2, .int v3]) (rest := []) X (c_Ho_told_z1 l D kA h v1 v2 v3 hg hgM H.size) rfl wm_1828 wm_1 wm_1825 wm_1826 wm_1827 3 (by decide +kernel) ⟨Nat.le_of_ble_eq_true rfl, Nat.le_of_ble_eq_true rfl⟩ rfl rfl (va_recv hK hP (ci := 12) (q0 := 0) rfl rfl) (k_pre hN hK hP hD [] [0, 1] 2 rfl (by decide) rfl) rfl hl.1 rfl (Nat.le_of_ble_eq_true rfl) d_law_law_877 ⟨Nat.le_of_ble_eq_true rfl, Nat.le_of_ble_eq_true rfl⟩) hP hD hS hA [] [0, 1] 2 rfl (by decide) rfl rfl (fun r1 u2 H locs hu2 hP hD hS => ?_)
  obtain ⟨hP, hD⟩ := k_left hP hD
  subst hu2
  have hP : va_P D classes (cat [[(h, .inr (12, [.ref (q 0), .ref (q 1), .ref (q 2), .ref (q 3), .ref (q 4), .ref (q 5), .ref (q 6), .int 0, .int ((-1)), .ref (q 9), .ref (q 10), .int 0, .int 0, .ref (q 13), .int 0, .int 0, .null, .null, .null, .null, .null]))], [(h2, .inr (13, mF qm x0Mo y0Mo))]]) H := hP
  have hD : va_D A (cat [[(h, .inr (12, [.ref (q 0), .ref (q 1), .ref (q 2), .ref (q 3), .ref (q 4), .ref (q 5), .ref (q 6), .int 0, .int ((-1)), .ref (q 9), .ref (q 10), .int 0, .int 0, .ref (q 13), .int 0, .int 0, .null, .null, .null, .null, .null]))], [(h2, .inr (13, mF qm x0Mo y0Mo))]]) := hD
  refine lv_aload_n (pc := 880) hx hb d_law_law_880 rfl (lv_at hl 1 rfl) ?_
  refine lv_aload_n (pc := 881) hx hb d_law_law_881 rfl (lv_at hl 3 rfl) ?_
  refine lv_iload_n (pc := 882) hx hb d_law_law_882 rfl (lv_at hl 0 rfl) ?_
  refine lv_iconst (pc := 883) (v := 1) hx hb d_law_law_883 (by decide) ?_
  refine lv_iadd (pc := 884) hx hb d_law_law_884 ?_
  refine k_cst (v := 1) (by decide) ?_
  refine va_sld (pc := 885) hx hb hX hbl hbA hS (by unfold vp_in; decide) d_law_law_885 ?_
  refine k_cst (v := v1) hv1 ?_
  refine lv_aload_n (pc := 886) hx hb d_law_law_886 rfl (lv_at hl 3 rfl) ?_
  refine lv_iload_n (pc := 887) hx hb d_law_law_887 rfl (lv_at hl 0 rfl) ?_
  refine lv_iconst (pc := 888) (v := 2) hx hb d_law_law_888 (by decide) ?_
  refine lv_iadd (pc := 889) hx hb d_law_law_889 ?_
  refine k_cst (v := 2) (by decide) ?_
  refine va_sld (pc := 890) hx hb hX hbl hbA hS (by unfold vp_in; decide) d_law_law_890 ?_
  refine k_cst (v := v2) hv2 ?_
  refine lv_aload_n (pc := 891) hx hb d_law_law_891 rfl (lv_at hl 3 rfl) ?_
  refine lv_iload_n (pc := 892) hx hb d_law_law_892 rfl (lv_at hl 0 rfl) ?_
  refine lv_iconst (pc := 893) (v := 3) hx hb d_law_law_893 (by decide) ?_
  refine lv_iadd (pc := 894) hx hb d_law_law_894 ?_
  refine k_cst (v := 3) (by decide) ?_
  refine va_sld (pc := 895) hx hb hX hbl hbA hS (by unfold vp_in; decide) d_law_law_895 ?_
  refine k_cst (v := v3) hv3 ?_
  refine k_goI (gr := [[(h, .inr (12, [.ref (q 0), .ref (q 1), .ref (q 2), .ref (q 3), .ref (q 4), .ref (q 5), .ref (q 6), .int 0, .int ((-1)), .ref (q 9), .ref (q 10), .int 0, .int 0, .ref (q 13), .int 0, .int 0, .null, .null, .null, .null, .null]))], [(h2, .inr (13, mF qm x0Mo y0Mo))]]) (k_rV (pc := 896) (As := [.int v1, .int v2, .int v3]) (rest := [.int ((-1))]) X (c_Mo_told_z1 l D kA h2 v1 v2 v3 hg hgM H.size) rfl wm_3657 wm_9 wm_3654 wm_3655 wm_3656 3 (by decide +kernel) ⟨Nat.le_of_ble_eq_true rfl, Nat.le_of_ble_eq_true rfl⟩ rfl rfl (va_recv hK hP (ci := 13) (q0 := 1) rfl rfl) (k_pre hN hK hP hD [] [0, 1] 2 rfl (by decide) rfl) rfl hl.1 rfl (Nat.le_of_ble_eq_true rfl) d_law_law_896 ⟨Nat.le_of_ble_eq_true rfl, Nat.le_of_ble_eq_true rfl⟩) hP hD hS hA [] [0, 1] 2 rfl (by decide) rfl rfl (fun r3 u4 H locs hu4 hP hD hS => ?_)
  obtain ⟨hP, hD⟩ := k_left hP hD
  subst hu4
  have hP : va_P D classes (cat [[(h, .inr (12, [.ref (q 0), .ref (q 1), .ref (q 2), .ref (q 3), .ref (q 4), .ref (q 5), .ref (q 6), .int 0, .int ((-1)), .ref (q 9), .ref (q 10), .int 0, .int 0, .ref (q 13), .int 0, .int 0, .null, .null, .null, .null, .null]))], [(h2, .inr (13, mF qm x0Mo y0Mo))]]) H := hP
  have hD : va_D A (cat [[(h, .inr (12, [.ref (q 0), .ref (q 1), .ref (q 2), .ref (q 3), .ref (q 4), .ref (q 5), .ref (q 6), .int 0, .int ((-1)), .ref (q 9), .ref (q 10), .int 0, .int 0, .ref (q 13), .int 0, .int 0, .null, .null, .null, .null, .null]))], [(h2, .inr (13, mF qm x0Mo y0Mo))]]) := hD
  refine lv_icmp_eq (pc := 899) (tgt := 1295) hx hb d_law_law_899 (by decide) (fun _ => ?_) (fun c1 => absurd (by decide) c1)
  rw [hAe] at hS
  exact law_exit l C0 (Nat.le_of_ble_eq_true rfl) (Nat.le_of_ble_eq_true rfl) hS hl
set_option maxRecDepth 100000 in
set_option maxHeartbeats 4000000 in
/-- DrawingHouse$Drawing.report(II)I -/
theorem c_Dr_report_z1 (l : Launch) (D : va_G) (kA : Nat → ClassId) (g : Nat → Nat → Nat) (j : Nat) (v2 : Int32) (v3 : Int32) (a0 : Nat) (a1 : Nat) (a2 : Nat) (a3 : Nat) (a4 : Nat) (a5 : Nat) (a6 : Nat) (a7 : Nat) (a8 : Nat) (a9 : Nat) (a10 : Nat) (a11 : Nat) (a12 : Nat) (hj : j < 4) : Ci l y_Dr_report z_Dr_report { frames := 0, cells := 0, slots := 0, locals := 0 } D classes (TY kA) [.ref (g 3 j), .int v2, .int v3] [[(g 3 j, .inr (0, [.ref a0, .int ((-1)), .ref a1, .ref a2, .ref a3, .ref a4, .ref a5, .int 0, .int 0, .int 0, .ref a6, .ref a7, .ref a8, .ref a9, .ref a10, .ref a11, .ref a12, .int 0, .int 0, .int 0, .int 0]))]] (fun r (_ : Unit) => r = (-1)) (fun u => [[(g 3 j, .inr (0, [.ref a0, .int ((-1)), .ref a1, .ref a2, .ref a3, .ref a4, .ref a5, .int 0, .int 0, .int 0, .ref a6, .ref a7, .ref a8, .ref a9, .ref a10, .ref a11, .ref a12, .int 0, .int 0, .int 0, .int 0]))]]) 0 0 := by
  intro sz
  refine k_met (cc := b_Dr_report) (maxL := 3) (ret := (some .int)) (by decide) rfl (Nat.le_of_ble_eq_true rfl) (fun p e s m below meth c ls X hl hB => ?_)
  obtain ⟨hsz, hP, hK, hD0, hN⟩ := hB
  subst hsz
  have hD := hD0.self (sz := s.heap.size)
  generalize hAe : va_A (cat [[(g 3 j, .inr (0, [.ref a0, .int ((-1)), .ref a1, .ref a2, .ref a3, .ref a4, .ref a5, .int 0, .int 0, .int 0, .ref a6, .ref a7, .ref a8, .ref a9, .ref a10, .ref a11, .ref a12, .int 0, .int 0, .int 0, .int 0]))]]) s.heap.size = A at hD ⊢
  have hA : ∀ q : Nat, s.heap.size ≤ q → A q := fun q h => by rw [← hAe]; exact Or.inr h
  have hS : va_S A s.heap s.heap [] := va_S.rf
  obtain ⟨hx, hb, hml, hown, hts, hr, hlk, hnm⟩ := id X
  have hl : lv_has ls 3 [(0, .ref (g 3 j)), (1, .int v2), (2, .int v3)] := hl
  have hP : va_P D classes (cat [[(g 3 j, .inr (0, [.ref a0, .int ((-1)), .ref a1, .ref a2, .ref a3, .ref a4, .ref a5, .int 0, .int 0, .int 0, .ref a6, .ref a7, .ref a8, .ref a9, .ref a10, .ref a11, .ref a12, .int 0, .int 0, .int 0, .int 0]))]]) s.heap := hP
  have hK : va_K D classes (TY kA) s := hK
  refine lv_aload_n (pc := 0) hx hb d_Dr_report_0 rfl (lv_at hl 0 rfl) ?_
  refine k_get (pc := 1) X hK hP 0 rfl rfl i_Dr 1 (by decide) wm_466 rfl rfl d_Dr_report_1 ?_
  refine lv_iconst (pc := 4) (v := -1) hx hb d_Dr_report_4 (by decide) ?_
  refine lv_icmp_ne (pc := 5) (tgt := 10) hx hb d_Dr_report_5 (by decide) (fun c1 => absurd (by decide) c1) (fun _ => ?_)
  refine lv_iconst (pc := 8) (v := -1) hx hb d_Dr_report_8 (by decide) ?_
  refine W.widen (k := 0) (n := 0) (Nat.le_of_ble_eq_true rfl) (Nat.le_of_ble_eq_true rfl) ?_
  exact W.iret (v := (-1)) hx hb hr (fun t ht hW => ⟨⟨(-1), (), rfl, rfl, by rw [ht]; exact hP, va_K.moved hW.alike hK, hD⟩, hS.F ht⟩) hS.2.2 d_Dr_report_9
set_option maxRecDepth 100000 in
set_option maxHeartbeats 4000000 in
/-- DrawingHouse.told(III)I -/
theorem c_Ho_told_z2 (l : Launch) (D : va_G) (kA : Nat → ClassId) (a0 : Nat) (j : Nat) (v2 : Int32) (v3 : Int32) (a1 : Nat) (a2 : Nat) (a3 : Nat) (a4 : Nat) (a5 : Nat) (a6 : Nat) (a7 : Nat) (a8 : Nat) (a9 : Nat) (a10 : Nat) (g : Nat → Nat → Nat) (a11 : Nat) (a12 : Nat) (a13 : Nat) (a14 : Nat) (a15 : Nat) (a16 : Nat) (a17 : Nat) (a18 : Nat) (a19 : Nat) (a20 : Nat) (a21 : Nat) (a22 : Nat) (a23 : Nat) (hj : j < 4) : Ci l y_Ho_told z_Ho_told { frames := 1, cells := 0, slots := 0, locals := 22 } D classes (TY kA) [.ref a0, .int (nI j), .int v2, .int v3] [[(a0, .inr (12, [.ref a1, .ref a2, .ref a3, .ref a4, .ref a5, .ref a6, .ref a7, .int 0, .int ((-1)), .ref a8, .ref a9, .int 0, .int 0, .ref a10, .int 0, .int 0, .null, .null, .null, .null, .null]))], [(a4, .inl (kA 7, 4, .inr (.inr (.inr (.inr (rr (g 3)))))))], [(g 3 j, .inr (0, [.ref a11, .int ((-1)), .ref a12, .ref a13, .ref a14, .ref a15, .ref a16, .int 0, .int 0, .int 0, .ref a17, .ref a18, .ref a19, .ref a20, .ref a21, .ref a22, .ref a23, .int 0, .int 0, .int 0, .int 0]))]] (fun r (_ : List va_W) => r = (-1)) (fun u => u) 0 0 := by
  intro sz
  refine k_met (cc := b_Ho_told) (maxL := 4) (ret := (some .int)) (by decide) rfl (Nat.le_of_ble_eq_true rfl) (fun p e s m below meth c ls X hl hB => ?_)
  obtain ⟨hsz, hP, hK, hD0, hN⟩ := hB
  subst hsz
  have hD := hD0.self (sz := s.heap.size)
  generalize hAe : va_A (cat [[(a0, .inr (12, [.ref a1, .ref a2, .ref a3, .ref a4, .ref a5, .ref a6, .ref a7, .int 0, .int ((-1)), .ref a8, .ref a9, .int 0, .int 0, .ref a10, .int 0, .int 0, .null, .null, .null, .null, .null]))], [(a4, .inl (kA 7, 4, .inr (.inr (.inr (.inr (rr (g 3)))))))], [(g 3 j, .inr (0, [.ref a11, .int ((-1)), .ref a12, .ref a13, .ref a14, .ref a15, .ref a16, .int 0, .int 0, .int 0, .ref a17, .ref a18, .ref a19, .ref a20, .ref a21, .ref a22, .ref a23, .int 0, .int 0, .int 0, .int 0]))]]) s.heap.size = A at hD ⊢
  have hA : ∀ q : Nat, s.heap.size ≤ q → A q := fun q h => by rw [← hAe]; exact Or.inr h
  have hS : va_S A s.heap s.heap [] := va_S.rf
  obtain ⟨hx, hb, hml, hown, hts, hr, hlk, hnm⟩ := id X
  have hl : lv_has ls 4 [(0, .ref a0), (1, .int (nI j)), (2, .int v2), (3, .int v3)] := hl
  have hP : va_P D classes (cat [[(a0, .inr (12, [.ref a1, .ref a2, .ref a3, .ref a4, .ref a5, .ref a6, .ref a7, .int 0, .int ((-1)), .ref a8, .ref a9, .int 0, .int 0, .ref a10, .int 0, .int 0, .null, .null, .null, .null, .null]))], [(a4, .inl (kA 7, 4, .inr (.inr (.inr (.inr (rr (g 3)))))))], [(g 3 j, .inr (0, [.ref a11, .int ((-1)), .ref a12, .ref a13, .ref a14, .ref a15, .ref a16, .int 0, .int 0, .int 0, .ref a17, .ref a18, .ref a19, .ref a20, .ref a21, .ref a22, .ref a23, .int 0, .int 0, .int 0, .int 0]))]]) s.heap := hP
  have hK : va_K D classes (TY kA) s := hK
  refine lv_iload_n (pc := 0) hx hb d_Ho_told_0 rfl (lv_at hl 1 rfl) ?_
  refine k_goI (gr := [[(a0, .inr (12, [.ref a1, .ref a2, .ref a3, .ref a4, .ref a5, .ref a6, .ref a7, .int 0, .int ((-1)), .ref a8, .ref a9, .int 0, .int 0, .ref a10, .int 0, .int 0, .null, .null, .null, .null, .null]))], [(a4, .inl (kA 7, 4, .inr (.inr (.inr (.inr (rr (g 3)))))))], [(g 3 j, .inr (0, [.ref a11, .int ((-1)), .ref a12, .ref a13, .ref a14, .ref a15, .ref a16, .int 0, .int 0, .int 0, .ref a17, .ref a18, .ref a19, .ref a20, .ref a21, .ref a22, .ref a23, .int 0, .int 0, .int 0, .int 0]))]]) (k_rS (pc := 1) (As := [.int (nI j)]) (rest := []) X (c_Ho_isPlace l D kA (nI j) s.heap.size) rfl wm_633 wm_1 wm_631 wm_632 1 (by decide +kernel) ⟨Nat.le_of_ble_eq_true rfl, Nat.le_of_ble_eq_true rfl⟩ rfl rfl (k_pre hN hK hP hD [] [0, 1, 2] 3 rfl (by decide) rfl) rfl hl.1 rfl (Nat.le_of_ble_eq_true rfl) d_Ho_told_1 ⟨Nat.le_of_ble_eq_true rfl, Nat.le_of_ble_eq_true rfl⟩) hP hD hS hA [] [0, 1, 2] 3 rfl (by decide) rfl rfl (fun r1 u2 H locs hu2 hP hD hS => ?_)
  subst hu2
  refine k_cst (v := 1) (place_ok hj) ?_
  have hP : va_P D classes (cat [[(a0, .inr (12, [.ref a1, .ref a2, .ref a3, .ref a4, .ref a5, .ref a6, .ref a7, .int 0, .int ((-1)), .ref a8, .ref a9, .int 0, .int 0, .ref a10, .int 0, .int 0, .null, .null, .null, .null, .null]))], [(a4, .inl (kA 7, 4, .inr (.inr (.inr (.inr (rr (g 3)))))))], [(g 3 j, .inr (0, [.ref a11, .int ((-1)), .ref a12, .ref a13, .ref a14, .ref a15, .ref a16, .int 0, .int 0, .int 0, .ref a17, .ref a18, .ref a19, .ref a20, .ref a21, .ref a22, .ref a23, .int 0, .int 0, .int 0, .int 0]))]]) H := hP
  have hD : va_D A (cat [[(a0, .inr (12, [.ref a1, .ref a2, .ref a3, .ref a4, .ref a5, .ref a6, .ref a7, .int 0, .int ((-1)), .ref a8, .ref a9, .int 0, .int 0, .ref a10, .int 0, .int 0, .null, .null, .null, .null, .null]))], [(a4, .inl (kA 7, 4, .inr (.inr (.inr (.inr (rr (g 3)))))))], [(g 3 j, .inr (0, [.ref a11, .int ((-1)), .ref a12, .ref a13, .ref a14, .ref a15, .ref a16, .int 0, .int 0, .int 0, .ref a17, .ref a18, .ref a19, .ref a20, .ref a21, .ref a22, .ref a23, .int 0, .int 0, .int 0, .int 0]))]]) := hD
  refine lv_if_eq (pc := 4) (tgt := 21) hx hb d_Ho_told_4 (by decide) (fun c1 => absurd c1 (by decide)) (fun c1 => ?_)
  refine lv_aload_n (pc := 7) hx hb d_Ho_told_7 rfl (lv_at hl 0 rfl) ?_
  refine k_get (pc := 8) X hK hP 0 rfl rfl i_Ho 3 (by decide) wm_558 rfl rfl d_Ho_told_8 ?_
  refine lv_iload_n (pc := 11) hx hb d_Ho_told_11 rfl (lv_at hl 1 rfl) ?_
  refine k_ald (pc := 12) hx hb hK hP 1 7 rfl rfl (j) rfl (by omega) (by decide) (rr_at (by omega)) d_Ho_told_12 ?_
  refine lv_iload_n (pc := 13) hx hb d_Ho_told_13 rfl (lv_at hl 2 rfl) ?_
  refine lv_iload_n (pc := 14) hx hb d_Ho_told_14 rfl (lv_at hl 3 rfl) ?_
  refine k_goI (gr := [[(a0, .inr (12, [.ref a1, .ref a2, .ref a3, .ref a4, .ref a5, .ref a6, .ref a7, .int 0, .int ((-1)), .ref a8, .ref a9, .int 0, .int 0, .ref a10, .int 0, .int 0, .null, .null, .null, .null, .null]))], [(a4, .inl (kA 7, 4, .inr (.inr (.inr (.inr (rr (g 3)))))))]]) (k_rV (pc := 15) (As := [.int v2, .int v3]) (rest := []) X (c_Dr_report_z1 l D kA g j v2 v3 a11 a12 a13 a14 a15 a16 a17 a18 a19 a20 a21 a22 a23 hj H.size) rfl wm_1832 wm_8 wm_1829 wm_1830 wm_1831 2 (by decide +kernel) ⟨Nat.le_of_ble_eq_true rfl, Nat.le_of_ble_eq_true rfl⟩ rfl rfl (va_recv hK hP (ci := 0) (q0 := 2) rfl rfl) (k_pre hN hK hP hD [2] [0, 1] 3 rfl (by decide) rfl) rfl hl.1 rfl (Nat.le_of_ble_eq_true rfl) d_Ho_told_15 ⟨Nat.le_of_ble_eq_true rfl, Nat.le_of_ble_eq_true rfl⟩) hP hD hS hA [2] [0, 1] 3 rfl (by decide) rfl rfl (fun r3 u4 H locs hu4 hP hD hS => ?_)
  subst hu4
  have hP : va_P D classes (cat [[(a0, .inr (12, [.ref a1, .ref a2, .ref a3, .ref a4, .ref a5, .ref a6, .ref a7, .int 0, .int ((-1)), .ref a8, .ref a9, .int 0, .int 0, .ref a10, .int 0, .int 0, .null, .null, .null, .null, .null]))], [(a4, .inl (kA 7, 4, .inr (.inr (.inr (.inr (rr (g 3)))))))], [(g 3 j, .inr (0, [.ref a11, .int ((-1)), .ref a12, .ref a13, .ref a14, .ref a15, .ref a16, .int 0, .int 0, .int 0, .ref a17, .ref a18, .ref a19, .ref a20, .ref a21, .ref a22, .ref a23, .int 0, .int 0, .int 0, .int 0]))]]) H := hP
  have hD : va_D A (cat [[(a0, .inr (12, [.ref a1, .ref a2, .ref a3, .ref a4, .ref a5, .ref a6, .ref a7, .int 0, .int ((-1)), .ref a8, .ref a9, .int 0, .int 0, .ref a10, .int 0, .int 0, .null, .null, .null, .null, .null]))], [(a4, .inl (kA 7, 4, .inr (.inr (.inr (.inr (rr (g 3)))))))], [(g 3 j, .inr (0, [.ref a11, .int ((-1)), .ref a12, .ref a13, .ref a14, .ref a15, .ref a16, .int 0, .int 0, .int 0, .ref a17, .ref a18, .ref a19, .ref a20, .ref a21, .ref a22, .ref a23, .int 0, .int 0, .int 0, .int 0]))]]) := hD
  refine lv_goto (pc := 18) (tgt := 22) hx hb d_Ho_told_18 (by decide) ?_
  refine W.widen (k := 0) (n := 0) (Nat.le_of_ble_eq_true rfl) (Nat.le_of_ble_eq_true rfl) ?_
  exact W.iret (v := (-1)) hx hb hr (fun t ht hW => ⟨⟨(-1), [[(a0, .inr (12, [.ref a1, .ref a2, .ref a3, .ref a4, .ref a5, .ref a6, .ref a7, .int 0, .int ((-1)), .ref a8, .ref a9, .int 0, .int 0, .ref a10, .int 0, .int 0, .null, .null, .null, .null, .null]))], [(a4, .inl (kA 7, 4, .inr (.inr (.inr (.inr (rr (g 3)))))))], [(g 3 j, .inr (0, [.ref a11, .int ((-1)), .ref a12, .ref a13, .ref a14, .ref a15, .ref a16, .int 0, .int 0, .int 0, .ref a17, .ref a18, .ref a19, .ref a20, .ref a21, .ref a22, .ref a23, .int 0, .int 0, .int 0, .int 0]))]], rfl, rfl, by rw [ht]; exact hP, va_K.moved hW.alike hK, hD⟩, hS.F ht⟩) hS.2.2 d_Ho_told_22
set_option maxRecDepth 100000 in
set_option maxHeartbeats 4000000 in
/-- DrawingHouseModel.told(III)I -/
theorem c_Mo_told_z2 (l : Launch) (D : va_G) (kA : Nat → ClassId) (a0 : Nat) (j : Nat) (v2 : Int32) (v3 : Int32) (qm : Nat → Nat) (hj : j < 4) : Ci l y_Mo_told z_Mo_told { frames := 2, cells := 0, slots := 0, locals := 42 } D classes (TY kA) [.ref a0, .int (nI j), .int v2, .int v3] [[(a0, .inr (13, mF qm x0Mo y0Mo))], [(qm 61, .inl (kA 0, 4, .inl (upd (upd (upd (upd (fun _ => 0) 0 (-1)) 1 (-1)) 2 (-1)) 3 (-1))))]] (fun r (_ : List va_W) => r = (-1)) (fun u => u) 0 0 := by
  intro sz
  refine k_met (cc := b_Mo_told) (maxL := 6) (ret := (some .int)) (by decide) rfl (Nat.le_of_ble_eq_true rfl) (fun p e s m below meth c ls X hl hB => ?_)
  obtain ⟨hsz, hP, hK, hD0, hN⟩ := hB
  subst hsz
  have hD := hD0.self (sz := s.heap.size)
  generalize hAe : va_A (cat [[(a0, .inr (13, mF qm x0Mo y0Mo))], [(qm 61, .inl (kA 0, 4, .inl (upd (upd (upd (upd (fun _ => 0) 0 (-1)) 1 (-1)) 2 (-1)) 3 (-1))))]]) s.heap.size = A at hD ⊢
  have hA : ∀ q : Nat, s.heap.size ≤ q → A q := fun q h => by rw [← hAe]; exact Or.inr h
  have hS : va_S A s.heap s.heap [] := va_S.rf
  obtain ⟨hx, hb, hml, hown, hts, hr, hlk, hnm⟩ := id X
  have hl : lv_has ls 6 [(0, .ref a0), (1, .int (nI j)), (2, .int v2), (3, .int v3)] := hl
  have hP : va_P D classes (cat [[(a0, .inr (13, mF qm x0Mo y0Mo))], [(qm 61, .inl (kA 0, 4, .inl (upd (upd (upd (upd (fun _ => 0) 0 (-1)) 1 (-1)) 2 (-1)) 3 (-1))))]]) s.heap := hP
  have hK : va_K D classes (TY kA) s := hK
  refine lv_iload_n (pc := 0) hx hb d_Mo_told_0 rfl (lv_at hl 1 rfl) ?_
  refine k_goI (gr := [[(a0, .inr (13, mF qm x0Mo y0Mo))], [(qm 61, .inl (kA 0, 4, .inl (upd (upd (upd (upd (fun _ => 0) 0 (-1)) 1 (-1)) 2 (-1)) 3 (-1))))]]) (k_rS (pc := 1) (As := [.int (nI j)]) (rest := []) X (c_Mo_isPlace l D kA (nI j) s.heap.size) rfl wm_2978 wm_9 wm_2976 wm_2977 1 (by decide +kernel) ⟨Nat.le_of_ble_eq_true rfl, Nat.le_of_ble_eq_true rfl⟩ rfl rfl (k_pre hN hK hP hD [] [0, 1] 2 rfl (by decide) rfl) rfl hl.1 rfl (Nat.le_of_ble_eq_true rfl) d_Mo_told_1 ⟨Nat.le_of_ble_eq_true rfl, Nat.le_of_ble_eq_true rfl⟩) hP hD hS hA [] [0, 1] 2 rfl (by decide) rfl rfl (fun r1 u2 H locs hu2 hP hD hS => ?_)
  subst hu2
  refine k_cst (v := 1) (placeM_ok hj) ?_
  have hP : va_P D classes (cat [[(a0, .inr (13, mF qm x0Mo y0Mo))], [(qm 61, .inl (kA 0, 4, .inl (upd (upd (upd (upd (fun _ => 0) 0 (-1)) 1 (-1)) 2 (-1)) 3 (-1))))]]) H := hP
  have hD : va_D A (cat [[(a0, .inr (13, mF qm x0Mo y0Mo))], [(qm 61, .inl (kA 0, 4, .inl (upd (upd (upd (upd (fun _ => 0) 0 (-1)) 1 (-1)) 2 (-1)) 3 (-1))))]]) := hD
  refine lv_if_eq (pc := 4) (tgt := 16) hx hb d_Mo_told_4 (by decide) (fun c1 => absurd c1 (by decide)) (fun c1 => ?_)
  refine lv_aload_n (pc := 7) hx hb d_Mo_told_7 rfl (lv_at hl 0 rfl) ?_
  refine k_get (pc := 8) (v := .ref (qm 61)) X hK hP 0 rfl rfl i_Mo 61 (by decide) wm_2493 rfl rfl d_Mo_told_8 ?_
  refine lv_iload_n (pc := 11) hx hb d_Mo_told_11 rfl (lv_at hl 1 rfl) ?_
  refine k_ild (pc := 12) hx hb hK hP 1 0 rfl rfl (j) rfl (by omega) (by decide) d_Mo_told_12 ?_
  refine k_cst (v := (-1)) (drawn0 hj) ?_
  refine lv_if_ge (pc := 13) (tgt := 18) hx hb d_Mo_told_13 (by decide) (fun c1 => absurd c1 (by decide)) (fun c1 => ?_)
  refine lv_iconst (pc := 16) (v := -1) hx hb d_Mo_told_16 (by decide) ?_
  refine W.widen (k := 0) (n := 0) (Nat.le_of_ble_eq_true rfl) (Nat.le_of_ble_eq_true rfl) ?_
  exact W.iret (v := (-1)) hx hb hr (fun t ht hW => ⟨⟨(-1), [[(a0, .inr (13, mF qm x0Mo y0Mo))], [(qm 61, .inl (kA 0, 4, .inl (upd (upd (upd (upd (fun _ => 0) 0 (-1)) 1 (-1)) 2 (-1)) 3 (-1))))]], rfl, rfl, by rw [ht]; exact hP, va_K.moved hW.alike hK, hD⟩, hS.F ht⟩) hS.2.2 d_Mo_told_17
set_option maxRecDepth 100000 in
set_option maxHeartbeats 4000000 in
/-- told, a fresh house -/
theorem lf_told_2 {p : Program} {e : Env} {s : State} {m : MethodId} {below : List Frame} {meth : Method} {c : Code} (l : Launch) {b : Nat} {xs : Nat → Int32} (C0 : lw_At p s m meth c b 6 xs) {D : va_G} {kA : Nat → ClassId} (h : Nat) (h2 : Nat) (q : Nat → Nat) (qd : Nat → Nat) (qm : Nat → Nat) (g : Nat → Nat → Nat) (j : Nat) (v2 : Int32) (v3 : Int32) (hj : j < 4) (hv1 : xs 1 = nI j) (hv2 : xs 2 = v2) (hv3 : xs 3 = v3) {H : Heap} {locs : List Loc} {ls : Array Slot} (hK : va_K D classes (TY kA) s) (hN : nst s) (hP : va_P D classes (cat [[(h, .inr (12, [.ref (q 0), .ref (q 1), .ref (q 2), .ref (q 3), .ref (q 4), .ref (q 5), .ref (q 6), .int 0, .int ((-1)), .ref (q 9), .ref (q 10), .int 0, .int 0, .ref (q 13), .int 0, .int 0, .null, .null, .null, .null, .null]))], [(q 3, .inl (kA 7, 4, .inr (.inr (.inr (.inr (rr (g 3)))))))], [(g 3 j, .inr (0, [.ref (qd 0), .int ((-1)), .ref (qd 2), .ref (qd 3), .ref (qd 4), .ref (qd 5), .ref (qd 6), .int 0, .int 0, .int 0, .ref (qd 10), .ref (qd 11), .ref (qd 12), .ref (qd 13), .ref (qd 14), .ref (qd 15), .ref (qd 16), .int 0, .int 0, .int 0, .int 0]))], [(h2, .inr (13, mF qm x0Mo y0Mo))], [(qm 61, .inl (kA 0, 4, .inl (upd (upd (upd (upd (fun _ => 0) 0 (-1)) 1 (-1)) 2 (-1)) 3 (-1))))]]) H) (hD : va_D (fun q : Nat => s.heap.size ≤ q) (cat [[(h, .inr (12, [.ref (q 0), .ref (q 1), .ref (q 2), .ref (q 3), .ref (q 4), .ref (q 5), .ref (q 6), .int 0, .int ((-1)), .ref (q 9), .ref (q 10), .int 0, .int 0, .ref (q 13), .int 0, .int 0, .null, .null, .null, .null, .null]))], [(q 3, .inl (kA 7, 4, .inr (.inr (.inr (.inr (rr (g 3)))))))], [(g 3 j, .inr (0, [.ref (qd 0), .int ((-1)), .ref (qd 2), .ref (qd 3), .ref (qd 4), .ref (qd 5), .ref (qd 6), .int 0, .int 0, .int 0, .ref (qd 10), .ref (qd 11), .ref (qd 12), .ref (qd 13), .ref (qd 14), .ref (qd 15), .ref (qd 16), .int 0, .int 0, .int 0, .int 0]))], [(h2, .inr (13, mF qm x0Mo y0Mo))], [(qm 61, .inl (kA 0, 4, .inl (upd (upd (upd (upd (fun _ => 0) 0 (-1)) 1 (-1)) 2 (-1)) 3 (-1))))]])) (hS : va_S (fun q : Nat => s.heap.size ≤ q) s.heap H locs) (hl : lv_has ls 4 [(3, .int 0), (2, .ref h2), (1, .ref h), (0, .ref b)]) : W p l e room_1 s m #[Value.ref b] below meth c H locs 368 365796 (lw_Z below #[Value.ref b] s) (F0 m 861 ls []) := by
  obtain ⟨hx, hb, hr, hml, hown, hts0, hX, hbl, hlocks, hgv⟩ := id C0
  have hts : ∀ w ∈ lw_g, w.before #[Value.ref b] s = true := fun w h => hts0 w (lw_gt h)
  have X : cx p s m #[Value.ref b] meth c b_law_law 4 ret "DrawingHouseLaw" meth.name := ⟨hx, hb, hml, hown, hts, hr, hlocks, rfl⟩
  obtain ⟨A, hAe⟩ : ∃ A : Nat → Prop, A = fun q : Nat => s.heap.size ≤ q := ⟨_, rfl⟩
  have hA : ∀ q : Nat, s.heap.size ≤ q → A q := fun q h => by rw [hAe]; exact h
  have hbA : ¬ A b := by rw [hAe]; exact Nat.not_le.mpr hbl
  rw [← hAe] at hD hS
  refine lv_aload_n (pc := 861) hx hb d_law_law_861 rfl (lv_at hl 2 rfl) ?_
  refine lv_aload_n (pc := 862) hx hb d_law_law_862 rfl (lv_at hl 3 rfl) ?_
  refine lv_iload_n (pc := 863) hx hb d_law_law_863 rfl (lv_at hl 0 rfl) ?_
  refine lv_iconst (pc := 864) (v := 1) hx hb d_law_law_864 (by decide) ?_
  refine lv_iadd (pc := 865) hx hb d_law_law_865 ?_
  refine k_cst (v := 1) (by decide) ?_
  refine va_sld (pc := 866) hx hb hX hbl hbA hS (by unfold vp_in; decide) d_law_law_866 ?_
  refine k_cst (v := nI j) hv1 ?_
  refine lv_aload_n (pc := 867) hx hb d_law_law_867 rfl (lv_at hl 3 rfl) ?_
  refine lv_iload_n (pc := 868) hx hb d_law_law_868 rfl (lv_at hl 0 rfl) ?_
  refine lv_iconst (pc := 869) (v := 2) hx hb d_law_law_869 (by decide) ?_
  refine lv_iadd (pc := 870) hx hb d_law_law_870 ?_
  refine k_cst (v := 2) (by decide) ?_
  refine va_sld (pc := 871) hx hb hX hbl hbA hS (by unfold vp_in; decide) d_law_law_871 ?_
  refine k_cst (v := v2) hv2 ?_
  refine lv_aload_n (pc := 872) hx hb d_law_law_872 rfl (lv_at hl 3 rfl) ?_
  refine lv_iload_n (pc := 873) hx hb d_law_law_873 rfl (lv_at hl 0 rfl) ?_
  refine lv_iconst (pc := 874) (v := 3) hx hb d_law_law_874 (by decide) ?_
  refine lv_iadd (pc := 875) hx hb d_law_law_875 ?_
  refine k_cst (v := 3) (by decide) ?_
  refine va_sld (pc := 876) hx hb hX hbl hbA hS (by unfold vp_in; decide) d_law_law_876 ?_
  refine k_cst (v := v3) hv3 ?_
  refine k_goI (gr := [[(h2, .inr (13, mF qm x0Mo y0Mo))], [(qm 61, .inl (kA 0, 4, .inl (upd (upd (upd (upd (fun _ => 0) 0 (-1)) 1 (-1)) 2 (-1)) 3 (-1))))]]) (k_rV (pc := 877) (As := [.int (nI j), .int v2, .int v3]) (rest := []) X (c_Ho_told_z2 l D kA h j v2 v3 (q 0) (q 1) (q 2) (q 3) (q 4) (q 5) (q 6) (q 9) (q 10) (q 13) g (qd 0) (qd 2) (qd 3) (qd 4) (qd 5) (qd 6) (qd 10) (qd 11) (qd 12) (qd 13) (qd 14) (qd 15) (qd 16) hj H.size) rfl wm_1828 wm_1 wm_1825 wm_1826 wm_1827 3 (by decide +kernel) ⟨Nat.le_of_ble_eq_true rfl, Nat.le_of_ble_eq_true rfl⟩ rfl rfl (va_recv hK hP (ci := 12) (q0 := 0) rfl rfl) (k_pre hN hK hP hD [0, 1, 2] [3, 4] 5 rfl (by decide) rfl) rfl hl.1 rfl (Nat.le_of_ble_eq_true rfl) d_law_law_877 ⟨Nat.le_of_ble_eq_true rfl, Nat.le_of_ble_eq_true rfl⟩) hP hD hS hA [0, 1, 2] [3, 4] 5 rfl (by decide) rfl rfl (fun r1 u2 H locs hu2 hP hD hS => ?_)
  obtain ⟨hP, hD⟩ := k_left hP hD
  subst hu2
  have hP : va_P D classes (cat [[(h2, .inr (13, mF qm x0Mo y0Mo))], [(qm 61, .inl (kA 0, 4, .inl (upd (upd (upd (upd (fun _ => 0) 0 (-1)) 1 (-1)) 2 (-1)) 3 (-1))))]]) H := hP
  have hD : va_D A (cat [[(h2, .inr (13, mF qm x0Mo y0Mo))], [(qm 61, .inl (kA 0, 4, .inl (upd (upd (upd (upd (fun _ => 0) 0 (-1)) 1 (-1)) 2 (-1)) 3 (-1))))]]) := hD
  refine lv_aload_n (pc := 880) hx hb d_law_law_880 rfl (lv_at hl 1 rfl) ?_
  refine lv_aload_n (pc := 881) hx hb d_law_law_881 rfl (lv_at hl 3 rfl) ?_
  refine lv_iload_n (pc := 882) hx hb d_law_law_882 rfl (lv_at hl 0 rfl) ?_
  refine lv_iconst (pc := 883) (v := 1) hx hb d_law_law_883 (by decide) ?_
  refine lv_iadd (pc := 884) hx hb d_law_law_884 ?_
  refine k_cst (v := 1) (by decide) ?_
  refine va_sld (pc := 885) hx hb hX hbl hbA hS (by unfold vp_in; decide) d_law_law_885 ?_
  refine k_cst (v := nI j) hv1 ?_
  refine lv_aload_n (pc := 886) hx hb d_law_law_886 rfl (lv_at hl 3 rfl) ?_
  refine lv_iload_n (pc := 887) hx hb d_law_law_887 rfl (lv_at hl 0 rfl) ?_
  refine lv_iconst (pc := 888) (v := 2) hx hb d_law_law_888 (by decide) ?_
  refine lv_iadd (pc := 889) hx hb d_law_law_889 ?_
  refine k_cst (v := 2) (by decide) ?_
  refine va_sld (pc := 890) hx hb hX hbl hbA hS (by unfold vp_in; decide) d_law_law_890 ?_
  refine k_cst (v := v2) hv2 ?_
  refine lv_aload_n (pc := 891) hx hb d_law_law_891 rfl (lv_at hl 3 rfl) ?_
  refine lv_iload_n (pc := 892) hx hb d_law_law_892 rfl (lv_at hl 0 rfl) ?_
  refine lv_iconst (pc := 893) (v := 3) hx hb d_law_law_893 (by decide) ?_
  refine lv_iadd (pc := 894) hx hb d_law_law_894 ?_
  refine k_cst (v := 3) (by decide) ?_
  refine va_sld (pc := 895) hx hb hX hbl hbA hS (by unfold vp_in; decide) d_law_law_895 ?_
  refine k_cst (v := v3) hv3 ?_
  refine k_goI (gr := []) (k_rV (pc := 896) (As := [.int (nI j), .int v2, .int v3]) (rest := [.int ((-1))]) X (c_Mo_told_z2 l D kA h2 j v2 v3 qm hj H.size) rfl wm_3657 wm_9 wm_3654 wm_3655 wm_3656 3 (by decide +kernel) ⟨Nat.le_of_ble_eq_true rfl, Nat.le_of_ble_eq_true rfl⟩ rfl rfl (va_recv hK hP (ci := 13) (q0 := 0) rfl rfl) (k_pre hN hK hP hD [0, 1] [] 2 rfl (by decide) rfl) rfl hl.1 rfl (Nat.le_of_ble_eq_true rfl) d_law_law_896 ⟨Nat.le_of_ble_eq_true rfl, Nat.le_of_ble_eq_true rfl⟩) hP hD hS hA [0, 1] [] 2 rfl (by decide) rfl rfl (fun r3 u4 H locs hu4 hP hD hS => ?_)
  obtain ⟨hP, hD⟩ := k_left hP hD
  subst hu4
  have hP : va_P D classes (cat []) H := hP
  have hD : va_D A (cat []) := hD
  refine lv_icmp_eq (pc := 899) (tgt := 1295) hx hb d_law_law_899 (by decide) (fun _ => ?_) (fun c1 => absurd (by decide) c1)
  rw [hAe] at hS
  exact law_exit l C0 (Nat.le_of_ble_eq_true rfl) (Nat.le_of_ble_eq_true rfl) hS hl
set_option maxRecDepth 100000 in
set_option maxHeartbeats 4000000 in
/-- DrawingHouse.put(IIIII)Z -/
theorem c_Ho_put_z1 (l : Launch) (D : va_G) (kA : Nat → ClassId) (a0 : Nat) (v1 : Int32) (v2 : Int32) (v3 : Int32) (v4 : Int32) (v5 : Int32) (hg : sp_Ho_isPlace v1 = 0) (hgM : sp_Mo_isPlace v1 = 0) : Ci l y_Ho_put z_Ho_put { frames := 1, cells := 0, slots := 0, locals := 20 } D classes (TY kA) [.ref a0, .int v1, .int v2, .int v3, .int v4, .int v5] [] (fun r (_ : List va_W) => r = 0) (fun u => u) 0 0 := by
  intro sz
  refine k_met (cc := b_Ho_put) (maxL := 6) (ret := (some .boolean)) (by decide) rfl (Nat.le_of_ble_eq_true rfl) (fun p e s m below meth c ls X hl hB => ?_)
  obtain ⟨hsz, hP, hK, hD0, hN⟩ := hB
  subst hsz
  have hD := hD0.self (sz := s.heap.size)
  generalize hAe : va_A (cat []) s.heap.size = A at hD ⊢
  have hA : ∀ q : Nat, s.heap.size ≤ q → A q := fun q h => by rw [← hAe]; exact Or.inr h
  have hS : va_S A s.heap s.heap [] := va_S.rf
  obtain ⟨hx, hb, hml, hown, hts, hr, hlk, hnm⟩ := id X
  have hl : lv_has ls 6 [(0, .ref a0), (1, .int v1), (2, .int v2), (3, .int v3), (4, .int v4), (5, .int v5)] := hl
  have hP : va_P D classes (cat []) s.heap := hP
  have hK : va_K D classes (TY kA) s := hK
  refine lv_iload_n (pc := 0) hx hb d_Ho_put_0 rfl (lv_at hl 1 rfl) ?_
  refine k_goI (gr := []) (k_rS (pc := 1) (As := [.int v1]) (rest := []) X (c_Ho_isPlace l D kA v1 s.heap.size) rfl wm_633 wm_1 wm_631 wm_632 1 (by decide +kernel) ⟨Nat.le_of_ble_eq_true rfl, Nat.le_of_ble_eq_true rfl⟩ rfl rfl (k_pre hN hK hP hD [] [] 0 rfl (by decide) rfl) rfl hl.1 rfl (Nat.le_of_ble_eq_true rfl) d_Ho_put_1 ⟨Nat.le_of_ble_eq_true rfl, Nat.le_of_ble_eq_true rfl⟩) hP hD hS hA [] [] 0 rfl (by decide) rfl rfl (fun r1 u2 H locs hu2 hP hD hS => ?_)
  subst hu2
  have hP : va_P D classes (cat []) H := hP
  have hD : va_D A (cat []) := hD
  refine lv_if_eq (pc := 4) (tgt := 29) hx hb d_Ho_put_4 (by decide) (fun c1 => ?_) (fun c1 => absurd (hg) c1)
  refine lv_iconst (pc := 29) (v := 0) hx hb d_Ho_put_29 (by decide) ?_
  refine W.widen (k := 0) (n := 0) (Nat.le_of_ble_eq_true rfl) (Nat.le_of_ble_eq_true rfl) ?_
  exact W.zret (v := 0) hx hb hr rfl (fun t ht hW => ⟨⟨0, [], rfl, rfl, by rw [ht]; exact hP, va_K.moved hW.alike hK, hD⟩, hS.F ht⟩) hS.2.2 d_Ho_put_30
set_option maxRecDepth 100000 in
set_option maxHeartbeats 4000000 in
/-- DrawingHouseModel.put(IIIII)Z -/
theorem c_Mo_put_z1 (l : Launch) (D : va_G) (kA : Nat → ClassId) (a0 : Nat) (v1 : Int32) (v2 : Int32) (v3 : Int32) (v4 : Int32) (v5 : Int32) (hg : sp_Ho_isPlace v1 = 0) (hgM : sp_Mo_isPlace v1 = 0) : Ci l y_Mo_put z_Mo_put { frames := 2, cells := 0, slots := 0, locals := 42 } D classes (TY kA) [.ref a0, .int v1, .int v2, .int v3, .int v4, .int v5] [] (fun r (_ : List va_W) => r = 0) (fun u => u) 0 0 := by
  intro sz
  refine k_met (cc := b_Mo_put) (maxL := 6) (ret := (some .boolean)) (by decide) rfl (Nat.le_of_ble_eq_true rfl) (fun p e s m below meth c ls X hl hB => ?_)
  obtain ⟨hsz, hP, hK, hD0, hN⟩ := hB
  subst hsz
  have hD := hD0.self (sz := s.heap.size)
  generalize hAe : va_A (cat []) s.heap.size = A at hD ⊢
  have hA : ∀ q : Nat, s.heap.size ≤ q → A q := fun q h => by rw [← hAe]; exact Or.inr h
  have hS : va_S A s.heap s.heap [] := va_S.rf
  obtain ⟨hx, hb, hml, hown, hts, hr, hlk, hnm⟩ := id X
  have hl : lv_has ls 6 [(0, .ref a0), (1, .int v1), (2, .int v2), (3, .int v3), (4, .int v4), (5, .int v5)] := hl
  have hP : va_P D classes (cat []) s.heap := hP
  have hK : va_K D classes (TY kA) s := hK
  refine lv_iload_n (pc := 0) hx hb d_Mo_put_0 rfl (lv_at hl 1 rfl) ?_
  refine k_goI (gr := []) (k_rS (pc := 1) (As := [.int v1]) (rest := []) X (c_Mo_isPlace l D kA v1 s.heap.size) rfl wm_2978 wm_9 wm_2976 wm_2977 1 (by decide +kernel) ⟨Nat.le_of_ble_eq_true rfl, Nat.le_of_ble_eq_true rfl⟩ rfl rfl (k_pre hN hK hP hD [] [] 0 rfl (by decide) rfl) rfl hl.1 rfl (Nat.le_of_ble_eq_true rfl) d_Mo_put_1 ⟨Nat.le_of_ble_eq_true rfl, Nat.le_of_ble_eq_true rfl⟩) hP hD hS hA [] [] 0 rfl (by decide) rfl rfl (fun r1 u2 H locs hu2 hP hD hS => ?_)
  subst hu2
  have hP : va_P D classes (cat []) H := hP
  have hD : va_D A (cat []) := hD
  refine lv_if_eq (pc := 4) (tgt := 44) hx hb d_Mo_put_4 (by decide) (fun c1 => ?_) (fun c1 => absurd (hgM) c1)
  refine lv_iconst (pc := 44) (v := 0) hx hb d_Mo_put_44 (by decide) ?_
  refine W.widen (k := 0) (n := 0) (Nat.le_of_ble_eq_true rfl) (Nat.le_of_ble_eq_true rfl) ?_
  exact W.zret (v := 0) hx hb hr rfl (fun t ht hW => ⟨⟨0, [], rfl, rfl, by rw [ht]; exact hP, va_K.moved hW.alike hK, hD⟩, hS.F ht⟩) hS.2.2 d_Mo_put_45
set_option maxRecDepth 100000 in
set_option maxHeartbeats 4000000 in
/-- put, a fresh house -/
theorem lf_put_1 {p : Program} {e : Env} {s : State} {m : MethodId} {below : List Frame} {meth : Method} {c : Code} (l : Launch) {b : Nat} {xs : Nat → Int32} (C0 : lw_At p s m meth c b 6 xs) {D : va_G} {kA : Nat → ClassId} (h : Nat) (h2 : Nat) (q : Nat → Nat) (qm : Nat → Nat) (v1 : Int32) (v2 : Int32) (v3 : Int32) (v4 : Int32) (v5 : Int32) (hg : sp_Ho_isPlace v1 = 0) (hgM : sp_Mo_isPlace v1 = 0) (hv1 : xs 1 = v1) (hv2 : xs 2 = v2) (hv3 : xs 3 = v3) (hv4 : xs 4 = v4) (hv5 : xs 5 = v5) {H : Heap} {locs : List Loc} {ls : Array Slot} (hK : va_K D classes (TY kA) s) (hN : nst s) (hP : va_P D classes (cat [[(h, .inr (12, [.ref (q 0), .ref (q 1), .ref (q 2), .ref (q 3), .ref (q 4), .ref (q 5), .ref (q 6), .int 0, .int ((-1)), .ref (q 9), .ref (q 10), .int 0, .int 0, .ref (q 13), .int 0, .int 0, .null, .null, .null, .null, .null]))], [(h2, .inr (13, mF qm x0Mo y0Mo))]]) H) (hD : va_D (fun q : Nat => s.heap.size ≤ q) (cat [[(h, .inr (12, [.ref (q 0), .ref (q 1), .ref (q 2), .ref (q 3), .ref (q 4), .ref (q 5), .ref (q 6), .int 0, .int ((-1)), .ref (q 9), .ref (q 10), .int 0, .int 0, .ref (q 13), .int 0, .int 0, .null, .null, .null, .null, .null]))], [(h2, .inr (13, mF qm x0Mo y0Mo))]])) (hS : va_S (fun q : Nat => s.heap.size ≤ q) s.heap H locs) (hl : lv_has ls 4 [(3, .int 0), (2, .ref h2), (1, .ref h), (0, .ref b)]) : W p l e room_1 s m #[Value.ref b] below meth c H locs 368 365796 (lw_Z below #[Value.ref b] s) (F0 m 904 ls []) := by
  obtain ⟨hx, hb, hr, hml, hown, hts0, hX, hbl, hlocks, hgv⟩ := id C0
  have hts : ∀ w ∈ lw_g, w.before #[Value.ref b] s = true := fun w h => hts0 w (lw_gt h)
  have X : cx p s m #[Value.ref b] meth c b_law_law 4 ret "DrawingHouseLaw" meth.name := ⟨hx, hb, hml, hown, hts, hr, hlocks, rfl⟩
  obtain ⟨A, hAe⟩ : ∃ A : Nat → Prop, A = fun q : Nat => s.heap.size ≤ q := ⟨_, rfl⟩
  have hA : ∀ q : Nat, s.heap.size ≤ q → A q := fun q h => by rw [hAe]; exact h
  have hbA : ¬ A b := by rw [hAe]; exact Nat.not_le.mpr hbl
  rw [← hAe] at hD hS
  refine lv_aload_n (pc := 904) hx hb d_law_law_904 rfl (lv_at hl 2 rfl) ?_
  refine lv_aload_n (pc := 905) hx hb d_law_law_905 rfl (lv_at hl 3 rfl) ?_
  refine lv_iload_n (pc := 906) hx hb d_law_law_906 rfl (lv_at hl 0 rfl) ?_
  refine lv_iconst (pc := 907) (v := 1) hx hb d_law_law_907 (by decide) ?_
  refine lv_iadd (pc := 908) hx hb d_law_law_908 ?_
  refine k_cst (v := 1) (by decide) ?_
  refine va_sld (pc := 909) hx hb hX hbl hbA hS (by unfold vp_in; decide) d_law_law_909 ?_
  refine k_cst (v := v1) hv1 ?_
  refine lv_aload_n (pc := 910) hx hb d_law_law_910 rfl (lv_at hl 3 rfl) ?_
  refine lv_iload_n (pc := 911) hx hb d_law_law_911 rfl (lv_at hl 0 rfl) ?_
  refine lv_iconst (pc := 912) (v := 2) hx hb d_law_law_912 (by decide) ?_
  refine lv_iadd (pc := 913) hx hb d_law_law_913 ?_
  refine k_cst (v := 2) (by decide) ?_
  refine va_sld (pc := 914) hx hb hX hbl hbA hS (by unfold vp_in; decide) d_law_law_914 ?_
  refine k_cst (v := v2) hv2 ?_
  refine lv_aload_n (pc := 915) hx hb d_law_law_915 rfl (lv_at hl 3 rfl) ?_
  refine lv_iload_n (pc := 916) hx hb d_law_law_916 rfl (lv_at hl 0 rfl) ?_
  refine lv_iconst (pc := 917) (v := 3) hx hb d_law_law_917 (by decide) ?_
  refine lv_iadd (pc := 918) hx hb d_law_law_918 ?_
  refine k_cst (v := 3) (by decide) ?_
  refine va_sld (pc := 919) hx hb hX hbl hbA hS (by unfold vp_in; decide) d_law_law_919 ?_
  refine k_cst (v := v3) hv3 ?_
  refine lv_aload_n (pc := 920) hx hb d_law_law_920 rfl (lv_at hl 3 rfl) ?_
  refine lv_iload_n (pc := 921) hx hb d_law_law_921 rfl (lv_at hl 0 rfl) ?_
  refine lv_iconst (pc := 922) (v := 4) hx hb d_law_law_922 (by decide) ?_
  refine lv_iadd (pc := 923) hx hb d_law_law_923 ?_
  refine k_cst (v := 4) (by decide) ?_
  refine va_sld (pc := 924) hx hb hX hbl hbA hS (by unfold vp_in; decide) d_law_law_924 ?_
  refine k_cst (v := v4) hv4 ?_
  refine lv_aload_n (pc := 925) hx hb d_law_law_925 rfl (lv_at hl 3 rfl) ?_
  refine lv_iload_n (pc := 926) hx hb d_law_law_926 rfl (lv_at hl 0 rfl) ?_
  refine lv_iconst (pc := 927) (v := 5) hx hb d_law_law_927 (by decide) ?_
  refine lv_iadd (pc := 928) hx hb d_law_law_928 ?_
  refine k_cst (v := 5) (by decide) ?_
  refine va_sld (pc := 929) hx hb hX hbl hbA hS (by unfold vp_in; decide) d_law_law_929 ?_
  refine k_cst (v := v5) hv5 ?_
  refine k_goI (gr := [[(h, .inr (12, [.ref (q 0), .ref (q 1), .ref (q 2), .ref (q 3), .ref (q 4), .ref (q 5), .ref (q 6), .int 0, .int ((-1)), .ref (q 9), .ref (q 10), .int 0, .int 0, .ref (q 13), .int 0, .int 0, .null, .null, .null, .null, .null]))], [(h2, .inr (13, mF qm x0Mo y0Mo))]]) (k_rV (pc := 930) (As := [.int v1, .int v2, .int v3, .int v4, .int v5]) (rest := []) X (c_Ho_put_z1 l D kA h v1 v2 v3 v4 v5 hg hgM H.size) rfl wm_1845 wm_1 wm_1842 wm_1843 wm_1844 5 (by decide +kernel) ⟨Nat.le_of_ble_eq_true rfl, Nat.le_of_ble_eq_true rfl⟩ rfl rfl (va_recv hK hP (ci := 12) (q0 := 0) rfl rfl) (k_pre hN hK hP hD [] [0, 1] 2 rfl (by decide) rfl) rfl hl.1 rfl (Nat.le_of_ble_eq_true rfl) d_law_law_930 ⟨Nat.le_of_ble_eq_true rfl, Nat.le_of_ble_eq_true rfl⟩) hP hD hS hA [] [0, 1] 2 rfl (by decide) rfl rfl (fun r1 u2 H locs hu2 hP hD hS => ?_)
  obtain ⟨hP, hD⟩ := k_left hP hD
  subst hu2
  have hP : va_P D classes (cat [[(h, .inr (12, [.ref (q 0), .ref (q 1), .ref (q 2), .ref (q 3), .ref (q 4), .ref (q 5), .ref (q 6), .int 0, .int ((-1)), .ref (q 9), .ref (q 10), .int 0, .int 0, .ref (q 13), .int 0, .int 0, .null, .null, .null, .null, .null]))], [(h2, .inr (13, mF qm x0Mo y0Mo))]]) H := hP
  have hD : va_D A (cat [[(h, .inr (12, [.ref (q 0), .ref (q 1), .ref (q 2), .ref (q 3), .ref (q 4), .ref (q 5), .ref (q 6), .int 0, .int ((-1)), .ref (q 9), .ref (q 10), .int 0, .int 0, .ref (q 13), .int 0, .int 0, .null, .null, .null, .null, .null]))], [(h2, .inr (13, mF qm x0Mo y0Mo))]]) := hD
  refine lv_aload_n (pc := 933) hx hb d_law_law_933 rfl (lv_at hl 1 rfl) ?_
  refine lv_aload_n (pc := 934) hx hb d_law_law_934 rfl (lv_at hl 3 rfl) ?_
  refine lv_iload_n (pc := 935) hx hb d_law_law_935 rfl (lv_at hl 0 rfl) ?_
  refine lv_iconst (pc := 936) (v := 1) hx hb d_law_law_936 (by decide) ?_
  refine lv_iadd (pc := 937) hx hb d_law_law_937 ?_
  refine k_cst (v := 1) (by decide) ?_
  refine va_sld (pc := 938) hx hb hX hbl hbA hS (by unfold vp_in; decide) d_law_law_938 ?_
  refine k_cst (v := v1) hv1 ?_
  refine lv_aload_n (pc := 939) hx hb d_law_law_939 rfl (lv_at hl 3 rfl) ?_
  refine lv_iload_n (pc := 940) hx hb d_law_law_940 rfl (lv_at hl 0 rfl) ?_
  refine lv_iconst (pc := 941) (v := 2) hx hb d_law_law_941 (by decide) ?_
  refine lv_iadd (pc := 942) hx hb d_law_law_942 ?_
  refine k_cst (v := 2) (by decide) ?_
  refine va_sld (pc := 943) hx hb hX hbl hbA hS (by unfold vp_in; decide) d_law_law_943 ?_
  refine k_cst (v := v2) hv2 ?_
  refine lv_aload_n (pc := 944) hx hb d_law_law_944 rfl (lv_at hl 3 rfl) ?_
  refine lv_iload_n (pc := 945) hx hb d_law_law_945 rfl (lv_at hl 0 rfl) ?_
  refine lv_iconst (pc := 946) (v := 3) hx hb d_law_law_946 (by decide) ?_
  refine lv_iadd (pc := 947) hx hb d_law_law_947 ?_
  refine k_cst (v := 3) (by decide) ?_
  refine va_sld (pc := 948) hx hb hX hbl hbA hS (by unfold vp_in; decide) d_law_law_948 ?_
  refine k_cst (v := v3) hv3 ?_
  refine lv_aload_n (pc := 949) hx hb d_law_law_949 rfl (lv_at hl 3 rfl) ?_
  refine lv_iload_n (pc := 950) hx hb d_law_law_950 rfl (lv_at hl 0 rfl) ?_
  refine lv_iconst (pc := 951) (v := 4) hx hb d_law_law_951 (by decide) ?_
  refine lv_iadd (pc := 952) hx hb d_law_law_952 ?_
  refine k_cst (v := 4) (by decide) ?_
  refine va_sld (pc := 953) hx hb hX hbl hbA hS (by unfold vp_in; decide) d_law_law_953 ?_
  refine k_cst (v := v4) hv4 ?_
  refine lv_aload_n (pc := 954) hx hb d_law_law_954 rfl (lv_at hl 3 rfl) ?_
  refine lv_iload_n (pc := 955) hx hb d_law_law_955 rfl (lv_at hl 0 rfl) ?_
  refine lv_iconst (pc := 956) (v := 5) hx hb d_law_law_956 (by decide) ?_
  refine lv_iadd (pc := 957) hx hb d_law_law_957 ?_
  refine k_cst (v := 5) (by decide) ?_
  refine va_sld (pc := 958) hx hb hX hbl hbA hS (by unfold vp_in; decide) d_law_law_958 ?_
  refine k_cst (v := v5) hv5 ?_
  refine k_goI (gr := [[(h, .inr (12, [.ref (q 0), .ref (q 1), .ref (q 2), .ref (q 3), .ref (q 4), .ref (q 5), .ref (q 6), .int 0, .int ((-1)), .ref (q 9), .ref (q 10), .int 0, .int 0, .ref (q 13), .int 0, .int 0, .null, .null, .null, .null, .null]))], [(h2, .inr (13, mF qm x0Mo y0Mo))]]) (k_rV (pc := 959) (As := [.int v1, .int v2, .int v3, .int v4, .int v5]) (rest := [.int 0]) X (c_Mo_put_z1 l D kA h2 v1 v2 v3 v4 v5 hg hgM H.size) rfl wm_3661 wm_9 wm_3658 wm_3659 wm_3660 5 (by decide +kernel) ⟨Nat.le_of_ble_eq_true rfl, Nat.le_of_ble_eq_true rfl⟩ rfl rfl (va_recv hK hP (ci := 13) (q0 := 1) rfl rfl) (k_pre hN hK hP hD [] [0, 1] 2 rfl (by decide) rfl) rfl hl.1 rfl (Nat.le_of_ble_eq_true rfl) d_law_law_959 ⟨Nat.le_of_ble_eq_true rfl, Nat.le_of_ble_eq_true rfl⟩) hP hD hS hA [] [0, 1] 2 rfl (by decide) rfl rfl (fun r3 u4 H locs hu4 hP hD hS => ?_)
  obtain ⟨hP, hD⟩ := k_left hP hD
  subst hu4
  have hP : va_P D classes (cat [[(h, .inr (12, [.ref (q 0), .ref (q 1), .ref (q 2), .ref (q 3), .ref (q 4), .ref (q 5), .ref (q 6), .int 0, .int ((-1)), .ref (q 9), .ref (q 10), .int 0, .int 0, .ref (q 13), .int 0, .int 0, .null, .null, .null, .null, .null]))], [(h2, .inr (13, mF qm x0Mo y0Mo))]]) H := hP
  have hD : va_D A (cat [[(h, .inr (12, [.ref (q 0), .ref (q 1), .ref (q 2), .ref (q 3), .ref (q 4), .ref (q 5), .ref (q 6), .int 0, .int ((-1)), .ref (q 9), .ref (q 10), .int 0, .int 0, .ref (q 13), .int 0, .int 0, .null, .null, .null, .null, .null]))], [(h2, .inr (13, mF qm x0Mo y0Mo))]]) := hD
  refine lv_icmp_eq (pc := 962) (tgt := 1295) hx hb d_law_law_962 (by decide) (fun _ => ?_) (fun c1 => absurd (by decide) c1)
  rw [hAe] at hS
  exact law_exit l C0 (Nat.le_of_ble_eq_true rfl) (Nat.le_of_ble_eq_true rfl) hS hl
set_option maxRecDepth 100000 in
set_option maxHeartbeats 4000000 in
/-- DrawingHouse$Drawing.move(IIII)Z -/
theorem c_Dr_move_z1 (l : Launch) (D : va_G) (kA : Nat → ClassId) (g : Nat → Nat → Nat) (j : Nat) (v2 : Int32) (v3 : Int32) (v4 : Int32) (v5 : Int32) (a0 : Nat) (a1 : Nat) (a2 : Nat) (a3 : Nat) (a4 : Nat) (a5 : Nat) (a6 : Nat) (a7 : Nat) (a8 : Nat) (a9 : Nat) (a10 : Nat) (a11 : Nat) (a12 : Nat) (hj : j < 4) : Ci l y_Dr_move z_Dr_move { frames := 0, cells := 0, slots := 0, locals := 0 } D classes (TY kA) [.ref (g 3 j), .int v2, .int v3, .int v4, .int v5] [[(g 3 j, .inr (0, [.ref a0, .int ((-1)), .ref a1, .ref a2, .ref a3, .ref a4, .ref a5, .int 0, .int 0, .int 0, .ref a6, .ref a7, .ref a8, .ref a9, .ref a10, .ref a11, .ref a12, .int 0, .int 0, .int 0, .int 0]))]] (fun r (_ : Unit) => r = 0) (fun u => [[(g 3 j, .inr (0, [.ref a0, .int ((-1)), .ref a1, .ref a2, .ref a3, .ref a4, .ref a5, .int 0, .int 0, .int 0, .ref a6, .ref a7, .ref a8, .ref a9, .ref a10, .ref a11, .ref a12, .int 0, .int 0, .int 0, .int 0]))]]) 0 0 := by
  intro sz
  refine k_met (cc := b_Dr_move) (maxL := 5) (ret := (some .boolean)) (by decide) rfl (Nat.le_of_ble_eq_true rfl) (fun p e s m below meth c ls X hl hB => ?_)
  obtain ⟨hsz, hP, hK, hD0, hN⟩ := hB
  subst hsz
  have hD := hD0.self (sz := s.heap.size)
  generalize hAe : va_A (cat [[(g 3 j, .inr (0, [.ref a0, .int ((-1)), .ref a1, .ref a2, .ref a3, .ref a4, .ref a5, .int 0, .int 0, .int 0, .ref a6, .ref a7, .ref a8, .ref a9, .ref a10, .ref a11, .ref a12, .int 0, .int 0, .int 0, .int 0]))]]) s.heap.size = A at hD ⊢
  have hA : ∀ q : Nat, s.heap.size ≤ q → A q := fun q h => by rw [← hAe]; exact Or.inr h
  have hS : va_S A s.heap s.heap [] := va_S.rf
  obtain ⟨hx, hb, hml, hown, hts, hr, hlk, hnm⟩ := id X
  have hl : lv_has ls 5 [(0, .ref (g 3 j)), (1, .int v2), (2, .int v3), (3, .int v4), (4, .int v5)] := hl
  have hP : va_P D classes (cat [[(g 3 j, .inr (0, [.ref a0, .int ((-1)), .ref a1, .ref a2, .ref a3, .ref a4, .ref a5, .int 0, .int 0, .int 0, .ref a6, .ref a7, .ref a8, .ref a9, .ref a10, .ref a11, .ref a12, .int 0, .int 0, .int 0, .int 0]))]]) s.heap := hP
  have hK : va_K D classes (TY kA) s := hK
  refine lv_aload_n (pc := 0) hx hb d_Dr_move_0 rfl (lv_at hl 0 rfl) ?_
  refine k_get (pc := 1) X hK hP 0 rfl rfl i_Dr 1 (by decide) wm_466 rfl rfl d_Dr_move_1 ?_
  refine lv_iconst (pc := 4) (v := -1) hx hb d_Dr_move_4 (by decide) ?_
  refine lv_icmp_eq (pc := 5) (tgt := 34) hx hb d_Dr_move_5 (by decide) (fun _ => ?_) (fun c1 => absurd (by decide) c1)
  refine lv_iconst (pc := 34) (v := 0) hx hb d_Dr_move_34 (by decide) ?_
  refine W.widen (k := 0) (n := 0) (Nat.le_of_ble_eq_true rfl) (Nat.le_of_ble_eq_true rfl) ?_
  exact W.zret (v := 0) hx hb hr rfl (fun t ht hW => ⟨⟨0, (), rfl, rfl, by rw [ht]; exact hP, va_K.moved hW.alike hK, hD⟩, hS.F ht⟩) hS.2.2 d_Dr_move_35
set_option maxRecDepth 100000 in
set_option maxHeartbeats 4000000 in
/-- DrawingHouse.put(IIIII)Z -/
theorem c_Ho_put_z2 (l : Launch) (D : va_G) (kA : Nat → ClassId) (a0 : Nat) (j : Nat) (v2 : Int32) (v3 : Int32) (v4 : Int32) (v5 : Int32) (a1 : Nat) (a2 : Nat) (a3 : Nat) (a4 : Nat) (a5 : Nat) (a6 : Nat) (a7 : Nat) (a8 : Nat) (a9 : Nat) (a10 : Nat) (g : Nat → Nat → Nat) (a11 : Nat) (a12 : Nat) (a13 : Nat) (a14 : Nat) (a15 : Nat) (a16 : Nat) (a17 : Nat) (a18 : Nat) (a19 : Nat) (a20 : Nat) (a21 : Nat) (a22 : Nat) (a23 : Nat) (hj : j < 4) : Ci l y_Ho_put z_Ho_put { frames := 1, cells := 0, slots := 0, locals := 24 } D classes (TY kA) [.ref a0, .int (nI j), .int v2, .int v3, .int v4, .int v5] [[(a0, .inr (12, [.ref a1, .ref a2, .ref a3, .ref a4, .ref a5, .ref a6, .ref a7, .int 0, .int ((-1)), .ref a8, .ref a9, .int 0, .int 0, .ref a10, .int 0, .int 0, .null, .null, .null, .null, .null]))], [(a4, .inl (kA 7, 4, .inr (.inr (.inr (.inr (rr (g 3)))))))], [(g 3 j, .inr (0, [.ref a11, .int ((-1)), .ref a12, .ref a13, .ref a14, .ref a15, .ref a16, .int 0, .int 0, .int 0, .ref a17, .ref a18, .ref a19, .ref a20, .ref a21, .ref a22, .ref a23, .int 0, .int 0, .int 0, .int 0]))]] (fun r (_ : List va_W) => r = 0) (fun u => u) 0 0 := by
  intro sz
  refine k_met (cc := b_Ho_put) (maxL := 6) (ret := (some .boolean)) (by decide) rfl (Nat.le_of_ble_eq_true rfl) (fun p e s m below meth c ls X hl hB => ?_)
  obtain ⟨hsz, hP, hK, hD0, hN⟩ := hB
  subst hsz
  have hD := hD0.self (sz := s.heap.size)
  generalize hAe : va_A (cat [[(a0, .inr (12, [.ref a1, .ref a2, .ref a3, .ref a4, .ref a5, .ref a6, .ref a7, .int 0, .int ((-1)), .ref a8, .ref a9, .int 0, .int 0, .ref a10, .int 0, .int 0, .null, .null, .null, .null, .null]))], [(a4, .inl (kA 7, 4, .inr (.inr (.inr (.inr (rr (g 3)))))))], [(g 3 j, .inr (0, [.ref a11, .int ((-1)), .ref a12, .ref a13, .ref a14, .ref a15, .ref a16, .int 0, .int 0, .int 0, .ref a17, .ref a18, .ref a19, .ref a20, .ref a21, .ref a22, .ref a23, .int 0, .int 0, .int 0, .int 0]))]]) s.heap.size = A at hD ⊢
  have hA : ∀ q : Nat, s.heap.size ≤ q → A q := fun q h => by rw [← hAe]; exact Or.inr h
  have hS : va_S A s.heap s.heap [] := va_S.rf
  obtain ⟨hx, hb, hml, hown, hts, hr, hlk, hnm⟩ := id X
  have hl : lv_has ls 6 [(0, .ref a0), (1, .int (nI j)), (2, .int v2), (3, .int v3), (4, .int v4), (5, .int v5)] := hl
  have hP : va_P D classes (cat [[(a0, .inr (12, [.ref a1, .ref a2, .ref a3, .ref a4, .ref a5, .ref a6, .ref a7, .int 0, .int ((-1)), .ref a8, .ref a9, .int 0, .int 0, .ref a10, .int 0, .int 0, .null, .null, .null, .null, .null]))], [(a4, .inl (kA 7, 4, .inr (.inr (.inr (.inr (rr (g 3)))))))], [(g 3 j, .inr (0, [.ref a11, .int ((-1)), .ref a12, .ref a13, .ref a14, .ref a15, .ref a16, .int 0, .int 0, .int 0, .ref a17, .ref a18, .ref a19, .ref a20, .ref a21, .ref a22, .ref a23, .int 0, .int 0, .int 0, .int 0]))]]) s.heap := hP
  have hK : va_K D classes (TY kA) s := hK
  refine lv_iload_n (pc := 0) hx hb d_Ho_put_0 rfl (lv_at hl 1 rfl) ?_
  refine k_goI (gr := [[(a0, .inr (12, [.ref a1, .ref a2, .ref a3, .ref a4, .ref a5, .ref a6, .ref a7, .int 0, .int ((-1)), .ref a8, .ref a9, .int 0, .int 0, .ref a10, .int 0, .int 0, .null, .null, .null, .null, .null]))], [(a4, .inl (kA 7, 4, .inr (.inr (.inr (.inr (rr (g 3)))))))], [(g 3 j, .inr (0, [.ref a11, .int ((-1)), .ref a12, .ref a13, .ref a14, .ref a15, .ref a16, .int 0, .int 0, .int 0, .ref a17, .ref a18, .ref a19, .ref a20, .ref a21, .ref a22, .ref a23, .int 0, .int 0, .int 0, .int 0]))]]) (k_rS (pc := 1) (As := [.int (nI j)]) (rest := []) X (c_Ho_isPlace l D kA (nI j) s.heap.size) rfl wm_633 wm_1 wm_631 wm_632 1 (by decide +kernel) ⟨Nat.le_of_ble_eq_true rfl, Nat.le_of_ble_eq_true rfl⟩ rfl rfl (k_pre hN hK hP hD [] [0, 1, 2] 3 rfl (by decide) rfl) rfl hl.1 rfl (Nat.le_of_ble_eq_true rfl) d_Ho_put_1 ⟨Nat.le_of_ble_eq_true rfl, Nat.le_of_ble_eq_true rfl⟩) hP hD hS hA [] [0, 1, 2] 3 rfl (by decide) rfl rfl (fun r1 u2 H locs hu2 hP hD hS => ?_)
  subst hu2
  refine k_cst (v := 1) (place_ok hj) ?_
  have hP : va_P D classes (cat [[(a0, .inr (12, [.ref a1, .ref a2, .ref a3, .ref a4, .ref a5, .ref a6, .ref a7, .int 0, .int ((-1)), .ref a8, .ref a9, .int 0, .int 0, .ref a10, .int 0, .int 0, .null, .null, .null, .null, .null]))], [(a4, .inl (kA 7, 4, .inr (.inr (.inr (.inr (rr (g 3)))))))], [(g 3 j, .inr (0, [.ref a11, .int ((-1)), .ref a12, .ref a13, .ref a14, .ref a15, .ref a16, .int 0, .int 0, .int 0, .ref a17, .ref a18, .ref a19, .ref a20, .ref a21, .ref a22, .ref a23, .int 0, .int 0, .int 0, .int 0]))]]) H := hP
  have hD : va_D A (cat [[(a0, .inr (12, [.ref a1, .ref a2, .ref a3, .ref a4, .ref a5, .ref a6, .ref a7, .int 0, .int ((-1)), .ref a8, .ref a9, .int 0, .int 0, .ref a10, .int 0, .int 0, .null, .null, .null, .null, .null]))], [(a4, .inl (kA 7, 4, .inr (.inr (.inr (.inr (rr (g 3)))))))], [(g 3 j, .inr (0, [.ref a11, .int ((-1)), .ref a12, .ref a13, .ref a14, .ref a15, .ref a16, .int 0, .int 0, .int 0, .ref a17, .ref a18, .ref a19, .ref a20, .ref a21, .ref a22, .ref a23, .int 0, .int 0, .int 0, .int 0]))]]) := hD
  refine lv_if_eq (pc := 4) (tgt := 29) hx hb d_Ho_put_4 (by decide) (fun c1 => absurd c1 (by decide)) (fun c1 => ?_)
  refine lv_aload_n (pc := 7) hx hb d_Ho_put_7 rfl (lv_at hl 0 rfl) ?_
  refine k_get (pc := 8) X hK hP 0 rfl rfl i_Ho 3 (by decide) wm_558 rfl rfl d_Ho_put_8 ?_
  refine lv_iload_n (pc := 11) hx hb d_Ho_put_11 rfl (lv_at hl 1 rfl) ?_
  refine k_ald (pc := 12) hx hb hK hP 1 7 rfl rfl (j) rfl (by omega) (by decide) (rr_at (by omega)) d_Ho_put_12 ?_
  refine lv_iload_n (pc := 13) hx hb d_Ho_put_13 rfl (lv_at hl 2 rfl) ?_
  refine lv_iload_n (pc := 14) hx hb d_Ho_put_14 rfl (lv_at hl 3 rfl) ?_
  refine lv_iload (pc := 15) hx hb d_Ho_put_15 (lv_at hl 4 rfl) ?_
  refine lv_iload (pc := 17) hx hb d_Ho_put_17 (lv_at hl 5 rfl) ?_
  refine k_goI (gr := [[(a0, .inr (12, [.ref a1, .ref a2, .ref a3, .ref a4, .ref a5, .ref a6, .ref a7, .int 0, .int ((-1)), .ref a8, .ref a9, .int 0, .int 0, .ref a10, .int 0, .int 0, .null, .null, .null, .null, .null]))], [(a4, .inl (kA 7, 4, .inr (.inr (.inr (.inr (rr (g 3)))))))]]) (k_rV (pc := 19) (As := [.int v2, .int v3, .int v4, .int v5]) (rest := []) X (c_Dr_move_z1 l D kA g j v2 v3 v4 v5 a11 a12 a13 a14 a15 a16 a17 a18 a19 a20 a21 a22 a23 hj H.size) rfl wm_1849 wm_8 wm_1846 wm_1847 wm_1848 4 (by decide +kernel) ⟨Nat.le_of_ble_eq_true rfl, Nat.le_of_ble_eq_true rfl⟩ rfl rfl (va_recv hK hP (ci := 0) (q0 := 2) rfl rfl) (k_pre hN hK hP hD [2] [0, 1] 3 rfl (by decide) rfl) rfl hl.1 rfl (Nat.le_of_ble_eq_true rfl) d_Ho_put_19 ⟨Nat.le_of_ble_eq_true rfl, Nat.le_of_ble_eq_true rfl⟩) hP hD hS hA [2] [0, 1] 3 rfl (by decide) rfl rfl (fun r3 u4 H locs hu4 hP hD hS => ?_)
  subst hu4
  have hP : va_P D classes (cat [[(a0, .inr (12, [.ref a1, .ref a2, .ref a3, .ref a4, .ref a5, .ref a6, .ref a7, .int 0, .int ((-1)), .ref a8, .ref a9, .int 0, .int 0, .ref a10, .int 0, .int 0, .null, .null, .null, .null, .null]))], [(a4, .inl (kA 7, 4, .inr (.inr (.inr (.inr (rr (g 3)))))))], [(g 3 j, .inr (0, [.ref a11, .int ((-1)), .ref a12, .ref a13, .ref a14, .ref a15, .ref a16, .int 0, .int 0, .int 0, .ref a17, .ref a18, .ref a19, .ref a20, .ref a21, .ref a22, .ref a23, .int 0, .int 0, .int 0, .int 0]))]]) H := hP
  have hD : va_D A (cat [[(a0, .inr (12, [.ref a1, .ref a2, .ref a3, .ref a4, .ref a5, .ref a6, .ref a7, .int 0, .int ((-1)), .ref a8, .ref a9, .int 0, .int 0, .ref a10, .int 0, .int 0, .null, .null, .null, .null, .null]))], [(a4, .inl (kA 7, 4, .inr (.inr (.inr (.inr (rr (g 3)))))))], [(g 3 j, .inr (0, [.ref a11, .int ((-1)), .ref a12, .ref a13, .ref a14, .ref a15, .ref a16, .int 0, .int 0, .int 0, .ref a17, .ref a18, .ref a19, .ref a20, .ref a21, .ref a22, .ref a23, .int 0, .int 0, .int 0, .int 0]))]]) := hD
  refine lv_if_eq (pc := 22) (tgt := 29) hx hb d_Ho_put_22 (by decide) (fun c1 => ?_) (fun c1 => absurd (by decide) c1)
  refine lv_iconst (pc := 29) (v := 0) hx hb d_Ho_put_29 (by decide) ?_
  refine W.widen (k := 0) (n := 0) (Nat.le_of_ble_eq_true rfl) (Nat.le_of_ble_eq_true rfl) ?_
  exact W.zret (v := 0) hx hb hr rfl (fun t ht hW => ⟨⟨0, [[(a0, .inr (12, [.ref a1, .ref a2, .ref a3, .ref a4, .ref a5, .ref a6, .ref a7, .int 0, .int ((-1)), .ref a8, .ref a9, .int 0, .int 0, .ref a10, .int 0, .int 0, .null, .null, .null, .null, .null]))], [(a4, .inl (kA 7, 4, .inr (.inr (.inr (.inr (rr (g 3)))))))], [(g 3 j, .inr (0, [.ref a11, .int ((-1)), .ref a12, .ref a13, .ref a14, .ref a15, .ref a16, .int 0, .int 0, .int 0, .ref a17, .ref a18, .ref a19, .ref a20, .ref a21, .ref a22, .ref a23, .int 0, .int 0, .int 0, .int 0]))]], rfl, rfl, by rw [ht]; exact hP, va_K.moved hW.alike hK, hD⟩, hS.F ht⟩) hS.2.2 d_Ho_put_30
set_option maxRecDepth 100000 in
set_option maxHeartbeats 4000000 in
/-- DrawingHouseModel.put(IIIII)Z -/
theorem c_Mo_put_z2 (l : Launch) (D : va_G) (kA : Nat → ClassId) (a0 : Nat) (j : Nat) (v2 : Int32) (v3 : Int32) (v4 : Int32) (v5 : Int32) (qm : Nat → Nat) (hj : j < 4) : Ci l y_Mo_put z_Mo_put { frames := 2, cells := 0, slots := 0, locals := 42 } D classes (TY kA) [.ref a0, .int (nI j), .int v2, .int v3, .int v4, .int v5] [[(a0, .inr (13, mF qm x0Mo y0Mo))], [(qm 61, .inl (kA 0, 4, .inl (upd (upd (upd (upd (fun _ => 0) 0 (-1)) 1 (-1)) 2 (-1)) 3 (-1))))]] (fun r (_ : List va_W) => r = 0) (fun u => u) 0 0 := by
  intro sz
  refine k_met (cc := b_Mo_put) (maxL := 6) (ret := (some .boolean)) (by decide) rfl (Nat.le_of_ble_eq_true rfl) (fun p e s m below meth c ls X hl hB => ?_)
  obtain ⟨hsz, hP, hK, hD0, hN⟩ := hB
  subst hsz
  have hD := hD0.self (sz := s.heap.size)
  generalize hAe : va_A (cat [[(a0, .inr (13, mF qm x0Mo y0Mo))], [(qm 61, .inl (kA 0, 4, .inl (upd (upd (upd (upd (fun _ => 0) 0 (-1)) 1 (-1)) 2 (-1)) 3 (-1))))]]) s.heap.size = A at hD ⊢
  have hA : ∀ q : Nat, s.heap.size ≤ q → A q := fun q h => by rw [← hAe]; exact Or.inr h
  have hS : va_S A s.heap s.heap [] := va_S.rf
  obtain ⟨hx, hb, hml, hown, hts, hr, hlk, hnm⟩ := id X
  have hl : lv_has ls 6 [(0, .ref a0), (1, .int (nI j)), (2, .int v2), (3, .int v3), (4, .int v4), (5, .int v5)] := hl
  have hP : va_P D classes (cat [[(a0, .inr (13, mF qm x0Mo y0Mo))], [(qm 61, .inl (kA 0, 4, .inl (upd (upd (upd (upd (fun _ => 0) 0 (-1)) 1 (-1)) 2 (-1)) 3 (-1))))]]) s.heap := hP
  have hK : va_K D classes (TY kA) s := hK
  refine lv_iload_n (pc := 0) hx hb d_Mo_put_0 rfl (lv_at hl 1 rfl) ?_
  refine k_goI (gr := [[(a0, .inr (13, mF qm x0Mo y0Mo))], [(qm 61, .inl (kA 0, 4, .inl (upd (upd (upd (upd (fun _ => 0) 0 (-1)) 1 (-1)) 2 (-1)) 3 (-1))))]]) (k_rS (pc := 1) (As := [.int (nI j)]) (rest := []) X (c_Mo_isPlace l D kA (nI j) s.heap.size) rfl wm_2978 wm_9 wm_2976 wm_2977 1 (by decide +kernel) ⟨Nat.le_of_ble_eq_true rfl, Nat.le_of_ble_eq_true rfl⟩ rfl rfl (k_pre hN hK hP hD [] [0, 1] 2 rfl (by decide) rfl) rfl hl.1 rfl (Nat.le_of_ble_eq_true rfl) d_Mo_put_1 ⟨Nat.le_of_ble_eq_true rfl, Nat.le_of_ble_eq_true rfl⟩) hP hD hS hA [] [0, 1] 2 rfl (by decide) rfl rfl (fun r1 u2 H locs hu2 hP hD hS => ?_)
  subst hu2
  refine k_cst (v := 1) (placeM_ok hj) ?_
  have hP : va_P D classes (cat [[(a0, .inr (13, mF qm x0Mo y0Mo))], [(qm 61, .inl (kA 0, 4, .inl (upd (upd (upd (upd (fun _ => 0) 0 (-1)) 1 (-1)) 2 (-1)) 3 (-1))))]]) H := hP
  have hD : va_D A (cat [[(a0, .inr (13, mF qm x0Mo y0Mo))], [(qm 61, .inl (kA 0, 4, .inl (upd (upd (upd (upd (fun _ => 0) 0 (-1)) 1 (-1)) 2 (-1)) 3 (-1))))]]) := hD
  refine lv_if_eq (pc := 4) (tgt := 44) hx hb d_Mo_put_4 (by decide) (fun c1 => absurd c1 (by decide)) (fun c1 => ?_)
  refine lv_aload_n (pc := 7) hx hb d_Mo_put_7 rfl (lv_at hl 0 rfl) ?_
  refine k_get (pc := 8) (v := .ref (qm 61)) X hK hP 0 rfl rfl i_Mo 61 (by decide) wm_2493 rfl rfl d_Mo_put_8 ?_
  refine lv_iload_n (pc := 11) hx hb d_Mo_put_11 rfl (lv_at hl 1 rfl) ?_
  refine k_ild (pc := 12) hx hb hK hP 1 0 rfl rfl (j) rfl (by omega) (by decide) d_Mo_put_12 ?_
  refine k_cst (v := (-1)) (drawn0 hj) ?_
  refine lv_if_lt (pc := 13) (tgt := 44) hx hb d_Mo_put_13 (by decide) (fun c1 => ?_) (fun c1 => absurd (by decide) c1)
  refine lv_iconst (pc := 44) (v := 0) hx hb d_Mo_put_44 (by decide) ?_
  refine W.widen (k := 0) (n := 0) (Nat.le_of_ble_eq_true rfl) (Nat.le_of_ble_eq_true rfl) ?_
  exact W.zret (v := 0) hx hb hr rfl (fun t ht hW => ⟨⟨0, [[(a0, .inr (13, mF qm x0Mo y0Mo))], [(qm 61, .inl (kA 0, 4, .inl (upd (upd (upd (upd (fun _ => 0) 0 (-1)) 1 (-1)) 2 (-1)) 3 (-1))))]], rfl, rfl, by rw [ht]; exact hP, va_K.moved hW.alike hK, hD⟩, hS.F ht⟩) hS.2.2 d_Mo_put_45
set_option maxRecDepth 100000 in
set_option maxHeartbeats 4000000 in
/-- put, a fresh house -/
theorem lf_put_2 {p : Program} {e : Env} {s : State} {m : MethodId} {below : List Frame} {meth : Method} {c : Code} (l : Launch) {b : Nat} {xs : Nat → Int32} (C0 : lw_At p s m meth c b 6 xs) {D : va_G} {kA : Nat → ClassId} (h : Nat) (h2 : Nat) (q : Nat → Nat) (qd : Nat → Nat) (qm : Nat → Nat) (g : Nat → Nat → Nat) (j : Nat) (v2 : Int32) (v3 : Int32) (v4 : Int32) (v5 : Int32) (hj : j < 4) (hv1 : xs 1 = nI j) (hv2 : xs 2 = v2) (hv3 : xs 3 = v3) (hv4 : xs 4 = v4) (hv5 : xs 5 = v5) {H : Heap} {locs : List Loc} {ls : Array Slot} (hK : va_K D classes (TY kA) s) (hN : nst s) (hP : va_P D classes (cat [[(h, .inr (12, [.ref (q 0), .ref (q 1), .ref (q 2), .ref (q 3), .ref (q 4), .ref (q 5), .ref (q 6), .int 0, .int ((-1)), .ref (q 9), .ref (q 10), .int 0, .int 0, .ref (q 13), .int 0, .int 0, .null, .null, .null, .null, .null]))], [(q 3, .inl (kA 7, 4, .inr (.inr (.inr (.inr (rr (g 3)))))))], [(g 3 j, .inr (0, [.ref (qd 0), .int ((-1)), .ref (qd 2), .ref (qd 3), .ref (qd 4), .ref (qd 5), .ref (qd 6), .int 0, .int 0, .int 0, .ref (qd 10), .ref (qd 11), .ref (qd 12), .ref (qd 13), .ref (qd 14), .ref (qd 15), .ref (qd 16), .int 0, .int 0, .int 0, .int 0]))], [(h2, .inr (13, mF qm x0Mo y0Mo))], [(qm 61, .inl (kA 0, 4, .inl (upd (upd (upd (upd (fun _ => 0) 0 (-1)) 1 (-1)) 2 (-1)) 3 (-1))))]]) H) (hD : va_D (fun q : Nat => s.heap.size ≤ q) (cat [[(h, .inr (12, [.ref (q 0), .ref (q 1), .ref (q 2), .ref (q 3), .ref (q 4), .ref (q 5), .ref (q 6), .int 0, .int ((-1)), .ref (q 9), .ref (q 10), .int 0, .int 0, .ref (q 13), .int 0, .int 0, .null, .null, .null, .null, .null]))], [(q 3, .inl (kA 7, 4, .inr (.inr (.inr (.inr (rr (g 3)))))))], [(g 3 j, .inr (0, [.ref (qd 0), .int ((-1)), .ref (qd 2), .ref (qd 3), .ref (qd 4), .ref (qd 5), .ref (qd 6), .int 0, .int 0, .int 0, .ref (qd 10), .ref (qd 11), .ref (qd 12), .ref (qd 13), .ref (qd 14), .ref (qd 15), .ref (qd 16), .int 0, .int 0, .int 0, .int 0]))], [(h2, .inr (13, mF qm x0Mo y0Mo))], [(qm 61, .inl (kA 0, 4, .inl (upd (upd (upd (upd (fun _ => 0) 0 (-1)) 1 (-1)) 2 (-1)) 3 (-1))))]])) (hS : va_S (fun q : Nat => s.heap.size ≤ q) s.heap H locs) (hl : lv_has ls 4 [(3, .int 0), (2, .ref h2), (1, .ref h), (0, .ref b)]) : W p l e room_1 s m #[Value.ref b] below meth c H locs 368 365796 (lw_Z below #[Value.ref b] s) (F0 m 904 ls []) := by
  obtain ⟨hx, hb, hr, hml, hown, hts0, hX, hbl, hlocks, hgv⟩ := id C0
  have hts : ∀ w ∈ lw_g, w.before #[Value.ref b] s = true := fun w h => hts0 w (lw_gt h)
  have X : cx p s m #[Value.ref b] meth c b_law_law 4 ret "DrawingHouseLaw" meth.name := ⟨hx, hb, hml, hown, hts, hr, hlocks, rfl⟩
  obtain ⟨A, hAe⟩ : ∃ A : Nat → Prop, A = fun q : Nat => s.heap.size ≤ q := ⟨_, rfl⟩
  have hA : ∀ q : Nat, s.heap.size ≤ q → A q := fun q h => by rw [hAe]; exact h
  have hbA : ¬ A b := by rw [hAe]; exact Nat.not_le.mpr hbl
  rw [← hAe] at hD hS
  refine lv_aload_n (pc := 904) hx hb d_law_law_904 rfl (lv_at hl 2 rfl) ?_
  refine lv_aload_n (pc := 905) hx hb d_law_law_905 rfl (lv_at hl 3 rfl) ?_
  refine lv_iload_n (pc := 906) hx hb d_law_law_906 rfl (lv_at hl 0 rfl) ?_
  refine lv_iconst (pc := 907) (v := 1) hx hb d_law_law_907 (by decide) ?_
  refine lv_iadd (pc := 908) hx hb d_law_law_908 ?_
  refine k_cst (v := 1) (by decide) ?_
  refine va_sld (pc := 909) hx hb hX hbl hbA hS (by unfold vp_in; decide) d_law_law_909 ?_
  refine k_cst (v := nI j) hv1 ?_
  refine lv_aload_n (pc := 910) hx hb d_law_law_910 rfl (lv_at hl 3 rfl) ?_
  refine lv_iload_n (pc := 911) hx hb d_law_law_911 rfl (lv_at hl 0 rfl) ?_
  refine lv_iconst (pc := 912) (v := 2) hx hb d_law_law_912 (by decide) ?_
  refine lv_iadd (pc := 913) hx hb d_law_law_913 ?_
  refine k_cst (v := 2) (by decide) ?_
  refine va_sld (pc := 914) hx hb hX hbl hbA hS (by unfold vp_in; decide) d_law_law_914 ?_
  refine k_cst (v := v2) hv2 ?_
  refine lv_aload_n (pc := 915) hx hb d_law_law_915 rfl (lv_at hl 3 rfl) ?_
  refine lv_iload_n (pc := 916) hx hb d_law_law_916 rfl (lv_at hl 0 rfl) ?_
  refine lv_iconst (pc := 917) (v := 3) hx hb d_law_law_917 (by decide) ?_
  refine lv_iadd (pc := 918) hx hb d_law_law_918 ?_
  refine k_cst (v := 3) (by decide) ?_
  refine va_sld (pc := 919) hx hb hX hbl hbA hS (by unfold vp_in; decide) d_law_law_919 ?_
  refine k_cst (v := v3) hv3 ?_
  refine lv_aload_n (pc := 920) hx hb d_law_law_920 rfl (lv_at hl 3 rfl) ?_
  refine lv_iload_n (pc := 921) hx hb d_law_law_921 rfl (lv_at hl 0 rfl) ?_
  refine lv_iconst (pc := 922) (v := 4) hx hb d_law_law_922 (by decide) ?_
  refine lv_iadd (pc := 923) hx hb d_law_law_923 ?_
  refine k_cst (v := 4) (by decide) ?_
  refine va_sld (pc := 924) hx hb hX hbl hbA hS (by unfold vp_in; decide) d_law_law_924 ?_
  refine k_cst (v := v4) hv4 ?_
  refine lv_aload_n (pc := 925) hx hb d_law_law_925 rfl (lv_at hl 3 rfl) ?_
  refine lv_iload_n (pc := 926) hx hb d_law_law_926 rfl (lv_at hl 0 rfl) ?_
  refine lv_iconst (pc := 927) (v := 5) hx hb d_law_law_927 (by decide) ?_
  refine lv_iadd (pc := 928) hx hb d_law_law_928 ?_
  refine k_cst (v := 5) (by decide) ?_
  refine va_sld (pc := 929) hx hb hX hbl hbA hS (by unfold vp_in; decide) d_law_law_929 ?_
  refine k_cst (v := v5) hv5 ?_
  refine k_goI (gr := [[(h2, .inr (13, mF qm x0Mo y0Mo))], [(qm 61, .inl (kA 0, 4, .inl (upd (upd (upd (upd (fun _ => 0) 0 (-1)) 1 (-1)) 2 (-1)) 3 (-1))))]]) (k_rV (pc := 930) (As := [.int (nI j), .int v2, .int v3, .int v4, .int v5]) (rest := []) X (c_Ho_put_z2 l D kA h j v2 v3 v4 v5 (q 0) (q 1) (q 2) (q 3) (q 4) (q 5) (q 6) (q 9) (q 10) (q 13) g (qd 0) (qd 2) (qd 3) (qd 4) (qd 5) (qd 6) (qd 10) (qd 11) (qd 12) (qd 13) (qd 14) (qd 15) (qd 16) hj H.size) rfl wm_1845 wm_1 wm_1842 wm_1843 wm_1844 5 (by decide +kernel) ⟨Nat.le_of_ble_eq_true rfl, Nat.le_of_ble_eq_true rfl⟩ rfl rfl (va_recv hK hP (ci := 12) (q0 := 0) rfl rfl) (k_pre hN hK hP hD [0, 1, 2] [3, 4] 5 rfl (by decide) rfl) rfl hl.1 rfl (Nat.le_of_ble_eq_true rfl) d_law_law_930 ⟨Nat.le_of_ble_eq_true rfl, Nat.le_of_ble_eq_true rfl⟩) hP hD hS hA [0, 1, 2] [3, 4] 5 rfl (by decide) rfl rfl (fun r1 u2 H locs hu2 hP hD hS => ?_)
  obtain ⟨hP, hD⟩ := k_left hP hD
  subst hu2
  have hP : va_P D classes (cat [[(h2, .inr (13, mF qm x0Mo y0Mo))], [(qm 61, .inl (kA 0, 4, .inl (upd (upd (upd (upd (fun _ => 0) 0 (-1)) 1 (-1)) 2 (-1)) 3 (-1))))]]) H := hP
  have hD : va_D A (cat [[(h2, .inr (13, mF qm x0Mo y0Mo))], [(qm 61, .inl (kA 0, 4, .inl (upd (upd (upd (upd (fun _ => 0) 0 (-1)) 1 (-1)) 2 (-1)) 3 (-1))))]]) := hD
  refine lv_aload_n (pc := 933) hx hb d_law_law_933 rfl (lv_at hl 1 rfl) ?_
  refine lv_aload_n (pc := 934) hx hb d_law_law_934 rfl (lv_at hl 3 rfl) ?_
  refine lv_iload_n (pc := 935) hx hb d_law_law_935 rfl (lv_at hl 0 rfl) ?_
  refine lv_iconst (pc := 936) (v := 1) hx hb d_law_law_936 (by decide) ?_
  refine lv_iadd (pc := 937) hx hb d_law_law_937 ?_
  refine k_cst (v := 1) (by decide) ?_
  refine va_sld (pc := 938) hx hb hX hbl hbA hS (by unfold vp_in; decide) d_law_law_938 ?_
  refine k_cst (v := nI j) hv1 ?_
  refine lv_aload_n (pc := 939) hx hb d_law_law_939 rfl (lv_at hl 3 rfl) ?_
  refine lv_iload_n (pc := 940) hx hb d_law_law_940 rfl (lv_at hl 0 rfl) ?_
  refine lv_iconst (pc := 941) (v := 2) hx hb d_law_law_941 (by decide) ?_
  refine lv_iadd (pc := 942) hx hb d_law_law_942 ?_
  refine k_cst (v := 2) (by decide) ?_
  refine va_sld (pc := 943) hx hb hX hbl hbA hS (by unfold vp_in; decide) d_law_law_943 ?_
  refine k_cst (v := v2) hv2 ?_
  refine lv_aload_n (pc := 944) hx hb d_law_law_944 rfl (lv_at hl 3 rfl) ?_
  refine lv_iload_n (pc := 945) hx hb d_law_law_945 rfl (lv_at hl 0 rfl) ?_
  refine lv_iconst (pc := 946) (v := 3) hx hb d_law_law_946 (by decide) ?_
  refine lv_iadd (pc := 947) hx hb d_law_law_947 ?_
  refine k_cst (v := 3) (by decide) ?_
  refine va_sld (pc := 948) hx hb hX hbl hbA hS (by unfold vp_in; decide) d_law_law_948 ?_
  refine k_cst (v := v3) hv3 ?_
  refine lv_aload_n (pc := 949) hx hb d_law_law_949 rfl (lv_at hl 3 rfl) ?_
  refine lv_iload_n (pc := 950) hx hb d_law_law_950 rfl (lv_at hl 0 rfl) ?_
  refine lv_iconst (pc := 951) (v := 4) hx hb d_law_law_951 (by decide) ?_
  refine lv_iadd (pc := 952) hx hb d_law_law_952 ?_
  refine k_cst (v := 4) (by decide) ?_
  refine va_sld (pc := 953) hx hb hX hbl hbA hS (by unfold vp_in; decide) d_law_law_953 ?_
  refine k_cst (v := v4) hv4 ?_
  refine lv_aload_n (pc := 954) hx hb d_law_law_954 rfl (lv_at hl 3 rfl) ?_
  refine lv_iload_n (pc := 955) hx hb d_law_law_955 rfl (lv_at hl 0 rfl) ?_
  refine lv_iconst (pc := 956) (v := 5) hx hb d_law_law_956 (by decide) ?_
  refine lv_iadd (pc := 957) hx hb d_law_law_957 ?_
  refine k_cst (v := 5) (by decide) ?_
  refine va_sld (pc := 958) hx hb hX hbl hbA hS (by unfold vp_in; decide) d_law_law_958 ?_
  refine k_cst (v := v5) hv5 ?_
  refine k_goI (gr := []) (k_rV (pc := 959) (As := [.int (nI j), .int v2, .int v3, .int v4, .int v5]) (rest := [.int 0]) X (c_Mo_put_z2 l D kA h2 j v2 v3 v4 v5 qm hj H.size) rfl wm_3661 wm_9 wm_3658 wm_3659 wm_3660 5 (by decide +kernel) ⟨Nat.le_of_ble_eq_true rfl, Nat.le_of_ble_eq_true rfl⟩ rfl rfl (va_recv hK hP (ci := 13) (q0 := 0) rfl rfl) (k_pre hN hK hP hD [0, 1] [] 2 rfl (by decide) rfl) rfl hl.1 rfl (Nat.le_of_ble_eq_true rfl) d_law_law_959 ⟨Nat.le_of_ble_eq_true rfl, Nat.le_of_ble_eq_true rfl⟩) hP hD hS hA [0, 1] [] 2 rfl (by decide) rfl rfl (fun r3 u4 H locs hu4 hP hD hS => ?_)
  obtain ⟨hP, hD⟩ := k_left hP hD
  subst hu4
  have hP : va_P D classes (cat []) H := hP
  have hD : va_D A (cat []) := hD
  refine lv_icmp_eq (pc := 962) (tgt := 1295) hx hb d_law_law_962 (by decide) (fun _ => ?_) (fun c1 => absurd (by decide) c1)
  rw [hAe] at hS
  exact law_exit l C0 (Nat.le_of_ble_eq_true rfl) (Nat.le_of_ble_eq_true rfl) hS hl
set_option maxRecDepth 100000 in
set_option maxHeartbeats 4000000 in
/-- DrawingHouse.hasDrawing(I)Z -/
theorem c_Ho_hasDrawing_z1 (l : Launch) (D : va_G) (kA : Nat → ClassId) (a0 : Nat) (v1 : Int32) (hg : sp_Ho_isPlace v1 = 0) (hgM : sp_Mo_isPlace v1 = 0) : Ci l y_Ho_hasDrawing z_Ho_hasDrawing { frames := 1, cells := 0, slots := 0, locals := 20 } D classes (TY kA) [.ref a0, .int v1] [] (fun r (_ : Unit) => r = 0) (fun u => []) 0 0 := by
  intro sz
  refine k_met (cc := b_Ho_hasDrawing) (maxL := 2) (ret := (some .boolean)) (by decide) rfl (Nat.le_of_ble_eq_true rfl) (fun p e s m below meth c ls X hl hB => ?_)
  obtain ⟨hsz, hP, hK, hD0, hN⟩ := hB
  subst hsz
  have hD := hD0.self (sz := s.heap.size)
  generalize hAe : va_A (cat []) s.heap.size = A at hD ⊢
  have hA : ∀ q : Nat, s.heap.size ≤ q → A q := fun q h => by rw [← hAe]; exact Or.inr h
  have hS : va_S A s.heap s.heap [] := va_S.rf
  obtain ⟨hx, hb, hml, hown, hts, hr, hlk, hnm⟩ := id X
  have hl : lv_has ls 2 [(0, .ref a0), (1, .int v1)] := hl
  have hP : va_P D classes (cat []) s.heap := hP
  have hK : va_K D classes (TY kA) s := hK
  refine lv_iload_n (pc := 0) hx hb d_Ho_hasDrawing_0 rfl (lv_at hl 1 rfl) ?_
  refine k_goI (gr := []) (k_rS (pc := 1) (As := [.int v1]) (rest := []) X (c_Ho_isPlace l D kA v1 s.heap.size) rfl wm_633 wm_1 wm_631 wm_632 1 (by decide +kernel) ⟨Nat.le_of_ble_eq_true rfl, Nat.le_of_ble_eq_true rfl⟩ rfl rfl (k_pre hN hK hP hD [] [] 0 rfl (by decide) rfl) rfl hl.1 rfl (Nat.le_of_ble_eq_true rfl) d_Ho_hasDrawing_1 ⟨Nat.le_of_ble_eq_true rfl, Nat.le_of_ble_eq_true rfl⟩) hP hD hS hA [] [] 0 rfl (by decide) rfl rfl (fun r1 u2 H locs hu2 hP hD hS => ?_)
  subst hu2
  have hP : va_P D classes (cat []) H := hP
  have hD : va_D A (cat []) := hD
  refine lv_if_eq (pc := 4) (tgt := 24) hx hb d_Ho_hasDrawing_4 (by decide) (fun c1 => ?_) (fun c1 => absurd (hg) c1)
  refine lv_iconst (pc := 24) (v := 0) hx hb d_Ho_hasDrawing_24 (by decide) ?_
  refine W.widen (k := 0) (n := 0) (Nat.le_of_ble_eq_true rfl) (Nat.le_of_ble_eq_true rfl) ?_
  exact W.zret (v := 0) hx hb hr rfl (fun t ht hW => ⟨⟨0, (), rfl, rfl, by rw [ht]; exact hP, va_K.moved hW.alike hK, hD⟩, hS.F ht⟩) hS.2.2 d_Ho_hasDrawing_25
set_option maxRecDepth 100000 in
set_option maxHeartbeats 4000000 in
/-- DrawingHouse.route(II)I -/
theorem c_Ho_route_z1 (l : Launch) (D : va_G) (kA : Nat → ClassId) (a0 : Nat) (v1 : Int32) (v2 : Int32) (a1 : Nat) (a2 : Nat) (a3 : Nat) (a4 : Nat) (a5 : Nat) (a6 : Nat) (a7 : Nat) (a8 : Nat) (a9 : Nat) (a10 : Nat) (hg : sp_Ho_isPlace v1 = 0) (hgM : sp_Mo_isPlace v1 = 0) : Ci l y_Ho_route z_Ho_route { frames := 2, cells := 0, slots := 0, locals := 41 } D classes (TY kA) [.ref a0, .int v1, .int v2] [[(a0, .inr (12, [.ref a1, .ref a2, .ref a3, .ref a4, .ref a5, .ref a6, .ref a7, .int 0, .int ((-1)), .ref a8, .ref a9, .int 0, .int 0, .ref a10, .int 0, .int 0, .null, .null, .null, .null, .null]))]] (fun r (_ : List va_W) => r = (-1)) (fun u => u) 0 0 := by
  intro sz
  refine k_met (cc := b_Ho_route) (maxL := 3) (ret := (some .int)) (by decide) rfl (Nat.le_of_ble_eq_true rfl) (fun p e s m below meth c ls X hl hB => ?_)
  obtain ⟨hsz, hP, hK, hD0, hN⟩ := hB
  subst hsz
  have hD := hD0.self (sz := s.heap.size)
  generalize hAe : va_A (cat [[(a0, .inr (12, [.ref a1, .ref a2, .ref a3, .ref a4, .ref a5, .ref a6, .ref a7, .int 0, .int ((-1)), .ref a8, .ref a9, .int 0, .int 0, .ref a10, .int 0, .int 0, .null, .null, .null, .null, .null]))]]) s.heap.size = A at hD ⊢
  have hA : ∀ q : Nat, s.heap.size ≤ q → A q := fun q h => by rw [← hAe]; exact Or.inr h
  have hS : va_S A s.heap s.heap [] := va_S.rf
  obtain ⟨hx, hb, hml, hown, hts, hr, hlk, hnm⟩ := id X
  have hl : lv_has ls 3 [(0, .ref a0), (1, .int v1), (2, .int v2)] := hl
  have hP : va_P D classes (cat [[(a0, .inr (12, [.ref a1, .ref a2, .ref a3, .ref a4, .ref a5, .ref a6, .ref a7, .int 0, .int ((-1)), .ref a8, .ref a9, .int 0, .int 0, .ref a10, .int 0, .int 0, .null, .null, .null, .null, .null]))]]) s.heap := hP
  have hK : va_K D classes (TY kA) s := hK
  refine lv_aload_n (pc := 0) hx hb d_Ho_route_0 rfl (lv_at hl 0 rfl) ?_
  refine lv_iload_n (pc := 1) hx hb d_Ho_route_1 rfl (lv_at hl 1 rfl) ?_
  refine k_goI (gr := [[(a0, .inr (12, [.ref a1, .ref a2, .ref a3, .ref a4, .ref a5, .ref a6, .ref a7, .int 0, .int ((-1)), .ref a8, .ref a9, .int 0, .int 0, .ref a10, .int 0, .int 0, .null, .null, .null, .null, .null]))]]) (k_rV (pc := 2) (As := [.int v1]) (rest := []) X (c_Ho_hasDrawing_z1 l D kA a0 v1 hg hgM s.heap.size) rfl wm_1859 wm_1 wm_1856 wm_1858 wv_8_15 1 (by decide +kernel) ⟨Nat.le_of_ble_eq_true rfl, Nat.le_of_ble_eq_true rfl⟩ rfl rfl (va_recv hK hP (ci := 12) (q0 := 0) rfl rfl) (k_pre hN hK hP hD [] [0] 1 rfl (by decide) rfl) rfl hl.1 rfl (Nat.le_of_ble_eq_true rfl) d_Ho_route_2 ⟨Nat.le_of_ble_eq_true rfl, Nat.le_of_ble_eq_true rfl⟩) hP hD hS hA [] [0] 1 rfl (by decide) rfl rfl (fun r1 u2 H locs hu2 hP hD hS => ?_)
  subst hu2
  have hP : va_P D classes (cat [[(a0, .inr (12, [.ref a1, .ref a2, .ref a3, .ref a4, .ref a5, .ref a6, .ref a7, .int 0, .int ((-1)), .ref a8, .ref a9, .int 0, .int 0, .ref a10, .int 0, .int 0, .null, .null, .null, .null, .null]))]]) H := hP
  have hD : va_D A (cat [[(a0, .inr (12, [.ref a1, .ref a2, .ref a3, .ref a4, .ref a5, .ref a6, .ref a7, .int 0, .int ((-1)), .ref a8, .ref a9, .int 0, .int 0, .ref a10, .int 0, .int 0, .null, .null, .null, .null, .null]))]]) := hD
  refine lv_if_eq (pc := 5) (tgt := 21) hx hb d_Ho_route_5 (by decide) (fun c1 => ?_) (fun c1 => absurd (by decide) c1)
  refine lv_iconst (pc := 21) (v := -1) hx hb d_Ho_route_21 (by decide) ?_
  refine W.widen (k := 0) (n := 0) (Nat.le_of_ble_eq_true rfl) (Nat.le_of_ble_eq_true rfl) ?_
  exact W.iret (v := (-1)) hx hb hr (fun t ht hW => ⟨⟨(-1), [[(a0, .inr (12, [.ref a1, .ref a2, .ref a3, .ref a4, .ref a5, .ref a6, .ref a7, .int 0, .int ((-1)), .ref a8, .ref a9, .int 0, .int 0, .ref a10, .int 0, .int 0, .null, .null, .null, .null, .null]))]], rfl, rfl, by rw [ht]; exact hP, va_K.moved hW.alike hK, hD⟩, hS.F ht⟩) hS.2.2 d_Ho_route_22
set_option maxRecDepth 100000 in
set_option maxHeartbeats 4000000 in
/-- DrawingHouseModel.isDrawn(I)Z -/
theorem c_Mo_isDrawn_z1 (l : Launch) (D : va_G) (kA : Nat → ClassId) (a0 : Nat) (v1 : Int32) (hg : sp_Ho_isPlace v1 = 0) (hgM : sp_Mo_isPlace v1 = 0) : Ci l y_Mo_isDrawn z_Mo_isDrawn { frames := 2, cells := 0, slots := 0, locals := 42 } D classes (TY kA) [.ref a0, .int v1] [] (fun r (_ : Unit) => r = 0) (fun u => []) 0 0 := by
  intro sz
  refine k_met (cc := b_Mo_isDrawn) (maxL := 2) (ret := (some .boolean)) (by decide) rfl (Nat.le_of_ble_eq_true rfl) (fun p e s m below meth c ls X hl hB => ?_)
  obtain ⟨hsz, hP, hK, hD0, hN⟩ := hB
  subst hsz
  have hD := hD0.self (sz := s.heap.size)
  generalize hAe : va_A (cat []) s.heap.size = A at hD ⊢
  have hA : ∀ q : Nat, s.heap.size ≤ q → A q := fun q h => by rw [← hAe]; exact Or.inr h
  have hS : va_S A s.heap s.heap [] := va_S.rf
  obtain ⟨hx, hb, hml, hown, hts, hr, hlk, hnm⟩ := id X
  have hl : lv_has ls 2 [(0, .ref a0), (1, .int v1)] := hl
  have hP : va_P D classes (cat []) s.heap := hP
  have hK : va_K D classes (TY kA) s := hK
  refine lv_iload_n (pc := 0) hx hb d_Mo_isDrawn_0 rfl (lv_at hl 1 rfl) ?_
  refine k_goI (gr := []) (k_rS (pc := 1) (As := [.int v1]) (rest := []) X (c_Mo_isPlace l D kA v1 s.heap.size) rfl wm_2978 wm_9 wm_2976 wm_2977 1 (by decide +kernel) ⟨Nat.le_of_ble_eq_true rfl, Nat.le_of_ble_eq_true rfl⟩ rfl rfl (k_pre hN hK hP hD [] [] 0 rfl (by decide) rfl) rfl hl.1 rfl (Nat.le_of_ble_eq_true rfl) d_Mo_isDrawn_1 ⟨Nat.le_of_ble_eq_true rfl, Nat.le_of_ble_eq_true rfl⟩) hP hD hS hA [] [] 0 rfl (by decide) rfl rfl (fun r1 u2 H locs hu2 hP hD hS => ?_)
  subst hu2
  have hP : va_P D classes (cat []) H := hP
  have hD : va_D A (cat []) := hD
  refine lv_if_eq (pc := 4) (tgt := 16) hx hb d_Mo_isDrawn_4 (by decide) (fun c1 => ?_) (fun c1 => absurd (hgM) c1)
  refine lv_iconst (pc := 16) (v := 0) hx hb d_Mo_isDrawn_16 (by decide) ?_
  refine W.widen (k := 0) (n := 0) (Nat.le_of_ble_eq_true rfl) (Nat.le_of_ble_eq_true rfl) ?_
  exact W.zret (v := 0) hx hb hr rfl (fun t ht hW => ⟨⟨0, (), rfl, rfl, by rw [ht]; exact hP, va_K.moved hW.alike hK, hD⟩, hS.F ht⟩) hS.2.2 d_Mo_isDrawn_17
set_option maxRecDepth 100000 in
set_option maxHeartbeats 4000000 in
/-- DrawingHouseModel.route(II)I -/
theorem c_Mo_route_z1 (l : Launch) (D : va_G) (kA : Nat → ClassId) (a0 : Nat) (v1 : Int32) (v2 : Int32) (qm : Nat → Nat) (hg : sp_Ho_isPlace v1 = 0) (hgM : sp_Mo_isPlace v1 = 0) : Ci l y_Mo_route z_Mo_route { frames := 3, cells := 0, slots := 0, locals := 63 } D classes (TY kA) [.ref a0, .int v1, .int v2] [[(a0, .inr (13, mF qm x0Mo y0Mo))]] (fun r (_ : List va_W) => r = (-1)) (fun u => u) 0 0 := by
  intro sz
  refine k_met (cc := b_Mo_route) (maxL := 7) (ret := (some .int)) (by decide) rfl (Nat.le_of_ble_eq_true rfl) (fun p e s m below meth c ls X hl hB => ?_)
  obtain ⟨hsz, hP, hK, hD0, hN⟩ := hB
  subst hsz
  have hD := hD0.self (sz := s.heap.size)
  generalize hAe : va_A (cat [[(a0, .inr (13, mF qm x0Mo y0Mo))]]) s.heap.size = A at hD ⊢
  have hA : ∀ q : Nat, s.heap.size ≤ q → A q := fun q h => by rw [← hAe]; exact Or.inr h
  have hS : va_S A s.heap s.heap [] := va_S.rf
  obtain ⟨hx, hb, hml, hown, hts, hr, hlk, hnm⟩ := id X
  have hl : lv_has ls 7 [(0, .ref a0), (1, .int v1), (2, .int v2)] := hl
  have hP : va_P D classes (cat [[(a0, .inr (13, mF qm x0Mo y0Mo))]]) s.heap := hP
  have hK : va_K D classes (TY kA) s := hK
  refine lv_aload_n (pc := 0) hx hb d_Mo_route_0 rfl (lv_at hl 0 rfl) ?_
  refine lv_iload_n (pc := 1) hx hb d_Mo_route_1 rfl (lv_at hl 1 rfl) ?_
  refine k_goI (gr := [[(a0, .inr (13, mF qm x0Mo y0Mo))]]) (k_rV (pc := 2) (As := [.int v1]) (rest := []) X (c_Mo_isDrawn_z1 l D kA a0 v1 hg hgM s.heap.size) rfl wm_3669 wm_9 wm_3666 wm_3668 wv_21_13 1 (by decide +kernel) ⟨Nat.le_of_ble_eq_true rfl, Nat.le_of_ble_eq_true rfl⟩ rfl rfl (va_recv hK hP (ci := 13) (q0 := 0) rfl rfl) (k_pre hN hK hP hD [] [0] 1 rfl (by decide) rfl) rfl hl.1 rfl (Nat.le_of_ble_eq_true rfl) d_Mo_route_2 ⟨Nat.le_of_ble_eq_true rfl, Nat.le_of_ble_eq_true rfl⟩) hP hD hS hA [] [0] 1 rfl (by decide) rfl rfl (fun r1 u2 H locs hu2 hP hD hS => ?_)
  subst hu2
  have hP : va_P D classes (cat [[(a0, .inr (13, mF qm x0Mo y0Mo))]]) H := hP
  have hD : va_D A (cat [[(a0, .inr (13, mF qm x0Mo y0Mo))]]) := hD
  refine lv_if_eq (pc := 5) (tgt := 22) hx hb d_Mo_route_5 (by decide) (fun c1 => ?_) (fun c1 => absurd (by decide) c1)
  refine lv_iconst (pc := 22) (v := -1) hx hb d_Mo_route_22 (by decide) ?_
  refine W.widen (k := 0) (n := 0) (Nat.le_of_ble_eq_true rfl) (Nat.le_of_ble_eq_true rfl) ?_
  exact W.iret (v := (-1)) hx hb hr (fun t ht hW => ⟨⟨(-1), [[(a0, .inr (13, mF qm x0Mo y0Mo))]], rfl, rfl, by rw [ht]; exact hP, va_K.moved hW.alike hK, hD⟩, hS.F ht⟩) hS.2.2 d_Mo_route_23
set_option maxRecDepth 100000 in
set_option maxHeartbeats 4000000 in
/-- route, a fresh house -/
theorem lf_route_1 {p : Program} {e : Env} {s : State} {m : MethodId} {below : List Frame} {meth : Method} {c : Code} (l : Launch) {b : Nat} {xs : Nat → Int32} (C0 : lw_At p s m meth c b 6 xs) {D : va_G} {kA : Nat → ClassId} (h : Nat) (h2 : Nat) (q : Nat → Nat) (qm : Nat → Nat) (v1 : Int32) (v2 : Int32) (hg : sp_Ho_isPlace v1 = 0) (hgM : sp_Mo_isPlace v1 = 0) (hv1 : xs 1 = v1) (hv2 : xs 2 = v2) {H : Heap} {locs : List Loc} {ls : Array Slot} (hK : va_K D classes (TY kA) s) (hN : nst s) (hP : va_P D classes (cat [[(h, .inr (12, [.ref (q 0), .ref (q 1), .ref (q 2), .ref (q 3), .ref (q 4), .ref (q 5), .ref (q 6), .int 0, .int ((-1)), .ref (q 9), .ref (q 10), .int 0, .int 0, .ref (q 13), .int 0, .int 0, .null, .null, .null, .null, .null]))], [(h2, .inr (13, mF qm x0Mo y0Mo))]]) H) (hD : va_D (fun q : Nat => s.heap.size ≤ q) (cat [[(h, .inr (12, [.ref (q 0), .ref (q 1), .ref (q 2), .ref (q 3), .ref (q 4), .ref (q 5), .ref (q 6), .int 0, .int ((-1)), .ref (q 9), .ref (q 10), .int 0, .int 0, .ref (q 13), .int 0, .int 0, .null, .null, .null, .null, .null]))], [(h2, .inr (13, mF qm x0Mo y0Mo))]])) (hS : va_S (fun q : Nat => s.heap.size ≤ q) s.heap H locs) (hl : lv_has ls 4 [(3, .int 0), (2, .ref h2), (1, .ref h), (0, .ref b)]) : W p l e room_1 s m #[Value.ref b] below meth c H locs 368 365796 (lw_Z below #[Value.ref b] s) (F0 m 967 ls []) := by
  obtain ⟨hx, hb, hr, hml, hown, hts0, hX, hbl, hlocks, hgv⟩ := id C0
  have hts : ∀ w ∈ lw_g, w.before #[Value.ref b] s = true := fun w h => hts0 w (lw_gt h)
  have X : cx p s m #[Value.ref b] meth c b_law_law 4 ret "DrawingHouseLaw" meth.name := ⟨hx, hb, hml, hown, hts, hr, hlocks, rfl⟩
  obtain ⟨A, hAe⟩ : ∃ A : Nat → Prop, A = fun q : Nat => s.heap.size ≤ q := ⟨_, rfl⟩
  have hA : ∀ q : Nat, s.heap.size ≤ q → A q := fun q h => by rw [hAe]; exact h
  have hbA : ¬ A b := by rw [hAe]; exact Nat.not_le.mpr hbl
  rw [← hAe] at hD hS
  refine lv_aload_n (pc := 967) hx hb d_law_law_967 rfl (lv_at hl 2 rfl) ?_
  refine lv_aload_n (pc := 968) hx hb d_law_law_968 rfl (lv_at hl 3 rfl) ?_
  refine lv_iload_n (pc := 969) hx hb d_law_law_969 rfl (lv_at hl 0 rfl) ?_
  refine lv_iconst (pc := 970) (v := 1) hx hb d_law_law_970 (by decide) ?_
  refine lv_iadd (pc := 971) hx hb d_law_law_971 ?_
  refine k_cst (v := 1) (by decide) ?_
  refine va_sld (pc := 972) hx hb hX hbl hbA hS (by unfold vp_in; decide) d_law_law_972 ?_
  refine k_cst (v := v1) hv1 ?_
  refine lv_aload_n (pc := 973) hx hb d_law_law_973 rfl (lv_at hl 3 rfl) ?_
  refine lv_iload_n (pc := 974) hx hb d_law_law_974 rfl (lv_at hl 0 rfl) ?_
  refine lv_iconst (pc := 975) (v := 2) hx hb d_law_law_975 (by decide) ?_
  refine lv_iadd (pc := 976) hx hb d_law_law_976 ?_
  refine k_cst (v := 2) (by decide) ?_
  refine va_sld (pc := 977) hx hb hX hbl hbA hS (by unfold vp_in; decide) d_law_law_977 ?_
  refine k_cst (v := v2) hv2 ?_
  refine k_goI (gr := [[(h2, .inr (13, mF qm x0Mo y0Mo))]]) (k_rV (pc := 978) (As := [.int v1, .int v2]) (rest := []) X (c_Ho_route_z1 l D kA h v1 v2 (q 0) (q 1) (q 2) (q 3) (q 4) (q 5) (q 6) (q 9) (q 10) (q 13) hg hgM H.size) rfl wm_1855 wm_1 wm_1852 wm_1853 wm_1854 2 (by decide +kernel) ⟨Nat.le_of_ble_eq_true rfl, Nat.le_of_ble_eq_true rfl⟩ rfl rfl (va_recv hK hP (ci := 12) (q0 := 0) rfl rfl) (k_pre hN hK hP hD [0] [1] 2 rfl (by decide) rfl) rfl hl.1 rfl (Nat.le_of_ble_eq_true rfl) d_law_law_978 ⟨Nat.le_of_ble_eq_true rfl, Nat.le_of_ble_eq_true rfl⟩) hP hD hS hA [0] [1] 2 rfl (by decide) rfl rfl (fun r1 u2 H locs hu2 hP hD hS => ?_)
  obtain ⟨hP, hD⟩ := k_left hP hD
  subst hu2
  have hP : va_P D classes (cat [[(h2, .inr (13, mF qm x0Mo y0Mo))]]) H := hP
  have hD : va_D A (cat [[(h2, .inr (13, mF qm x0Mo y0Mo))]]) := hD
  refine lv_aload_n (pc := 981) hx hb d_law_law_981 rfl (lv_at hl 1 rfl) ?_
  refine lv_aload_n (pc := 982) hx hb d_law_law_982 rfl (lv_at hl 3 rfl) ?_
  refine lv_iload_n (pc := 983) hx hb d_law_law_983 rfl (lv_at hl 0 rfl) ?_
  refine lv_iconst (pc := 984) (v := 1) hx hb d_law_law_984 (by decide) ?_
  refine lv_iadd (pc := 985) hx hb d_law_law_985 ?_
  refine k_cst (v := 1) (by decide) ?_
  refine va_sld (pc := 986) hx hb hX hbl hbA hS (by unfold vp_in; decide) d_law_law_986 ?_
  refine k_cst (v := v1) hv1 ?_
  refine lv_aload_n (pc := 987) hx hb d_law_law_987 rfl (lv_at hl 3 rfl) ?_
  refine lv_iload_n (pc := 988) hx hb d_law_law_988 rfl (lv_at hl 0 rfl) ?_
  refine lv_iconst (pc := 989) (v := 2) hx hb d_law_law_989 (by decide) ?_
  refine lv_iadd (pc := 990) hx hb d_law_law_990 ?_
  refine k_cst (v := 2) (by decide) ?_
  refine va_sld (pc := 991) hx hb hX hbl hbA hS (by unfold vp_in; decide) d_law_law_991 ?_
  refine k_cst (v := v2) hv2 ?_
  refine k_goI (gr := []) (k_rV (pc := 992) (As := [.int v1, .int v2]) (rest := [.int ((-1))]) X (c_Mo_route_z1 l D kA h2 v1 v2 qm hg hgM H.size) rfl wm_3665 wm_9 wm_3662 wm_3663 wm_3664 2 (by decide +kernel) ⟨Nat.le_of_ble_eq_true rfl, Nat.le_of_ble_eq_true rfl⟩ rfl rfl (va_recv hK hP (ci := 13) (q0 := 0) rfl rfl) (k_pre hN hK hP hD [0] [] 1 rfl (by decide) rfl) rfl hl.1 rfl (Nat.le_of_ble_eq_true rfl) d_law_law_992 ⟨Nat.le_of_ble_eq_true rfl, Nat.le_of_ble_eq_true rfl⟩) hP hD hS hA [0] [] 1 rfl (by decide) rfl rfl (fun r3 u4 H locs hu4 hP hD hS => ?_)
  obtain ⟨hP, hD⟩ := k_left hP hD
  subst hu4
  have hP : va_P D classes (cat []) H := hP
  have hD : va_D A (cat []) := hD
  refine lv_icmp_eq (pc := 995) (tgt := 1295) hx hb d_law_law_995 (by decide) (fun _ => ?_) (fun c1 => absurd (by decide) c1)
  rw [hAe] at hS
  exact law_exit l C0 (Nat.le_of_ble_eq_true rfl) (Nat.le_of_ble_eq_true rfl) hS hl
set_option maxRecDepth 100000 in
set_option maxHeartbeats 4000000 in
/-- DrawingHouse.hasDrawing(I)Z -/
theorem c_Ho_hasDrawing_z2 (l : Launch) (D : va_G) (kA : Nat → ClassId) (a0 : Nat) (j : Nat) (a1 : Nat) (a2 : Nat) (a3 : Nat) (a4 : Nat) (a5 : Nat) (a6 : Nat) (a7 : Nat) (a8 : Nat) (a9 : Nat) (a10 : Nat) (g : Nat → Nat → Nat) (a11 : Nat) (a12 : Nat) (a13 : Nat) (a14 : Nat) (a15 : Nat) (a16 : Nat) (a17 : Nat) (a18 : Nat) (a19 : Nat) (a20 : Nat) (a21 : Nat) (a22 : Nat) (a23 : Nat) (hj : j < 4) : Ci l y_Ho_hasDrawing z_Ho_hasDrawing { frames := 1, cells := 0, slots := 0, locals := 20 } D classes (TY kA) [.ref a0, .int (nI j)] [[(a0, .inr (12, [.ref a1, .ref a2, .ref a3, .ref a4, .ref a5, .ref a6, .ref a7, .int 0, .int ((-1)), .ref a8, .ref a9, .int 0, .int 0, .ref a10, .int 0, .int 0, .null, .null, .null, .null, .null]))], [(a4, .inl (kA 7, 4, .inr (.inr (.inr (.inr (rr (g 3)))))))], [(g 3 j, .inr (0, [.ref a11, .int ((-1)), .ref a12, .ref a13, .ref a14, .ref a15, .ref a16, .int 0, .int 0, .int 0, .ref a17, .ref a18, .ref a19, .ref a20, .ref a21, .ref a22, .ref a23, .int 0, .int 0, .int 0, .int 0]))]] (fun r (_ : Unit) => r = 0) (fun u => [[(a0, .inr (12, [.ref a1, .ref a2, .ref a3, .ref a4, .ref a5, .ref a6, .ref a7, .int 0, .int ((-1)), .ref a8, .ref a9, .int 0, .int 0, .ref a10, .int 0, .int 0, .null, .null, .null, .null, .null]))], [(a4, .inl (kA 7, 4, .inr (.inr (.inr (.inr (rr (g 3)))))))], [(g 3 j, .inr (0, [.ref a11, .int ((-1)), .ref a12, .ref a13, .ref a14, .ref a15, .ref a16, .int 0, .int 0, .int 0, .ref a17, .ref a18, .ref a19, .ref a20, .ref a21, .ref a22, .ref a23, .int 0, .int 0, .int 0, .int 0]))]]) 0 0 := by
  intro sz
  refine k_met (cc := b_Ho_hasDrawing) (maxL := 2) (ret := (some .boolean)) (by decide) rfl (Nat.le_of_ble_eq_true rfl) (fun p e s m below meth c ls X hl hB => ?_)
  obtain ⟨hsz, hP, hK, hD0, hN⟩ := hB
  subst hsz
  have hD := hD0.self (sz := s.heap.size)
  generalize hAe : va_A (cat [[(a0, .inr (12, [.ref a1, .ref a2, .ref a3, .ref a4, .ref a5, .ref a6, .ref a7, .int 0, .int ((-1)), .ref a8, .ref a9, .int 0, .int 0, .ref a10, .int 0, .int 0, .null, .null, .null, .null, .null]))], [(a4, .inl (kA 7, 4, .inr (.inr (.inr (.inr (rr (g 3)))))))], [(g 3 j, .inr (0, [.ref a11, .int ((-1)), .ref a12, .ref a13, .ref a14, .ref a15, .ref a16, .int 0, .int 0, .int 0, .ref a17, .ref a18, .ref a19, .ref a20, .ref a21, .ref a22, .ref a23, .int 0, .int 0, .int 0, .int 0]))]]) s.heap.size = A at hD ⊢
  have hA : ∀ q : Nat, s.heap.size ≤ q → A q := fun q h => by rw [← hAe]; exact Or.inr h
  have hS : va_S A s.heap s.heap [] := va_S.rf
  obtain ⟨hx, hb, hml, hown, hts, hr, hlk, hnm⟩ := id X
  have hl : lv_has ls 2 [(0, .ref a0), (1, .int (nI j))] := hl
  have hP : va_P D classes (cat [[(a0, .inr (12, [.ref a1, .ref a2, .ref a3, .ref a4, .ref a5, .ref a6, .ref a7, .int 0, .int ((-1)), .ref a8, .ref a9, .int 0, .int 0, .ref a10, .int 0, .int 0, .null, .null, .null, .null, .null]))], [(a4, .inl (kA 7, 4, .inr (.inr (.inr (.inr (rr (g 3)))))))], [(g 3 j, .inr (0, [.ref a11, .int ((-1)), .ref a12, .ref a13, .ref a14, .ref a15, .ref a16, .int 0, .int 0, .int 0, .ref a17, .ref a18, .ref a19, .ref a20, .ref a21, .ref a22, .ref a23, .int 0, .int 0, .int 0, .int 0]))]]) s.heap := hP
  have hK : va_K D classes (TY kA) s := hK
  refine lv_iload_n (pc := 0) hx hb d_Ho_hasDrawing_0 rfl (lv_at hl 1 rfl) ?_
  refine k_goI (gr := [[(a0, .inr (12, [.ref a1, .ref a2, .ref a3, .ref a4, .ref a5, .ref a6, .ref a7, .int 0, .int ((-1)), .ref a8, .ref a9, .int 0, .int 0, .ref a10, .int 0, .int 0, .null, .null, .null, .null, .null]))], [(a4, .inl (kA 7, 4, .inr (.inr (.inr (.inr (rr (g 3)))))))], [(g 3 j, .inr (0, [.ref a11, .int ((-1)), .ref a12, .ref a13, .ref a14, .ref a15, .ref a16, .int 0, .int 0, .int 0, .ref a17, .ref a18, .ref a19, .ref a20, .ref a21, .ref a22, .ref a23, .int 0, .int 0, .int 0, .int 0]))]]) (k_rS (pc := 1) (As := [.int (nI j)]) (rest := []) X (c_Ho_isPlace l D kA (nI j) s.heap.size) rfl wm_633 wm_1 wm_631 wm_632 1 (by decide +kernel) ⟨Nat.le_of_ble_eq_true rfl, Nat.le_of_ble_eq_true rfl⟩ rfl rfl (k_pre hN hK hP hD [] [0, 1, 2] 3 rfl (by decide) rfl) rfl hl.1 rfl (Nat.le_of_ble_eq_true rfl) d_Ho_hasDrawing_1 ⟨Nat.le_of_ble_eq_true rfl, Nat.le_of_ble_eq_true rfl⟩) hP hD hS hA [] [0, 1, 2] 3 rfl (by decide) rfl rfl (fun r1 u2 H locs hu2 hP hD hS => ?_)
  subst hu2
  refine k_cst (v := 1) (place_ok hj) ?_
  have hP : va_P D classes (cat [[(a0, .inr (12, [.ref a1, .ref a2, .ref a3, .ref a4, .ref a5, .ref a6, .ref a7, .int 0, .int ((-1)), .ref a8, .ref a9, .int 0, .int 0, .ref a10, .int 0, .int 0, .null, .null, .null, .null, .null]))], [(a4, .inl (kA 7, 4, .inr (.inr (.inr (.inr (rr (g 3)))))))], [(g 3 j, .inr (0, [.ref a11, .int ((-1)), .ref a12, .ref a13, .ref a14, .ref a15, .ref a16, .int 0, .int 0, .int 0, .ref a17, .ref a18, .ref a19, .ref a20, .ref a21, .ref a22, .ref a23, .int 0, .int 0, .int 0, .int 0]))]]) H := hP
  have hD : va_D A (cat [[(a0, .inr (12, [.ref a1, .ref a2, .ref a3, .ref a4, .ref a5, .ref a6, .ref a7, .int 0, .int ((-1)), .ref a8, .ref a9, .int 0, .int 0, .ref a10, .int 0, .int 0, .null, .null, .null, .null, .null]))], [(a4, .inl (kA 7, 4, .inr (.inr (.inr (.inr (rr (g 3)))))))], [(g 3 j, .inr (0, [.ref a11, .int ((-1)), .ref a12, .ref a13, .ref a14, .ref a15, .ref a16, .int 0, .int 0, .int 0, .ref a17, .ref a18, .ref a19, .ref a20, .ref a21, .ref a22, .ref a23, .int 0, .int 0, .int 0, .int 0]))]]) := hD
  refine lv_if_eq (pc := 4) (tgt := 24) hx hb d_Ho_hasDrawing_4 (by decide) (fun c1 => absurd c1 (by decide)) (fun c1 => ?_)
  refine lv_aload_n (pc := 7) hx hb d_Ho_hasDrawing_7 rfl (lv_at hl 0 rfl) ?_
  refine k_get (pc := 8) X hK hP 0 rfl rfl i_Ho 3 (by decide) wm_558 rfl rfl d_Ho_hasDrawing_8 ?_
  refine lv_iload_n (pc := 11) hx hb d_Ho_hasDrawing_11 rfl (lv_at hl 1 rfl) ?_
  refine k_ald (pc := 12) hx hb hK hP 1 7 rfl rfl (j) rfl (by omega) (by decide) (rr_at (by omega)) d_Ho_hasDrawing_12 ?_
  refine k_get (pc := 13) X hK hP 2 rfl rfl i_Dr 1 (by decide) wm_467 rfl rfl d_Ho_hasDrawing_13 ?_
  refine lv_iconst (pc := 16) (v := -1) hx hb d_Ho_hasDrawing_16 (by decide) ?_
  refine lv_icmp_eq (pc := 17) (tgt := 24) hx hb d_Ho_hasDrawing_17 (by decide) (fun _ => ?_) (fun c1 => absurd (by decide) c1)
  refine lv_iconst (pc := 24) (v := 0) hx hb d_Ho_hasDrawing_24 (by decide) ?_
  refine W.widen (k := 0) (n := 0) (Nat.le_of_ble_eq_true rfl) (Nat.le_of_ble_eq_true rfl) ?_
  exact W.zret (v := 0) hx hb hr rfl (fun t ht hW => ⟨⟨0, (), rfl, rfl, by rw [ht]; exact hP, va_K.moved hW.alike hK, hD⟩, hS.F ht⟩) hS.2.2 d_Ho_hasDrawing_25
set_option maxRecDepth 100000 in
set_option maxHeartbeats 4000000 in
/-- DrawingHouse.route(II)I -/
theorem c_Ho_route_z2 (l : Launch) (D : va_G) (kA : Nat → ClassId) (a0 : Nat) (j : Nat) (v2 : Int32) (a1 : Nat) (a2 : Nat) (a3 : Nat) (a4 : Nat) (a5 : Nat) (a6 : Nat) (a7 : Nat) (a8 : Nat) (a9 : Nat) (a10 : Nat) (g : Nat → Nat → Nat) (a11 : Nat) (a12 : Nat) (a13 : Nat) (a14 : Nat) (a15 : Nat) (a16 : Nat) (a17 : Nat) (a18 : Nat) (a19 : Nat) (a20 : Nat) (a21 : Nat) (a22 : Nat) (a23 : Nat) (hj : j < 4) : Ci l y_Ho_route z_Ho_route { frames := 2, cells := 0, slots := 0, locals := 41 } D classes (TY kA) [.ref a0, .int (nI j), .int v2] [[(a0, .inr (12, [.ref a1, .ref a2, .ref a3, .ref a4, .ref a5, .ref a6, .ref a7, .int 0, .int ((-1)), .ref a8, .ref a9, .int 0, .int 0, .ref a10, .int 0, .int 0, .null, .null, .null, .null, .null]))], [(a4, .inl (kA 7, 4, .inr (.inr (.inr (.inr (rr (g 3)))))))], [(g 3 j, .inr (0, [.ref a11, .int ((-1)), .ref a12, .ref a13, .ref a14, .ref a15, .ref a16, .int 0, .int 0, .int 0, .ref a17, .ref a18, .ref a19, .ref a20, .ref a21, .ref a22, .ref a23, .int 0, .int 0, .int 0, .int 0]))]] (fun r (_ : List va_W) => r = (-1)) (fun u => u) 0 0 := by
  intro sz
  refine k_met (cc := b_Ho_route) (maxL := 3) (ret := (some .int)) (by decide) rfl (Nat.le_of_ble_eq_true rfl) (fun p e s m below meth c ls X hl hB => ?_)
  obtain ⟨hsz, hP, hK, hD0, hN⟩ := hB
  subst hsz
  have hD := hD0.self (sz := s.heap.size)
  generalize hAe : va_A (cat [[(a0, .inr (12, [.ref a1, .ref a2, .ref a3, .ref a4, .ref a5, .ref a6, .ref a7, .int 0, .int ((-1)), .ref a8, .ref a9, .int 0, .int 0, .ref a10, .int 0, .int 0, .null, .null, .null, .null, .null]))], [(a4, .inl (kA 7, 4, .inr (.inr (.inr (.inr (rr (g 3)))))))], [(g 3 j, .inr (0, [.ref a11, .int ((-1)), .ref a12, .ref a13, .ref a14, .ref a15, .ref a16, .int 0, .int 0, .int 0, .ref a17, .ref a18, .ref a19, .ref a20, .ref a21, .ref a22, .ref a23, .int 0, .int 0, .int 0, .int 0]))]]) s.heap.size = A at hD ⊢
  have hA : ∀ q : Nat, s.heap.size ≤ q → A q := fun q h => by rw [← hAe]; exact Or.inr h
  have hS : va_S A s.heap s.heap [] := va_S.rf
  obtain ⟨hx, hb, hml, hown, hts, hr, hlk, hnm⟩ := id X
  have hl : lv_has ls 3 [(0, .ref a0), (1, .int (nI j)), (2, .int v2)] := hl
  have hP : va_P D classes (cat [[(a0, .inr (12, [.ref a1, .ref a2, .ref a3, .ref a4, .ref a5, .ref a6, .ref a7, .int 0, .int ((-1)), .ref a8, .ref a9, .int 0, .int 0, .ref a10, .int 0, .int 0, .null, .null, .null, .null, .null]))], [(a4, .inl (kA 7, 4, .inr (.inr (.inr (.inr (rr (g 3)))))))], [(g 3 j, .inr (0, [.ref a11, .int ((-1)), .ref a12, .ref a13, .ref a14, .ref a15, .ref a16, .int 0, .int 0, .int 0, .ref a17, .ref a18, .ref a19, .ref a20, .ref a21, .ref a22, .ref a23, .int 0, .int 0, .int 0, .int 0]))]]) s.heap := hP
  have hK : va_K D classes (TY kA) s := hK
  refine lv_aload_n (pc := 0) hx hb d_Ho_route_0 rfl (lv_at hl 0 rfl) ?_
  refine lv_iload_n (pc := 1) hx hb d_Ho_route_1 rfl (lv_at hl 1 rfl) ?_
  refine k_goI (gr := []) (k_rV (pc := 2) (As := [.int (nI j)]) (rest := []) X (c_Ho_hasDrawing_z2 l D kA a0 j a1 a2 a3 a4 a5 a6 a7 a8 a9 a10 g a11 a12 a13 a14 a15 a16 a17 a18 a19 a20 a21 a22 a23 hj s.heap.size) rfl wm_1859 wm_1 wm_1856 wm_1858 wv_8_15 1 (by decide +kernel) ⟨Nat.le_of_ble_eq_true rfl, Nat.le_of_ble_eq_true rfl⟩ rfl rfl (va_recv hK hP (ci := 12) (q0 := 0) rfl rfl) (k_pre hN hK hP hD [0, 1, 2] [] 3 rfl (by decide) rfl) rfl hl.1 rfl (Nat.le_of_ble_eq_true rfl) d_Ho_route_2 ⟨Nat.le_of_ble_eq_true rfl, Nat.le_of_ble_eq_true rfl⟩) hP hD hS hA [0, 1, 2] [] 3 rfl (by decide) rfl rfl (fun r1 u2 H locs hu2 hP hD hS => ?_)
  subst hu2
  have hP : va_P D classes (cat [[(a0, .inr (12, [.ref a1, .ref a2, .ref a3, .ref a4, .ref a5, .ref a6, .ref a7, .int 0, .int ((-1)), .ref a8, .ref a9, .int 0, .int 0, .ref a10, .int 0, .int 0, .null, .null, .null, .null, .null]))], [(a4, .inl (kA 7, 4, .inr (.inr (.inr (.inr (rr (g 3)))))))], [(g 3 j, .inr (0, [.ref a11, .int ((-1)), .ref a12, .ref a13, .ref a14, .ref a15, .ref a16, .int 0, .int 0, .int 0, .ref a17, .ref a18, .ref a19, .ref a20, .ref a21, .ref a22, .ref a23, .int 0, .int 0, .int 0, .int 0]))]]) H := hP
  have hD : va_D A (cat [[(a0, .inr (12, [.ref a1, .ref a2, .ref a3, .ref a4, .ref a5, .ref a6, .ref a7, .int 0, .int ((-1)), .ref a8, .ref a9, .int 0, .int 0, .ref a10, .int 0, .int 0, .null, .null, .null, .null, .null]))], [(a4, .inl (kA 7, 4, .inr (.inr (.inr (.inr (rr (g 3)))))))], [(g 3 j, .inr (0, [.ref a11, .int ((-1)), .ref a12, .ref a13, .ref a14, .ref a15, .ref a16, .int 0, .int 0, .int 0, .ref a17, .ref a18, .ref a19, .ref a20, .ref a21, .ref a22, .ref a23, .int 0, .int 0, .int 0, .int 0]))]]) := hD
  refine lv_if_eq (pc := 5) (tgt := 21) hx hb d_Ho_route_5 (by decide) (fun c1 => ?_) (fun c1 => absurd (by decide) c1)
  refine lv_iconst (pc := 21) (v := -1) hx hb d_Ho_route_21 (by decide) ?_
  refine W.widen (k := 0) (n := 0) (Nat.le_of_ble_eq_true rfl) (Nat.le_of_ble_eq_true rfl) ?_
  exact W.iret (v := (-1)) hx hb hr (fun t ht hW => ⟨⟨(-1), [[(a0, .inr (12, [.ref a1, .ref a2, .ref a3, .ref a4, .ref a5, .ref a6, .ref a7, .int 0, .int ((-1)), .ref a8, .ref a9, .int 0, .int 0, .ref a10, .int 0, .int 0, .null, .null, .null, .null, .null]))], [(a4, .inl (kA 7, 4, .inr (.inr (.inr (.inr (rr (g 3)))))))], [(g 3 j, .inr (0, [.ref a11, .int ((-1)), .ref a12, .ref a13, .ref a14, .ref a15, .ref a16, .int 0, .int 0, .int 0, .ref a17, .ref a18, .ref a19, .ref a20, .ref a21, .ref a22, .ref a23, .int 0, .int 0, .int 0, .int 0]))]], rfl, rfl, by rw [ht]; exact hP, va_K.moved hW.alike hK, hD⟩, hS.F ht⟩) hS.2.2 d_Ho_route_22
set_option maxRecDepth 100000 in
set_option maxHeartbeats 4000000 in
/-- DrawingHouseModel.isDrawn(I)Z -/
theorem c_Mo_isDrawn_z2 (l : Launch) (D : va_G) (kA : Nat → ClassId) (a0 : Nat) (j : Nat) (qm : Nat → Nat) (hj : j < 4) : Ci l y_Mo_isDrawn z_Mo_isDrawn { frames := 2, cells := 0, slots := 0, locals := 42 } D classes (TY kA) [.ref a0, .int (nI j)] [[(a0, .inr (13, mF qm x0Mo y0Mo))], [(qm 61, .inl (kA 0, 4, .inl (upd (upd (upd (upd (fun _ => 0) 0 (-1)) 1 (-1)) 2 (-1)) 3 (-1))))]] (fun r (_ : Unit) => r = 0) (fun u => [[(a0, .inr (13, mF qm x0Mo y0Mo))], [(qm 61, .inl (kA 0, 4, .inl (upd (upd (upd (upd (fun _ => 0) 0 (-1)) 1 (-1)) 2 (-1)) 3 (-1))))]]) 0 0 := by
  intro sz
  refine k_met (cc := b_Mo_isDrawn) (maxL := 2) (ret := (some .boolean)) (by decide) rfl (Nat.le_of_ble_eq_true rfl) (fun p e s m below meth c ls X hl hB => ?_)
  obtain ⟨hsz, hP, hK, hD0, hN⟩ := hB
  subst hsz
  have hD := hD0.self (sz := s.heap.size)
  generalize hAe : va_A (cat [[(a0, .inr (13, mF qm x0Mo y0Mo))], [(qm 61, .inl (kA 0, 4, .inl (upd (upd (upd (upd (fun _ => 0) 0 (-1)) 1 (-1)) 2 (-1)) 3 (-1))))]]) s.heap.size = A at hD ⊢
  have hA : ∀ q : Nat, s.heap.size ≤ q → A q := fun q h => by rw [← hAe]; exact Or.inr h
  have hS : va_S A s.heap s.heap [] := va_S.rf
  obtain ⟨hx, hb, hml, hown, hts, hr, hlk, hnm⟩ := id X
  have hl : lv_has ls 2 [(0, .ref a0), (1, .int (nI j))] := hl
  have hP : va_P D classes (cat [[(a0, .inr (13, mF qm x0Mo y0Mo))], [(qm 61, .inl (kA 0, 4, .inl (upd (upd (upd (upd (fun _ => 0) 0 (-1)) 1 (-1)) 2 (-1)) 3 (-1))))]]) s.heap := hP
  have hK : va_K D classes (TY kA) s := hK
  refine lv_iload_n (pc := 0) hx hb d_Mo_isDrawn_0 rfl (lv_at hl 1 rfl) ?_
  refine k_goI (gr := [[(a0, .inr (13, mF qm x0Mo y0Mo))], [(qm 61, .inl (kA 0, 4, .inl (upd (upd (upd (upd (fun _ => 0) 0 (-1)) 1 (-1)) 2 (-1)) 3 (-1))))]]) (k_rS (pc := 1) (As := [.int (nI j)]) (rest := []) X (c_Mo_isPlace l D kA (nI j) s.heap.size) rfl wm_2978 wm_9 wm_2976 wm_2977 1 (by decide +kernel) ⟨Nat.le_of_ble_eq_true rfl, Nat.le_of_ble_eq_true rfl⟩ rfl rfl (k_pre hN hK hP hD [] [0, 1] 2 rfl (by decide) rfl) rfl hl.1 rfl (Nat.le_of_ble_eq_true rfl) d_Mo_isDrawn_1 ⟨Nat.le_of_ble_eq_true rfl, Nat.le_of_ble_eq_true rfl⟩) hP hD hS hA [] [0, 1] 2 rfl (by decide) rfl rfl (fun r1 u2 H locs hu2 hP hD hS => ?_)
  subst hu2
  refine k_cst (v := 1) (placeM_ok hj) ?_
  have hP : va_P D classes (cat [[(a0, .inr (13, mF qm x0Mo y0Mo))], [(qm 61, .inl (kA 0, 4, .inl (upd (upd (upd (upd (fun _ => 0) 0 (-1)) 1 (-1)) 2 (-1)) 3 (-1))))]]) H := hP
  have hD : va_D A (cat [[(a0, .inr (13, mF qm x0Mo y0Mo))], [(qm 61, .inl (kA 0, 4, .inl (upd (upd (upd (upd (fun _ => 0) 0 (-1)) 1 (-1)) 2 (-1)) 3 (-1))))]]) := hD
  refine lv_if_eq (pc := 4) (tgt := 16) hx hb d_Mo_isDrawn_4 (by decide) (fun c1 => absurd c1 (by decide)) (fun c1 => ?_)
  refine lv_aload_n (pc := 7) hx hb d_Mo_isDrawn_7 rfl (lv_at hl 0 rfl) ?_
  refine k_get (pc := 8) (v := .ref (qm 61)) X hK hP 0 rfl rfl i_Mo 61 (by decide) wm_2493 rfl rfl d_Mo_isDrawn_8 ?_
  refine lv_iload_n (pc := 11) hx hb d_Mo_isDrawn_11 rfl (lv_at hl 1 rfl) ?_
  refine k_ild (pc := 12) hx hb hK hP 1 0 rfl rfl (j) rfl (by omega) (by decide) d_Mo_isDrawn_12 ?_
  refine k_cst (v := (-1)) (drawn0 hj) ?_
  refine lv_if_ge (pc := 13) (tgt := 18) hx hb d_Mo_isDrawn_13 (by decide) (fun c1 => absurd c1 (by decide)) (fun c1 => ?_)
  refine lv_iconst (pc := 16) (v := 0) hx hb d_Mo_isDrawn_16 (by decide) ?_
  refine W.widen (k := 0) (n := 0) (Nat.le_of_ble_eq_true rfl) (Nat.le_of_ble_eq_true rfl) ?_
  exact W.zret (v := 0) hx hb hr rfl (fun t ht hW => ⟨⟨0, (), rfl, rfl, by rw [ht]; exact hP, va_K.moved hW.alike hK, hD⟩, hS.F ht⟩) hS.2.2 d_Mo_isDrawn_17
set_option maxRecDepth 100000 in
set_option maxHeartbeats 4000000 in
/-- DrawingHouseModel.route(II)I -/
theorem c_Mo_route_z2 (l : Launch) (D : va_G) (kA : Nat → ClassId) (a0 : Nat) (j : Nat) (v2 : Int32) (qm : Nat → Nat) (hj : j < 4) : Ci l y_Mo_route z_Mo_route { frames := 3, cells := 0, slots := 0, locals := 63 } D classes (TY kA) [.ref a0, .int (nI j), .int v2] [[(a0, .inr (13, mF qm x0Mo y0Mo))], [(qm 61, .inl (kA 0, 4, .inl (upd (upd (upd (upd (fun _ => 0) 0 (-1)) 1 (-1)) 2 (-1)) 3 (-1))))]] (fun r (_ : List va_W) => r = (-1)) (fun u => u) 0 0 := by
  intro sz
  refine k_met (cc := b_Mo_route) (maxL := 7) (ret := (some .int)) (by decide) rfl (Nat.le_of_ble_eq_true rfl) (fun p e s m below meth c ls X hl hB => ?_)
  obtain ⟨hsz, hP, hK, hD0, hN⟩ := hB
  subst hsz
  have hD := hD0.self (sz := s.heap.size)
  generalize hAe : va_A (cat [[(a0, .inr (13, mF qm x0Mo y0Mo))], [(qm 61, .inl (kA 0, 4, .inl (upd (upd (upd (upd (fun _ => 0) 0 (-1)) 1 (-1)) 2 (-1)) 3 (-1))))]]) s.heap.size = A at hD ⊢
  have hA : ∀ q : Nat, s.heap.size ≤ q → A q := fun q h => by rw [← hAe]; exact Or.inr h
  have hS : va_S A s.heap s.heap [] := va_S.rf
  obtain ⟨hx, hb, hml, hown, hts, hr, hlk, hnm⟩ := id X
  have hl : lv_has ls 7 [(0, .ref a0), (1, .int (nI j)), (2, .int v2)] := hl
  have hP : va_P D classes (cat [[(a0, .inr (13, mF qm x0Mo y0Mo))], [(qm 61, .inl (kA 0, 4, .inl (upd (upd (upd (upd (fun _ => 0) 0 (-1)) 1 (-1)) 2 (-1)) 3 (-1))))]]) s.heap := hP
  have hK : va_K D classes (TY kA) s := hK
  refine lv_aload_n (pc := 0) hx hb d_Mo_route_0 rfl (lv_at hl 0 rfl) ?_
  refine lv_iload_n (pc := 1) hx hb d_Mo_route_1 rfl (lv_at hl 1 rfl) ?_
  refine k_goI (gr := []) (k_rV (pc := 2) (As := [.int (nI j)]) (rest := []) X (c_Mo_isDrawn_z2 l D kA a0 j qm hj s.heap.size) rfl wm_3669 wm_9 wm_3666 wm_3668 wv_21_13 1 (by decide +kernel) ⟨Nat.le_of_ble_eq_true rfl, Nat.le_of_ble_eq_true rfl⟩ rfl rfl (va_recv hK hP (ci := 13) (q0 := 0) rfl rfl) (k_pre hN hK hP hD [0, 1] [] 2 rfl (by decide) rfl) rfl hl.1 rfl (Nat.le_of_ble_eq_true rfl) d_Mo_route_2 ⟨Nat.le_of_ble_eq_true rfl, Nat.le_of_ble_eq_true rfl⟩) hP hD hS hA [0, 1] [] 2 rfl (by decide) rfl rfl (fun r1 u2 H locs hu2 hP hD hS => ?_)
  subst hu2
  have hP : va_P D classes (cat [[(a0, .inr (13, mF qm x0Mo y0Mo))], [(qm 61, .inl (kA 0, 4, .inl (upd (upd (upd (upd (fun _ => 0) 0 (-1)) 1 (-1)) 2 (-1)) 3 (-1))))]]) H := hP
  have hD : va_D A (cat [[(a0, .inr (13, mF qm x0Mo y0Mo))], [(qm 61, .inl (kA 0, 4, .inl (upd (upd (upd (upd (fun _ => 0) 0 (-1)) 1 (-1)) 2 (-1)) 3 (-1))))]]) := hD
  refine lv_if_eq (pc := 5) (tgt := 22) hx hb d_Mo_route_5 (by decide) (fun c1 => ?_) (fun c1 => absurd (by decide) c1)
  refine lv_iconst (pc := 22) (v := -1) hx hb d_Mo_route_22 (by decide) ?_
  refine W.widen (k := 0) (n := 0) (Nat.le_of_ble_eq_true rfl) (Nat.le_of_ble_eq_true rfl) ?_
  exact W.iret (v := (-1)) hx hb hr (fun t ht hW => ⟨⟨(-1), [[(a0, .inr (13, mF qm x0Mo y0Mo))], [(qm 61, .inl (kA 0, 4, .inl (upd (upd (upd (upd (fun _ => 0) 0 (-1)) 1 (-1)) 2 (-1)) 3 (-1))))]], rfl, rfl, by rw [ht]; exact hP, va_K.moved hW.alike hK, hD⟩, hS.F ht⟩) hS.2.2 d_Mo_route_23
set_option maxRecDepth 100000 in
set_option maxHeartbeats 4000000 in
/-- route, a fresh house -/
theorem lf_route_2 {p : Program} {e : Env} {s : State} {m : MethodId} {below : List Frame} {meth : Method} {c : Code} (l : Launch) {b : Nat} {xs : Nat → Int32} (C0 : lw_At p s m meth c b 6 xs) {D : va_G} {kA : Nat → ClassId} (h : Nat) (h2 : Nat) (q : Nat → Nat) (qd : Nat → Nat) (qm : Nat → Nat) (g : Nat → Nat → Nat) (j : Nat) (v2 : Int32) (hj : j < 4) (hv1 : xs 1 = nI j) (hv2 : xs 2 = v2) {H : Heap} {locs : List Loc} {ls : Array Slot} (hK : va_K D classes (TY kA) s) (hN : nst s) (hP : va_P D classes (cat [[(h, .inr (12, [.ref (q 0), .ref (q 1), .ref (q 2), .ref (q 3), .ref (q 4), .ref (q 5), .ref (q 6), .int 0, .int ((-1)), .ref (q 9), .ref (q 10), .int 0, .int 0, .ref (q 13), .int 0, .int 0, .null, .null, .null, .null, .null]))], [(q 3, .inl (kA 7, 4, .inr (.inr (.inr (.inr (rr (g 3)))))))], [(g 3 j, .inr (0, [.ref (qd 0), .int ((-1)), .ref (qd 2), .ref (qd 3), .ref (qd 4), .ref (qd 5), .ref (qd 6), .int 0, .int 0, .int 0, .ref (qd 10), .ref (qd 11), .ref (qd 12), .ref (qd 13), .ref (qd 14), .ref (qd 15), .ref (qd 16), .int 0, .int 0, .int 0, .int 0]))], [(h2, .inr (13, mF qm x0Mo y0Mo))], [(qm 61, .inl (kA 0, 4, .inl (upd (upd (upd (upd (fun _ => 0) 0 (-1)) 1 (-1)) 2 (-1)) 3 (-1))))]]) H) (hD : va_D (fun q : Nat => s.heap.size ≤ q) (cat [[(h, .inr (12, [.ref (q 0), .ref (q 1), .ref (q 2), .ref (q 3), .ref (q 4), .ref (q 5), .ref (q 6), .int 0, .int ((-1)), .ref (q 9), .ref (q 10), .int 0, .int 0, .ref (q 13), .int 0, .int 0, .null, .null, .null, .null, .null]))], [(q 3, .inl (kA 7, 4, .inr (.inr (.inr (.inr (rr (g 3)))))))], [(g 3 j, .inr (0, [.ref (qd 0), .int ((-1)), .ref (qd 2), .ref (qd 3), .ref (qd 4), .ref (qd 5), .ref (qd 6), .int 0, .int 0, .int 0, .ref (qd 10), .ref (qd 11), .ref (qd 12), .ref (qd 13), .ref (qd 14), .ref (qd 15), .ref (qd 16), .int 0, .int 0, .int 0, .int 0]))], [(h2, .inr (13, mF qm x0Mo y0Mo))], [(qm 61, .inl (kA 0, 4, .inl (upd (upd (upd (upd (fun _ => 0) 0 (-1)) 1 (-1)) 2 (-1)) 3 (-1))))]])) (hS : va_S (fun q : Nat => s.heap.size ≤ q) s.heap H locs) (hl : lv_has ls 4 [(3, .int 0), (2, .ref h2), (1, .ref h), (0, .ref b)]) : W p l e room_1 s m #[Value.ref b] below meth c H locs 368 365796 (lw_Z below #[Value.ref b] s) (F0 m 967 ls []) := by
  obtain ⟨hx, hb, hr, hml, hown, hts0, hX, hbl, hlocks, hgv⟩ := id C0
  have hts : ∀ w ∈ lw_g, w.before #[Value.ref b] s = true := fun w h => hts0 w (lw_gt h)
  have X : cx p s m #[Value.ref b] meth c b_law_law 4 ret "DrawingHouseLaw" meth.name := ⟨hx, hb, hml, hown, hts, hr, hlocks, rfl⟩
  obtain ⟨A, hAe⟩ : ∃ A : Nat → Prop, A = fun q : Nat => s.heap.size ≤ q := ⟨_, rfl⟩
  have hA : ∀ q : Nat, s.heap.size ≤ q → A q := fun q h => by rw [hAe]; exact h
  have hbA : ¬ A b := by rw [hAe]; exact Nat.not_le.mpr hbl
  rw [← hAe] at hD hS
  refine lv_aload_n (pc := 967) hx hb d_law_law_967 rfl (lv_at hl 2 rfl) ?_
  refine lv_aload_n (pc := 968) hx hb d_law_law_968 rfl (lv_at hl 3 rfl) ?_
  refine lv_iload_n (pc := 969) hx hb d_law_law_969 rfl (lv_at hl 0 rfl) ?_
  refine lv_iconst (pc := 970) (v := 1) hx hb d_law_law_970 (by decide) ?_
  refine lv_iadd (pc := 971) hx hb d_law_law_971 ?_
  refine k_cst (v := 1) (by decide) ?_
  refine va_sld (pc := 972) hx hb hX hbl hbA hS (by unfold vp_in; decide) d_law_law_972 ?_
  refine k_cst (v := nI j) hv1 ?_
  refine lv_aload_n (pc := 973) hx hb d_law_law_973 rfl (lv_at hl 3 rfl) ?_
  refine lv_iload_n (pc := 974) hx hb d_law_law_974 rfl (lv_at hl 0 rfl) ?_
  refine lv_iconst (pc := 975) (v := 2) hx hb d_law_law_975 (by decide) ?_
  refine lv_iadd (pc := 976) hx hb d_law_law_976 ?_
  refine k_cst (v := 2) (by decide) ?_
  refine va_sld (pc := 977) hx hb hX hbl hbA hS (by unfold vp_in; decide) d_law_law_977 ?_
  refine k_cst (v := v2) hv2 ?_
  refine k_goI (gr := [[(h2, .inr (13, mF qm x0Mo y0Mo))], [(qm 61, .inl (kA 0, 4, .inl (upd (upd (upd (upd (fun _ => 0) 0 (-1)) 1 (-1)) 2 (-1)) 3 (-1))))]]) (k_rV (pc := 978) (As := [.int (nI j), .int v2]) (rest := []) X (c_Ho_route_z2 l D kA h j v2 (q 0) (q 1) (q 2) (q 3) (q 4) (q 5) (q 6) (q 9) (q 10) (q 13) g (qd 0) (qd 2) (qd 3) (qd 4) (qd 5) (qd 6) (qd 10) (qd 11) (qd 12) (qd 13) (qd 14) (qd 15) (qd 16) hj H.size) rfl wm_1855 wm_1 wm_1852 wm_1853 wm_1854 2 (by decide +kernel) ⟨Nat.le_of_ble_eq_true rfl, Nat.le_of_ble_eq_true rfl⟩ rfl rfl (va_recv hK hP (ci := 12) (q0 := 0) rfl rfl) (k_pre hN hK hP hD [0, 1, 2] [3, 4] 5 rfl (by decide) rfl) rfl hl.1 rfl (Nat.le_of_ble_eq_true rfl) d_law_law_978 ⟨Nat.le_of_ble_eq_true rfl, Nat.le_of_ble_eq_true rfl⟩) hP hD hS hA [0, 1, 2] [3, 4] 5 rfl (by decide) rfl rfl (fun r1 u2 H locs hu2 hP hD hS => ?_)
  obtain ⟨hP, hD⟩ := k_left hP hD
  subst hu2
  have hP : va_P D classes (cat [[(h2, .inr (13, mF qm x0Mo y0Mo))], [(qm 61, .inl (kA 0, 4, .inl (upd (upd (upd (upd (fun _ => 0) 0 (-1)) 1 (-1)) 2 (-1)) 3 (-1))))]]) H := hP
  have hD : va_D A (cat [[(h2, .inr (13, mF qm x0Mo y0Mo))], [(qm 61, .inl (kA 0, 4, .inl (upd (upd (upd (upd (fun _ => 0) 0 (-1)) 1 (-1)) 2 (-1)) 3 (-1))))]]) := hD
  refine lv_aload_n (pc := 981) hx hb d_law_law_981 rfl (lv_at hl 1 rfl) ?_
  refine lv_aload_n (pc := 982) hx hb d_law_law_982 rfl (lv_at hl 3 rfl) ?_
  refine lv_iload_n (pc := 983) hx hb d_law_law_983 rfl (lv_at hl 0 rfl) ?_
  refine lv_iconst (pc := 984) (v := 1) hx hb d_law_law_984 (by decide) ?_
  refine lv_iadd (pc := 985) hx hb d_law_law_985 ?_
  refine k_cst (v := 1) (by decide) ?_
  refine va_sld (pc := 986) hx hb hX hbl hbA hS (by unfold vp_in; decide) d_law_law_986 ?_
  refine k_cst (v := nI j) hv1 ?_
  refine lv_aload_n (pc := 987) hx hb d_law_law_987 rfl (lv_at hl 3 rfl) ?_
  refine lv_iload_n (pc := 988) hx hb d_law_law_988 rfl (lv_at hl 0 rfl) ?_
  refine lv_iconst (pc := 989) (v := 2) hx hb d_law_law_989 (by decide) ?_
  refine lv_iadd (pc := 990) hx hb d_law_law_990 ?_
  refine k_cst (v := 2) (by decide) ?_
  refine va_sld (pc := 991) hx hb hX hbl hbA hS (by unfold vp_in; decide) d_law_law_991 ?_
  refine k_cst (v := v2) hv2 ?_
  refine k_goI (gr := []) (k_rV (pc := 992) (As := [.int (nI j), .int v2]) (rest := [.int ((-1))]) X (c_Mo_route_z2 l D kA h2 j v2 qm hj H.size) rfl wm_3665 wm_9 wm_3662 wm_3663 wm_3664 2 (by decide +kernel) ⟨Nat.le_of_ble_eq_true rfl, Nat.le_of_ble_eq_true rfl⟩ rfl rfl (va_recv hK hP (ci := 13) (q0 := 0) rfl rfl) (k_pre hN hK hP hD [0, 1] [] 2 rfl (by decide) rfl) rfl hl.1 rfl (Nat.le_of_ble_eq_true rfl) d_law_law_992 ⟨Nat.le_of_ble_eq_true rfl, Nat.le_of_ble_eq_true rfl⟩) hP hD hS hA [0, 1] [] 2 rfl (by decide) rfl rfl (fun r3 u4 H locs hu4 hP hD hS => ?_)
  obtain ⟨hP, hD⟩ := k_left hP hD
  subst hu4
  have hP : va_P D classes (cat []) H := hP
  have hD : va_D A (cat []) := hD
  refine lv_icmp_eq (pc := 995) (tgt := 1295) hx hb d_law_law_995 (by decide) (fun _ => ?_) (fun c1 => absurd (by decide) c1)
  rw [hAe] at hS
  exact law_exit l C0 (Nat.le_of_ble_eq_true rfl) (Nat.le_of_ble_eq_true rfl) hS hl
set_option maxRecDepth 100000 in
set_option maxHeartbeats 4000000 in
/-- DrawingHouse.label(III)I -/
theorem c_Ho_label_z1 (l : Launch) (D : va_G) (kA : Nat → ClassId) (a0 : Nat) (v1 : Int32) (v2 : Int32) (v3 : Int32) (a1 : Nat) (a2 : Nat) (a3 : Nat) (a4 : Nat) (a5 : Nat) (a6 : Nat) (a7 : Nat) (a8 : Nat) (a9 : Nat) (a10 : Nat) (hg : sp_Ho_isPlace v1 = 0) (hgM : sp_Mo_isPlace v1 = 0) : Ci l y_Ho_label z_Ho_label { frames := 2, cells := 0, slots := 0, locals := 41 } D classes (TY kA) [.ref a0, .int v1, .int v2, .int v3] [[(a0, .inr (12, [.ref a1, .ref a2, .ref a3, .ref a4, .ref a5, .ref a6, .ref a7, .int 0, .int ((-1)), .ref a8, .ref a9, .int 0, .int 0, .ref a10, .int 0, .int 0, .null, .null, .null, .null, .null]))]] (fun r (_ : List va_W) => r = -2147483648) (fun u => u) 0 0 := by
  intro sz
  refine k_met (cc := b_Ho_label) (maxL := 4) (ret := (some .int)) (by decide) rfl (Nat.le_of_ble_eq_true rfl) (fun p e s m below meth c ls X hl hB => ?_)
  obtain ⟨hsz, hP, hK, hD0, hN⟩ := hB
  subst hsz
  have hD := hD0.self (sz := s.heap.size)
  generalize hAe : va_A (cat [[(a0, .inr (12, [.ref a1, .ref a2, .ref a3, .ref a4, .ref a5, .ref a6, .ref a7, .int 0, .int ((-1)), .ref a8, .ref a9, .int 0, .int 0, .ref a10, .int 0, .int 0, .null, .null, .null, .null, .null]))]]) s.heap.size = A at hD ⊢
  have hA : ∀ q : Nat, s.heap.size ≤ q → A q := fun q h => by rw [← hAe]; exact Or.inr h
  have hS : va_S A s.heap s.heap [] := va_S.rf
  obtain ⟨hx, hb, hml, hown, hts, hr, hlk, hnm⟩ := id X
  have hl : lv_has ls 4 [(0, .ref a0), (1, .int v1), (2, .int v2), (3, .int v3)] := hl
  have hP : va_P D classes (cat [[(a0, .inr (12, [.ref a1, .ref a2, .ref a3, .ref a4, .ref a5, .ref a6, .ref a7, .int 0, .int ((-1)), .ref a8, .ref a9, .int 0, .int 0, .ref a10, .int 0, .int 0, .null, .null, .null, .null, .null]))]]) s.heap := hP
  have hK : va_K D classes (TY kA) s := hK
  refine lv_aload_n (pc := 0) hx hb d_Ho_label_0 rfl (lv_at hl 0 rfl) ?_
  refine lv_iload_n (pc := 1) hx hb d_Ho_label_1 rfl (lv_at hl 1 rfl) ?_
  refine k_goI (gr := [[(a0, .inr (12, [.ref a1, .ref a2, .ref a3, .ref a4, .ref a5, .ref a6, .ref a7, .int 0, .int ((-1)), .ref a8, .ref a9, .int 0, .int 0, .ref a10, .int 0, .int 0, .null, .null, .null, .null, .null]))]]) (k_rV (pc := 2) (As := [.int v1]) (rest := []) X (c_Ho_hasDrawing_z1 l D kA a0 v1 hg hgM s.heap.size) rfl wm_1859 wm_1 wm_1856 wm_1858 wv_8_15 1 (by decide +kernel) ⟨Nat.le_of_ble_eq_true rfl, Nat.le_of_ble_eq_true rfl⟩ rfl rfl (va_recv hK hP (ci := 12) (q0 := 0) rfl rfl) (k_pre hN hK hP hD [] [0] 1 rfl (by decide) rfl) rfl hl.1 rfl (Nat.le_of_ble_eq_true rfl) d_Ho_label_2 ⟨Nat.le_of_ble_eq_true rfl, Nat.le_of_ble_eq_true rfl⟩) hP hD hS hA [] [0] 1 rfl (by decide) rfl rfl (fun r1 u2 H locs hu2 hP hD hS => ?_)
  subst hu2
  have hP : va_P D classes (cat [[(a0, .inr (12, [.ref a1, .ref a2, .ref a3, .ref a4, .ref a5, .ref a6, .ref a7, .int 0, .int ((-1)), .ref a8, .ref a9, .int 0, .int 0, .ref a10, .int 0, .int 0, .null, .null, .null, .null, .null]))]]) H := hP
  have hD : va_D A (cat [[(a0, .inr (12, [.ref a1, .ref a2, .ref a3, .ref a4, .ref a5, .ref a6, .ref a7, .int 0, .int ((-1)), .ref a8, .ref a9, .int 0, .int 0, .ref a10, .int 0, .int 0, .null, .null, .null, .null, .null]))]]) := hD
  refine lv_if_eq (pc := 5) (tgt := 30) hx hb d_Ho_label_5 (by decide) (fun c1 => ?_) (fun c1 => absurd (by decide) c1)
  refine lv_ldcw (pc := 30) (v := -2147483648) hx hb hown (hts _ wm_1824) d_Ho_label_30 ?_
  refine W.widen (k := 0) (n := 0) (Nat.le_of_ble_eq_true rfl) (Nat.le_of_ble_eq_true rfl) ?_
  exact W.iret (v := (-2147483648)) hx hb hr (fun t ht hW => ⟨⟨(-2147483648), [[(a0, .inr (12, [.ref a1, .ref a2, .ref a3, .ref a4, .ref a5, .ref a6, .ref a7, .int 0, .int ((-1)), .ref a8, .ref a9, .int 0, .int 0, .ref a10, .int 0, .int 0, .null, .null, .null, .null, .null]))]], rfl, rfl, by rw [ht]; exact hP, va_K.moved hW.alike hK, hD⟩, hS.F ht⟩) hS.2.2 d_Ho_label_33
set_option maxRecDepth 100000 in
set_option maxHeartbeats 4000000 in
/-- DrawingHouseModel.label(III)I -/
theorem c_Mo_label_z1 (l : Launch) (D : va_G) (kA : Nat → ClassId) (a0 : Nat) (v1 : Int32) (v2 : Int32) (v3 : Int32) (qm : Nat → Nat) (hg : sp_Ho_isPlace v1 = 0) (hgM : sp_Mo_isPlace v1 = 0) : Ci l y_Mo_label z_Mo_label { frames := 3, cells := 0, slots := 0, locals := 63 } D classes (TY kA) [.ref a0, .int v1, .int v2, .int v3] [[(a0, .inr (13, mF qm x0Mo y0Mo))]] (fun r (_ : List va_W) => r = -2147483648) (fun u => u) 0 0 := by
  intro sz
  refine k_met (cc := b_Mo_label) (maxL := 5) (ret := (some .int)) (by decide) rfl (Nat.le_of_ble_eq_true rfl) (fun p e s m below meth c ls X hl hB => ?_)
  obtain ⟨hsz, hP, hK, hD0, hN⟩ := hB
  subst hsz
  have hD := hD0.self (sz := s.heap.size)
  generalize hAe : va_A (cat [[(a0, .inr (13, mF qm x0Mo y0Mo))]]) s.heap.size = A at hD ⊢
  have hA : ∀ q : Nat, s.heap.size ≤ q → A q := fun q h => by rw [← hAe]; exact Or.inr h
  have hS : va_S A s.heap s.heap [] := va_S.rf
  obtain ⟨hx, hb, hml, hown, hts, hr, hlk, hnm⟩ := id X
  have hl : lv_has ls 5 [(0, .ref a0), (1, .int v1), (2, .int v2), (3, .int v3)] := hl
  have hP : va_P D classes (cat [[(a0, .inr (13, mF qm x0Mo y0Mo))]]) s.heap := hP
  have hK : va_K D classes (TY kA) s := hK
  refine lv_aload_n (pc := 0) hx hb d_Mo_label_0 rfl (lv_at hl 0 rfl) ?_
  refine lv_iload_n (pc := 1) hx hb d_Mo_label_1 rfl (lv_at hl 1 rfl) ?_
  refine k_goI (gr := [[(a0, .inr (13, mF qm x0Mo y0Mo))]]) (k_rV (pc := 2) (As := [.int v1]) (rest := []) X (c_Mo_isDrawn_z1 l D kA a0 v1 hg hgM s.heap.size) rfl wm_3669 wm_9 wm_3666 wm_3668 wv_21_13 1 (by decide +kernel) ⟨Nat.le_of_ble_eq_true rfl, Nat.le_of_ble_eq_true rfl⟩ rfl rfl (va_recv hK hP (ci := 13) (q0 := 0) rfl rfl) (k_pre hN hK hP hD [] [0] 1 rfl (by decide) rfl) rfl hl.1 rfl (Nat.le_of_ble_eq_true rfl) d_Mo_label_2 ⟨Nat.le_of_ble_eq_true rfl, Nat.le_of_ble_eq_true rfl⟩) hP hD hS hA [] [0] 1 rfl (by decide) rfl rfl (fun r1 u2 H locs hu2 hP hD hS => ?_)
  subst hu2
  have hP : va_P D classes (cat [[(a0, .inr (13, mF qm x0Mo y0Mo))]]) H := hP
  have hD : va_D A (cat [[(a0, .inr (13, mF qm x0Mo y0Mo))]]) := hD
  refine lv_if_eq (pc := 5) (tgt := 40) hx hb d_Mo_label_5 (by decide) (fun c1 => ?_) (fun c1 => absurd (by decide) c1)
  refine lv_ldcw (pc := 40) (v := -2147483648) hx hb hown (hts _ wm_3653) d_Mo_label_40 ?_
  refine W.widen (k := 0) (n := 0) (Nat.le_of_ble_eq_true rfl) (Nat.le_of_ble_eq_true rfl) ?_
  exact W.iret (v := (-2147483648)) hx hb hr (fun t ht hW => ⟨⟨(-2147483648), [[(a0, .inr (13, mF qm x0Mo y0Mo))]], rfl, rfl, by rw [ht]; exact hP, va_K.moved hW.alike hK, hD⟩, hS.F ht⟩) hS.2.2 d_Mo_label_43
set_option maxRecDepth 100000 in
set_option maxHeartbeats 4000000 in
/-- label, a fresh house -/
theorem lf_label_1 {p : Program} {e : Env} {s : State} {m : MethodId} {below : List Frame} {meth : Method} {c : Code} (l : Launch) {b : Nat} {xs : Nat → Int32} (C0 : lw_At p s m meth c b 6 xs) {D : va_G} {kA : Nat → ClassId} (h : Nat) (h2 : Nat) (q : Nat → Nat) (qm : Nat → Nat) (v1 : Int32) (v2 : Int32) (v3 : Int32) (hg : sp_Ho_isPlace v1 = 0) (hgM : sp_Mo_isPlace v1 = 0) (hv1 : xs 1 = v1) (hv2 : xs 2 = v2) (hv3 : xs 3 = v3) {H : Heap} {locs : List Loc} {ls : Array Slot} (hK : va_K D classes (TY kA) s) (hN : nst s) (hP : va_P D classes (cat [[(h, .inr (12, [.ref (q 0), .ref (q 1), .ref (q 2), .ref (q 3), .ref (q 4), .ref (q 5), .ref (q 6), .int 0, .int ((-1)), .ref (q 9), .ref (q 10), .int 0, .int 0, .ref (q 13), .int 0, .int 0, .null, .null, .null, .null, .null]))], [(h2, .inr (13, mF qm x0Mo y0Mo))]]) H) (hD : va_D (fun q : Nat => s.heap.size ≤ q) (cat [[(h, .inr (12, [.ref (q 0), .ref (q 1), .ref (q 2), .ref (q 3), .ref (q 4), .ref (q 5), .ref (q 6), .int 0, .int ((-1)), .ref (q 9), .ref (q 10), .int 0, .int 0, .ref (q 13), .int 0, .int 0, .null, .null, .null, .null, .null]))], [(h2, .inr (13, mF qm x0Mo y0Mo))]])) (hS : va_S (fun q : Nat => s.heap.size ≤ q) s.heap H locs) (hl : lv_has ls 4 [(3, .int 0), (2, .ref h2), (1, .ref h), (0, .ref b)]) : W p l e room_1 s m #[Value.ref b] below meth c H locs 368 365796 (lw_Z below #[Value.ref b] s) (F0 m 1000 ls []) := by
  obtain ⟨hx, hb, hr, hml, hown, hts0, hX, hbl, hlocks, hgv⟩ := id C0
  have hts : ∀ w ∈ lw_g, w.before #[Value.ref b] s = true := fun w h => hts0 w (lw_gt h)
  have X : cx p s m #[Value.ref b] meth c b_law_law 4 ret "DrawingHouseLaw" meth.name := ⟨hx, hb, hml, hown, hts, hr, hlocks, rfl⟩
  obtain ⟨A, hAe⟩ : ∃ A : Nat → Prop, A = fun q : Nat => s.heap.size ≤ q := ⟨_, rfl⟩
  have hA : ∀ q : Nat, s.heap.size ≤ q → A q := fun q h => by rw [hAe]; exact h
  have hbA : ¬ A b := by rw [hAe]; exact Nat.not_le.mpr hbl
  rw [← hAe] at hD hS
  refine lv_aload_n (pc := 1000) hx hb d_law_law_1000 rfl (lv_at hl 2 rfl) ?_
  refine lv_aload_n (pc := 1001) hx hb d_law_law_1001 rfl (lv_at hl 3 rfl) ?_
  refine lv_iload_n (pc := 1002) hx hb d_law_law_1002 rfl (lv_at hl 0 rfl) ?_
  refine lv_iconst (pc := 1003) (v := 1) hx hb d_law_law_1003 (by decide) ?_
  refine lv_iadd (pc := 1004) hx hb d_law_law_1004 ?_
  refine k_cst (v := 1) (by decide) ?_
  refine va_sld (pc := 1005) hx hb hX hbl hbA hS (by unfold vp_in; decide) d_law_law_1005 ?_
  refine k_cst (v := v1) hv1 ?_
  refine lv_aload_n (pc := 1006) hx hb d_law_law_1006 rfl (lv_at hl 3 rfl) ?_
  refine lv_iload_n (pc := 1007) hx hb d_law_law_1007 rfl (lv_at hl 0 rfl) ?_
  refine lv_iconst (pc := 1008) (v := 2) hx hb d_law_law_1008 (by decide) ?_
  refine lv_iadd (pc := 1009) hx hb d_law_law_1009 ?_
  refine k_cst (v := 2) (by decide) ?_
  refine va_sld (pc := 1010) hx hb hX hbl hbA hS (by unfold vp_in; decide) d_law_law_1010 ?_
  refine k_cst (v := v2) hv2 ?_
  refine lv_aload_n (pc := 1011) hx hb d_law_law_1011 rfl (lv_at hl 3 rfl) ?_
  refine lv_iload_n (pc := 1012) hx hb d_law_law_1012 rfl (lv_at hl 0 rfl) ?_
  refine lv_iconst (pc := 1013) (v := 3) hx hb d_law_law_1013 (by decide) ?_
  refine lv_iadd (pc := 1014) hx hb d_law_law_1014 ?_
  refine k_cst (v := 3) (by decide) ?_
  refine va_sld (pc := 1015) hx hb hX hbl hbA hS (by unfold vp_in; decide) d_law_law_1015 ?_
  refine k_cst (v := v3) hv3 ?_
  refine k_goI (gr := [[(h2, .inr (13, mF qm x0Mo y0Mo))]]) (k_rV (pc := 1016) (As := [.int v1, .int v2, .int v3]) (rest := []) X (c_Ho_label_z1 l D kA h v1 v2 v3 (q 0) (q 1) (q 2) (q 3) (q 4) (q 5) (q 6) (q 9) (q 10) (q 13) hg hgM H.size) rfl wm_1974 wm_1 wm_1971 wm_1972 wm_1973 3 (by decide +kernel) ⟨Nat.le_of_ble_eq_true rfl, Nat.le_of_ble_eq_true rfl⟩ rfl rfl (va_recv hK hP (ci := 12) (q0 := 0) rfl rfl) (k_pre hN hK hP hD [0] [1] 2 rfl (by decide) rfl) rfl hl.1 rfl (Nat.le_of_ble_eq_true rfl) d_law_law_1016 ⟨Nat.le_of_ble_eq_true rfl, Nat.le_of_ble_eq_true rfl⟩) hP hD hS hA [0] [1] 2 rfl (by decide) rfl rfl (fun r1 u2 H locs hu2 hP hD hS => ?_)
  obtain ⟨hP, hD⟩ := k_left hP hD
  subst hu2
  have hP : va_P D classes (cat [[(h2, .inr (13, mF qm x0Mo y0Mo))]]) H := hP
  have hD : va_D A (cat [[(h2, .inr (13, mF qm x0Mo y0Mo))]]) := hD
  refine lv_aload_n (pc := 1019) hx hb d_law_law_1019 rfl (lv_at hl 1 rfl) ?_
  refine lv_aload_n (pc := 1020) hx hb d_law_law_1020 rfl (lv_at hl 3 rfl) ?_
  refine lv_iload_n (pc := 1021) hx hb d_law_law_1021 rfl (lv_at hl 0 rfl) ?_
  refine lv_iconst (pc := 1022) (v := 1) hx hb d_law_law_1022 (by decide) ?_
  refine lv_iadd (pc := 1023) hx hb d_law_law_1023 ?_
  refine k_cst (v := 1) (by decide) ?_
  refine va_sld (pc := 1024) hx hb hX hbl hbA hS (by unfold vp_in; decide) d_law_law_1024 ?_
  refine k_cst (v := v1) hv1 ?_
  refine lv_aload_n (pc := 1025) hx hb d_law_law_1025 rfl (lv_at hl 3 rfl) ?_
  refine lv_iload_n (pc := 1026) hx hb d_law_law_1026 rfl (lv_at hl 0 rfl) ?_
  refine lv_iconst (pc := 1027) (v := 2) hx hb d_law_law_1027 (by decide) ?_
  refine lv_iadd (pc := 1028) hx hb d_law_law_1028 ?_
  refine k_cst (v := 2) (by decide) ?_
  refine va_sld (pc := 1029) hx hb hX hbl hbA hS (by unfold vp_in; decide) d_law_law_1029 ?_
  refine k_cst (v := v2) hv2 ?_
  refine lv_aload_n (pc := 1030) hx hb d_law_law_1030 rfl (lv_at hl 3 rfl) ?_
  refine lv_iload_n (pc := 1031) hx hb d_law_law_1031 rfl (lv_at hl 0 rfl) ?_
  refine lv_iconst (pc := 1032) (v := 3) hx hb d_law_law_1032 (by decide) ?_
  refine lv_iadd (pc := 1033) hx hb d_law_law_1033 ?_
  refine k_cst (v := 3) (by decide) ?_
  refine va_sld (pc := 1034) hx hb hX hbl hbA hS (by unfold vp_in; decide) d_law_law_1034 ?_
  refine k_cst (v := v3) hv3 ?_
  refine k_goI (gr := []) (k_rV (pc := 1035) (As := [.int v1, .int v2, .int v3]) (rest := [.int (-2147483648)]) X (c_Mo_label_z1 l D kA h2 v1 v2 v3 qm hg hgM H.size) rfl wm_3718 wm_9 wm_3715 wm_3716 wm_3717 3 (by decide +kernel) ⟨Nat.le_of_ble_eq_true rfl, Nat.le_of_ble_eq_true rfl⟩ rfl rfl (va_recv hK hP (ci := 13) (q0 := 0) rfl rfl) (k_pre hN hK hP hD [0] [] 1 rfl (by decide) rfl) rfl hl.1 rfl (Nat.le_of_ble_eq_true rfl) d_law_law_1035 ⟨Nat.le_of_ble_eq_true rfl, Nat.le_of_ble_eq_true rfl⟩) hP hD hS hA [0] [] 1 rfl (by decide) rfl rfl (fun r3 u4 H locs hu4 hP hD hS => ?_)
  obtain ⟨hP, hD⟩ := k_left hP hD
  subst hu4
  have hP : va_P D classes (cat []) H := hP
  have hD : va_D A (cat []) := hD
  refine lv_icmp_eq (pc := 1038) (tgt := 1295) hx hb d_law_law_1038 (by decide) (fun _ => ?_) (fun c1 => absurd (by decide) c1)
  rw [hAe] at hS
  exact law_exit l C0 (Nat.le_of_ble_eq_true rfl) (Nat.le_of_ble_eq_true rfl) hS hl
set_option maxRecDepth 100000 in
set_option maxHeartbeats 4000000 in
/-- DrawingHouse.label(III)I -/
theorem c_Ho_label_z2 (l : Launch) (D : va_G) (kA : Nat → ClassId) (a0 : Nat) (j : Nat) (v2 : Int32) (v3 : Int32) (a1 : Nat) (a2 : Nat) (a3 : Nat) (a4 : Nat) (a5 : Nat) (a6 : Nat) (a7 : Nat) (a8 : Nat) (a9 : Nat) (a10 : Nat) (g : Nat → Nat → Nat) (a11 : Nat) (a12 : Nat) (a13 : Nat) (a14 : Nat) (a15 : Nat) (a16 : Nat) (a17 : Nat) (a18 : Nat) (a19 : Nat) (a20 : Nat) (a21 : Nat) (a22 : Nat) (a23 : Nat) (hj : j < 4) : Ci l y_Ho_label z_Ho_label { frames := 2, cells := 0, slots := 0, locals := 41 } D classes (TY kA) [.ref a0, .int (nI j), .int v2, .int v3] [[(a0, .inr (12, [.ref a1, .ref a2, .ref a3, .ref a4, .ref a5, .ref a6, .ref a7, .int 0, .int ((-1)), .ref a8, .ref a9, .int 0, .int 0, .ref a10, .int 0, .int 0, .null, .null, .null, .null, .null]))], [(a4, .inl (kA 7, 4, .inr (.inr (.inr (.inr (rr (g 3)))))))], [(g 3 j, .inr (0, [.ref a11, .int ((-1)), .ref a12, .ref a13, .ref a14, .ref a15, .ref a16, .int 0, .int 0, .int 0, .ref a17, .ref a18, .ref a19, .ref a20, .ref a21, .ref a22, .ref a23, .int 0, .int 0, .int 0, .int 0]))]] (fun r (_ : List va_W) => r = -2147483648) (fun u => u) 0 0 := by
  intro sz
  refine k_met (cc := b_Ho_label) (maxL := 4) (ret := (some .int)) (by decide) rfl (Nat.le_of_ble_eq_true rfl) (fun p e s m below meth c ls X hl hB => ?_)
  obtain ⟨hsz, hP, hK, hD0, hN⟩ := hB
  subst hsz
  have hD := hD0.self (sz := s.heap.size)
  generalize hAe : va_A (cat [[(a0, .inr (12, [.ref a1, .ref a2, .ref a3, .ref a4, .ref a5, .ref a6, .ref a7, .int 0, .int ((-1)), .ref a8, .ref a9, .int 0, .int 0, .ref a10, .int 0, .int 0, .null, .null, .null, .null, .null]))], [(a4, .inl (kA 7, 4, .inr (.inr (.inr (.inr (rr (g 3)))))))], [(g 3 j, .inr (0, [.ref a11, .int ((-1)), .ref a12, .ref a13, .ref a14, .ref a15, .ref a16, .int 0, .int 0, .int 0, .ref a17, .ref a18, .ref a19, .ref a20, .ref a21, .ref a22, .ref a23, .int 0, .int 0, .int 0, .int 0]))]]) s.heap.size = A at hD ⊢
  have hA : ∀ q : Nat, s.heap.size ≤ q → A q := fun q h => by rw [← hAe]; exact Or.inr h
  have hS : va_S A s.heap s.heap [] := va_S.rf
  obtain ⟨hx, hb, hml, hown, hts, hr, hlk, hnm⟩ := id X
  have hl : lv_has ls 4 [(0, .ref a0), (1, .int (nI j)), (2, .int v2), (3, .int v3)] := hl
  have hP : va_P D classes (cat [[(a0, .inr (12, [.ref a1, .ref a2, .ref a3, .ref a4, .ref a5, .ref a6, .ref a7, .int 0, .int ((-1)), .ref a8, .ref a9, .int 0, .int 0, .ref a10, .int 0, .int 0, .null, .null, .null, .null, .null]))], [(a4, .inl (kA 7, 4, .inr (.inr (.inr (.inr (rr (g 3)))))))], [(g 3 j, .inr (0, [.ref a11, .int ((-1)), .ref a12, .ref a13, .ref a14, .ref a15, .ref a16, .int 0, .int 0, .int 0, .ref a17, .ref a18, .ref a19, .ref a20, .ref a21, .ref a22, .ref a23, .int 0, .int 0, .int 0, .int 0]))]]) s.heap := hP
  have hK : va_K D classes (TY kA) s := hK
  refine lv_aload_n (pc := 0) hx hb d_Ho_label_0 rfl (lv_at hl 0 rfl) ?_
  refine lv_iload_n (pc := 1) hx hb d_Ho_label_1 rfl (lv_at hl 1 rfl) ?_
  refine k_goI (gr := []) (k_rV (pc := 2) (As := [.int (nI j)]) (rest := []) X (c_Ho_hasDrawing_z2 l D kA a0 j a1 a2 a3 a4 a5 a6 a7 a8 a9 a10 g a11 a12 a13 a14 a15 a16 a17 a18 a19 a20 a21 a22 a23 hj s.heap.size) rfl wm_1859 wm_1 wm_1856 wm_1858 wv_8_15 1 (by decide +kernel) ⟨Nat.le_of_ble_eq_true rfl, Nat.le_of_ble_eq_true rfl⟩ rfl rfl (va_recv hK hP (ci := 12) (q0 := 0) rfl rfl) (k_pre hN hK hP hD [0, 1, 2] [] 3 rfl (by decide) rfl) rfl hl.1 rfl (Nat.le_of_ble_eq_true rfl) d_Ho_label_2 ⟨Nat.le_of_ble_eq_true rfl, Nat.le_of_ble_eq_true rfl⟩) hP hD hS hA [0, 1, 2] [] 3 rfl (by decide) rfl rfl (fun r1 u2 H locs hu2 hP hD hS => ?_)
  subst hu2
  have hP : va_P D classes (cat [[(a0, .inr (12, [.ref a1, .ref a2, .ref a3, .ref a4, .ref a5, .ref a6, .ref a7, .int 0, .int ((-1)), .ref a8, .ref a9, .int 0, .int 0, .ref a10, .int 0, .int 0, .null, .null, .null, .null, .null]))], [(a4, .inl (kA 7, 4, .inr (.inr (.inr (.inr (rr (g 3)))))))], [(g 3 j, .inr (0, [.ref a11, .int ((-1)), .ref a12, .ref a13, .ref a14, .ref a15, .ref a16, .int 0, .int 0, .int 0, .ref a17, .ref a18, .ref a19, .ref a20, .ref a21, .ref a22, .ref a23, .int 0, .int 0, .int 0, .int 0]))]]) H := hP
  have hD : va_D A (cat [[(a0, .inr (12, [.ref a1, .ref a2, .ref a3, .ref a4, .ref a5, .ref a6, .ref a7, .int 0, .int ((-1)), .ref a8, .ref a9, .int 0, .int 0, .ref a10, .int 0, .int 0, .null, .null, .null, .null, .null]))], [(a4, .inl (kA 7, 4, .inr (.inr (.inr (.inr (rr (g 3)))))))], [(g 3 j, .inr (0, [.ref a11, .int ((-1)), .ref a12, .ref a13, .ref a14, .ref a15, .ref a16, .int 0, .int 0, .int 0, .ref a17, .ref a18, .ref a19, .ref a20, .ref a21, .ref a22, .ref a23, .int 0, .int 0, .int 0, .int 0]))]]) := hD
  refine lv_if_eq (pc := 5) (tgt := 30) hx hb d_Ho_label_5 (by decide) (fun c1 => ?_) (fun c1 => absurd (by decide) c1)
  refine lv_ldcw (pc := 30) (v := -2147483648) hx hb hown (hts _ wm_1824) d_Ho_label_30 ?_
  refine W.widen (k := 0) (n := 0) (Nat.le_of_ble_eq_true rfl) (Nat.le_of_ble_eq_true rfl) ?_
  exact W.iret (v := (-2147483648)) hx hb hr (fun t ht hW => ⟨⟨(-2147483648), [[(a0, .inr (12, [.ref a1, .ref a2, .ref a3, .ref a4, .ref a5, .ref a6, .ref a7, .int 0, .int ((-1)), .ref a8, .ref a9, .int 0, .int 0, .ref a10, .int 0, .int 0, .null, .null, .null, .null, .null]))], [(a4, .inl (kA 7, 4, .inr (.inr (.inr (.inr (rr (g 3)))))))], [(g 3 j, .inr (0, [.ref a11, .int ((-1)), .ref a12, .ref a13, .ref a14, .ref a15, .ref a16, .int 0, .int 0, .int 0, .ref a17, .ref a18, .ref a19, .ref a20, .ref a21, .ref a22, .ref a23, .int 0, .int 0, .int 0, .int 0]))]], rfl, rfl, by rw [ht]; exact hP, va_K.moved hW.alike hK, hD⟩, hS.F ht⟩) hS.2.2 d_Ho_label_33
set_option maxRecDepth 100000 in
set_option maxHeartbeats 4000000 in
/-- DrawingHouseModel.label(III)I -/
theorem c_Mo_label_z2 (l : Launch) (D : va_G) (kA : Nat → ClassId) (a0 : Nat) (j : Nat) (v2 : Int32) (v3 : Int32) (qm : Nat → Nat) (hj : j < 4) : Ci l y_Mo_label z_Mo_label { frames := 3, cells := 0, slots := 0, locals := 63 } D classes (TY kA) [.ref a0, .int (nI j), .int v2, .int v3] [[(a0, .inr (13, mF qm x0Mo y0Mo))], [(qm 61, .inl (kA 0, 4, .inl (upd (upd (upd (upd (fun _ => 0) 0 (-1)) 1 (-1)) 2 (-1)) 3 (-1))))]] (fun r (_ : List va_W) => r = -2147483648) (fun u => u) 0 0 := by
  intro sz
  refine k_met (cc := b_Mo_label) (maxL := 5) (ret := (some .int)) (by decide) rfl (Nat.le_of_ble_eq_true rfl) (fun p e s m below meth c ls X hl hB => ?_)
  obtain ⟨hsz, hP, hK, hD0, hN⟩ := hB
  subst hsz
  have hD := hD0.self (sz := s.heap.size)
  generalize hAe : va_A (cat [[(a0, .inr (13, mF qm x0Mo y0Mo))], [(qm 61, .inl (kA 0, 4, .inl (upd (upd (upd (upd (fun _ => 0) 0 (-1)) 1 (-1)) 2 (-1)) 3 (-1))))]]) s.heap.size = A at hD ⊢
  have hA : ∀ q : Nat, s.heap.size ≤ q → A q := fun q h => by rw [← hAe]; exact Or.inr h
  have hS : va_S A s.heap s.heap [] := va_S.rf
  obtain ⟨hx, hb, hml, hown, hts, hr, hlk, hnm⟩ := id X
  have hl : lv_has ls 5 [(0, .ref a0), (1, .int (nI j)), (2, .int v2), (3, .int v3)] := hl
  have hP : va_P D classes (cat [[(a0, .inr (13, mF qm x0Mo y0Mo))], [(qm 61, .inl (kA 0, 4, .inl (upd (upd (upd (upd (fun _ => 0) 0 (-1)) 1 (-1)) 2 (-1)) 3 (-1))))]]) s.heap := hP
  have hK : va_K D classes (TY kA) s := hK
  refine lv_aload_n (pc := 0) hx hb d_Mo_label_0 rfl (lv_at hl 0 rfl) ?_
  refine lv_iload_n (pc := 1) hx hb d_Mo_label_1 rfl (lv_at hl 1 rfl) ?_
  refine k_goI (gr := []) (k_rV (pc := 2) (As := [.int (nI j)]) (rest := []) X (c_Mo_isDrawn_z2 l D kA a0 j qm hj s.heap.size) rfl wm_3669 wm_9 wm_3666 wm_3668 wv_21_13 1 (by decide +kernel) ⟨Nat.le_of_ble_eq_true rfl, Nat.le_of_ble_eq_true rfl⟩ rfl rfl (va_recv hK hP (ci := 13) (q0 := 0) rfl rfl) (k_pre hN hK hP hD [0, 1] [] 2 rfl (by decide) rfl) rfl hl.1 rfl (Nat.le_of_ble_eq_true rfl) d_Mo_label_2 ⟨Nat.le_of_ble_eq_true rfl, Nat.le_of_ble_eq_true rfl⟩) hP hD hS hA [0, 1] [] 2 rfl (by decide) rfl rfl (fun r1 u2 H locs hu2 hP hD hS => ?_)
  subst hu2
  have hP : va_P D classes (cat [[(a0, .inr (13, mF qm x0Mo y0Mo))], [(qm 61, .inl (kA 0, 4, .inl (upd (upd (upd (upd (fun _ => 0) 0 (-1)) 1 (-1)) 2 (-1)) 3 (-1))))]]) H := hP
  have hD : va_D A (cat [[(a0, .inr (13, mF qm x0Mo y0Mo))], [(qm 61, .inl (kA 0, 4, .inl (upd (upd (upd (upd (fun _ => 0) 0 (-1)) 1 (-1)) 2 (-1)) 3 (-1))))]]) := hD
  refine lv_if_eq (pc := 5) (tgt := 40) hx hb d_Mo_label_5 (by decide) (fun c1 => ?_) (fun c1 => absurd (by decide) c1)
  refine lv_ldcw (pc := 40) (v := -2147483648) hx hb hown (hts _ wm_3653) d_Mo_label_40 ?_
  refine W.widen (k := 0) (n := 0) (Nat.le_of_ble_eq_true rfl) (Nat.le_of_ble_eq_true rfl) ?_
  exact W.iret (v := (-2147483648)) hx hb hr (fun t ht hW => ⟨⟨(-2147483648), [[(a0, .inr (13, mF qm x0Mo y0Mo))], [(qm 61, .inl (kA 0, 4, .inl (upd (upd (upd (upd (fun _ => 0) 0 (-1)) 1 (-1)) 2 (-1)) 3 (-1))))]], rfl, rfl, by rw [ht]; exact hP, va_K.moved hW.alike hK, hD⟩, hS.F ht⟩) hS.2.2 d_Mo_label_43
set_option maxRecDepth 100000 in
set_option maxHeartbeats 4000000 in
/-- label, a fresh house -/
theorem lf_label_2 {p : Program} {e : Env} {s : State} {m : MethodId} {below : List Frame} {meth : Method} {c : Code} (l : Launch) {b : Nat} {xs : Nat → Int32} (C0 : lw_At p s m meth c b 6 xs) {D : va_G} {kA : Nat → ClassId} (h : Nat) (h2 : Nat) (q : Nat → Nat) (qd : Nat → Nat) (qm : Nat → Nat) (g : Nat → Nat → Nat) (j : Nat) (v2 : Int32) (v3 : Int32) (hj : j < 4) (hv1 : xs 1 = nI j) (hv2 : xs 2 = v2) (hv3 : xs 3 = v3) {H : Heap} {locs : List Loc} {ls : Array Slot} (hK : va_K D classes (TY kA) s) (hN : nst s) (hP : va_P D classes (cat [[(h, .inr (12, [.ref (q 0), .ref (q 1), .ref (q 2), .ref (q 3), .ref (q 4), .ref (q 5), .ref (q 6), .int 0, .int ((-1)), .ref (q 9), .ref (q 10), .int 0, .int 0, .ref (q 13), .int 0, .int 0, .null, .null, .null, .null, .null]))], [(q 3, .inl (kA 7, 4, .inr (.inr (.inr (.inr (rr (g 3)))))))], [(g 3 j, .inr (0, [.ref (qd 0), .int ((-1)), .ref (qd 2), .ref (qd 3), .ref (qd 4), .ref (qd 5), .ref (qd 6), .int 0, .int 0, .int 0, .ref (qd 10), .ref (qd 11), .ref (qd 12), .ref (qd 13), .ref (qd 14), .ref (qd 15), .ref (qd 16), .int 0, .int 0, .int 0, .int 0]))], [(h2, .inr (13, mF qm x0Mo y0Mo))], [(qm 61, .inl (kA 0, 4, .inl (upd (upd (upd (upd (fun _ => 0) 0 (-1)) 1 (-1)) 2 (-1)) 3 (-1))))]]) H) (hD : va_D (fun q : Nat => s.heap.size ≤ q) (cat [[(h, .inr (12, [.ref (q 0), .ref (q 1), .ref (q 2), .ref (q 3), .ref (q 4), .ref (q 5), .ref (q 6), .int 0, .int ((-1)), .ref (q 9), .ref (q 10), .int 0, .int 0, .ref (q 13), .int 0, .int 0, .null, .null, .null, .null, .null]))], [(q 3, .inl (kA 7, 4, .inr (.inr (.inr (.inr (rr (g 3)))))))], [(g 3 j, .inr (0, [.ref (qd 0), .int ((-1)), .ref (qd 2), .ref (qd 3), .ref (qd 4), .ref (qd 5), .ref (qd 6), .int 0, .int 0, .int 0, .ref (qd 10), .ref (qd 11), .ref (qd 12), .ref (qd 13), .ref (qd 14), .ref (qd 15), .ref (qd 16), .int 0, .int 0, .int 0, .int 0]))], [(h2, .inr (13, mF qm x0Mo y0Mo))], [(qm 61, .inl (kA 0, 4, .inl (upd (upd (upd (upd (fun _ => 0) 0 (-1)) 1 (-1)) 2 (-1)) 3 (-1))))]])) (hS : va_S (fun q : Nat => s.heap.size ≤ q) s.heap H locs) (hl : lv_has ls 4 [(3, .int 0), (2, .ref h2), (1, .ref h), (0, .ref b)]) : W p l e room_1 s m #[Value.ref b] below meth c H locs 368 365796 (lw_Z below #[Value.ref b] s) (F0 m 1000 ls []) := by
  obtain ⟨hx, hb, hr, hml, hown, hts0, hX, hbl, hlocks, hgv⟩ := id C0
  have hts : ∀ w ∈ lw_g, w.before #[Value.ref b] s = true := fun w h => hts0 w (lw_gt h)
  have X : cx p s m #[Value.ref b] meth c b_law_law 4 ret "DrawingHouseLaw" meth.name := ⟨hx, hb, hml, hown, hts, hr, hlocks, rfl⟩
  obtain ⟨A, hAe⟩ : ∃ A : Nat → Prop, A = fun q : Nat => s.heap.size ≤ q := ⟨_, rfl⟩
  have hA : ∀ q : Nat, s.heap.size ≤ q → A q := fun q h => by rw [hAe]; exact h
  have hbA : ¬ A b := by rw [hAe]; exact Nat.not_le.mpr hbl
  rw [← hAe] at hD hS
  refine lv_aload_n (pc := 1000) hx hb d_law_law_1000 rfl (lv_at hl 2 rfl) ?_
  refine lv_aload_n (pc := 1001) hx hb d_law_law_1001 rfl (lv_at hl 3 rfl) ?_
  refine lv_iload_n (pc := 1002) hx hb d_law_law_1002 rfl (lv_at hl 0 rfl) ?_
  refine lv_iconst (pc := 1003) (v := 1) hx hb d_law_law_1003 (by decide) ?_
  refine lv_iadd (pc := 1004) hx hb d_law_law_1004 ?_
  refine k_cst (v := 1) (by decide) ?_
  refine va_sld (pc := 1005) hx hb hX hbl hbA hS (by unfold vp_in; decide) d_law_law_1005 ?_
  refine k_cst (v := nI j) hv1 ?_
  refine lv_aload_n (pc := 1006) hx hb d_law_law_1006 rfl (lv_at hl 3 rfl) ?_
  refine lv_iload_n (pc := 1007) hx hb d_law_law_1007 rfl (lv_at hl 0 rfl) ?_
  refine lv_iconst (pc := 1008) (v := 2) hx hb d_law_law_1008 (by decide) ?_
  refine lv_iadd (pc := 1009) hx hb d_law_law_1009 ?_
  refine k_cst (v := 2) (by decide) ?_
  refine va_sld (pc := 1010) hx hb hX hbl hbA hS (by unfold vp_in; decide) d_law_law_1010 ?_
  refine k_cst (v := v2) hv2 ?_
  refine lv_aload_n (pc := 1011) hx hb d_law_law_1011 rfl (lv_at hl 3 rfl) ?_
  refine lv_iload_n (pc := 1012) hx hb d_law_law_1012 rfl (lv_at hl 0 rfl) ?_
  refine lv_iconst (pc := 1013) (v := 3) hx hb d_law_law_1013 (by decide) ?_
  refine lv_iadd (pc := 1014) hx hb d_law_law_1014 ?_
  refine k_cst (v := 3) (by decide) ?_
  refine va_sld (pc := 1015) hx hb hX hbl hbA hS (by unfold vp_in; decide) d_law_law_1015 ?_
  refine k_cst (v := v3) hv3 ?_
  refine k_goI (gr := [[(h2, .inr (13, mF qm x0Mo y0Mo))], [(qm 61, .inl (kA 0, 4, .inl (upd (upd (upd (upd (fun _ => 0) 0 (-1)) 1 (-1)) 2 (-1)) 3 (-1))))]]) (k_rV (pc := 1016) (As := [.int (nI j), .int v2, .int v3]) (rest := []) X (c_Ho_label_z2 l D kA h j v2 v3 (q 0) (q 1) (q 2) (q 3) (q 4) (q 5) (q 6) (q 9) (q 10) (q 13) g (qd 0) (qd 2) (qd 3) (qd 4) (qd 5) (qd 6) (qd 10) (qd 11) (qd 12) (qd 13) (qd 14) (qd 15) (qd 16) hj H.size) rfl wm_1974 wm_1 wm_1971 wm_1972 wm_1973 3 (by decide +kernel) ⟨Nat.le_of_ble_eq_true rfl, Nat.le_of_ble_eq_true rfl⟩ rfl rfl (va_recv hK hP (ci := 12) (q0 := 0) rfl rfl) (k_pre hN hK hP hD [0, 1, 2] [3, 4] 5 rfl (by decide) rfl) rfl hl.1 rfl (Nat.le_of_ble_eq_true rfl) d_law_law_1016 ⟨Nat.le_of_ble_eq_true rfl, Nat.le_of_ble_eq_true rfl⟩) hP hD hS hA [0, 1, 2] [3, 4] 5 rfl (by decide) rfl rfl (fun r1 u2 H locs hu2 hP hD hS => ?_)
  obtain ⟨hP, hD⟩ := k_left hP hD
  subst hu2
  have hP : va_P D classes (cat [[(h2, .inr (13, mF qm x0Mo y0Mo))], [(qm 61, .inl (kA 0, 4, .inl (upd (upd (upd (upd (fun _ => 0) 0 (-1)) 1 (-1)) 2 (-1)) 3 (-1))))]]) H := hP
  have hD : va_D A (cat [[(h2, .inr (13, mF qm x0Mo y0Mo))], [(qm 61, .inl (kA 0, 4, .inl (upd (upd (upd (upd (fun _ => 0) 0 (-1)) 1 (-1)) 2 (-1)) 3 (-1))))]]) := hD
  refine lv_aload_n (pc := 1019) hx hb d_law_law_1019 rfl (lv_at hl 1 rfl) ?_
  refine lv_aload_n (pc := 1020) hx hb d_law_law_1020 rfl (lv_at hl 3 rfl) ?_
  refine lv_iload_n (pc := 1021) hx hb d_law_law_1021 rfl (lv_at hl 0 rfl) ?_
  refine lv_iconst (pc := 1022) (v := 1) hx hb d_law_law_1022 (by decide) ?_
  refine lv_iadd (pc := 1023) hx hb d_law_law_1023 ?_
  refine k_cst (v := 1) (by decide) ?_
  refine va_sld (pc := 1024) hx hb hX hbl hbA hS (by unfold vp_in; decide) d_law_law_1024 ?_
  refine k_cst (v := nI j) hv1 ?_
  refine lv_aload_n (pc := 1025) hx hb d_law_law_1025 rfl (lv_at hl 3 rfl) ?_
  refine lv_iload_n (pc := 1026) hx hb d_law_law_1026 rfl (lv_at hl 0 rfl) ?_
  refine lv_iconst (pc := 1027) (v := 2) hx hb d_law_law_1027 (by decide) ?_
  refine lv_iadd (pc := 1028) hx hb d_law_law_1028 ?_
  refine k_cst (v := 2) (by decide) ?_
  refine va_sld (pc := 1029) hx hb hX hbl hbA hS (by unfold vp_in; decide) d_law_law_1029 ?_
  refine k_cst (v := v2) hv2 ?_
  refine lv_aload_n (pc := 1030) hx hb d_law_law_1030 rfl (lv_at hl 3 rfl) ?_
  refine lv_iload_n (pc := 1031) hx hb d_law_law_1031 rfl (lv_at hl 0 rfl) ?_
  refine lv_iconst (pc := 1032) (v := 3) hx hb d_law_law_1032 (by decide) ?_
  refine lv_iadd (pc := 1033) hx hb d_law_law_1033 ?_
  refine k_cst (v := 3) (by decide) ?_
  refine va_sld (pc := 1034) hx hb hX hbl hbA hS (by unfold vp_in; decide) d_law_law_1034 ?_
  refine k_cst (v := v3) hv3 ?_
  refine k_goI (gr := []) (k_rV (pc := 1035) (As := [.int (nI j), .int v2, .int v3]) (rest := [.int (-2147483648)]) X (c_Mo_label_z2 l D kA h2 j v2 v3 qm hj H.size) rfl wm_3718 wm_9 wm_3715 wm_3716 wm_3717 3 (by decide +kernel) ⟨Nat.le_of_ble_eq_true rfl, Nat.le_of_ble_eq_true rfl⟩ rfl rfl (va_recv hK hP (ci := 13) (q0 := 0) rfl rfl) (k_pre hN hK hP hD [0, 1] [] 2 rfl (by decide) rfl) rfl hl.1 rfl (Nat.le_of_ble_eq_true rfl) d_law_law_1035 ⟨Nat.le_of_ble_eq_true rfl, Nat.le_of_ble_eq_true rfl⟩) hP hD hS hA [0, 1] [] 2 rfl (by decide) rfl rfl (fun r3 u4 H locs hu4 hP hD hS => ?_)
  obtain ⟨hP, hD⟩ := k_left hP hD
  subst hu4
  have hP : va_P D classes (cat []) H := hP
  have hD : va_D A (cat []) := hD
  refine lv_icmp_eq (pc := 1038) (tgt := 1295) hx hb d_law_law_1038 (by decide) (fun _ => ?_) (fun c1 => absurd (by decide) c1)
  rw [hAe] at hS
  exact law_exit l C0 (Nat.le_of_ble_eq_true rfl) (Nat.le_of_ble_eq_true rfl) hS hl
set_option maxRecDepth 100000 in
set_option maxHeartbeats 4000000 in
/-- DrawingHouse.judge(II)J -/
theorem c_Ho_judge_z1 (l : Launch) (D : va_G) (kA : Nat → ClassId) (a0 : Nat) (v1 : Int32) (v2 : Int32) (a1 : Nat) (a2 : Nat) (a3 : Nat) (a4 : Nat) (a5 : Nat) (a6 : Nat) (a7 : Nat) (a8 : Nat) (a9 : Nat) (a10 : Nat) (hg : sp_Ho_isPlace v1 = 0) (hgM : sp_Mo_isPlace v1 = 0) : Cl l y_Ho_judge z_Ho_judge { frames := 2, cells := 0, slots := 0, locals := 41 } D classes (TY kA) [.ref a0, .int v1, .int v2] [[(a0, .inr (12, [.ref a1, .ref a2, .ref a3, .ref a4, .ref a5, .ref a6, .ref a7, .int 0, .int ((-1)), .ref a8, .ref a9, .int 0, .int 0, .ref a10, .int 0, .int 0, .null, .null, .null, .null, .null]))]] (fun r (_ : List va_W) => r = -1) (fun u => u) 0 0 := by
  intro sz
  refine k_met (cc := b_Ho_judge) (maxL := 3) (ret := (some .long)) (by decide) rfl (Nat.le_of_ble_eq_true rfl) (fun p e s m below meth c ls X hl hB => ?_)
  obtain ⟨hsz, hP, hK, hD0, hN⟩ := hB
  subst hsz
  have hD := hD0.self (sz := s.heap.size)
  generalize hAe : va_A (cat [[(a0, .inr (12, [.ref a1, .ref a2, .ref a3, .ref a4, .ref a5, .ref a6, .ref a7, .int 0, .int ((-1)), .ref a8, .ref a9, .int 0, .int 0, .ref a10, .int 0, .int 0, .null, .null, .null, .null, .null]))]]) s.heap.size = A at hD ⊢
  have hA : ∀ q : Nat, s.heap.size ≤ q → A q := fun q h => by rw [← hAe]; exact Or.inr h
  have hS : va_S A s.heap s.heap [] := va_S.rf
  obtain ⟨hx, hb, hml, hown, hts, hr, hlk, hnm⟩ := id X
  have hl : lv_has ls 3 [(0, .ref a0), (1, .int v1), (2, .int v2)] := hl
  have hP : va_P D classes (cat [[(a0, .inr (12, [.ref a1, .ref a2, .ref a3, .ref a4, .ref a5, .ref a6, .ref a7, .int 0, .int ((-1)), .ref a8, .ref a9, .int 0, .int 0, .ref a10, .int 0, .int 0, .null, .null, .null, .null, .null]))]]) s.heap := hP
  have hK : va_K D classes (TY kA) s := hK
  refine lv_aload_n (pc := 0) hx hb d_Ho_judge_0 rfl (lv_at hl 0 rfl) ?_
  refine lv_iload_n (pc := 1) hx hb d_Ho_judge_1 rfl (lv_at hl 1 rfl) ?_
  refine k_goI (gr := [[(a0, .inr (12, [.ref a1, .ref a2, .ref a3, .ref a4, .ref a5, .ref a6, .ref a7, .int 0, .int ((-1)), .ref a8, .ref a9, .int 0, .int 0, .ref a10, .int 0, .int 0, .null, .null, .null, .null, .null]))]]) (k_rV (pc := 2) (As := [.int v1]) (rest := []) X (c_Ho_hasDrawing_z1 l D kA a0 v1 hg hgM s.heap.size) rfl wm_1859 wm_1 wm_1856 wm_1858 wv_8_15 1 (by decide +kernel) ⟨Nat.le_of_ble_eq_true rfl, Nat.le_of_ble_eq_true rfl⟩ rfl rfl (va_recv hK hP (ci := 12) (q0 := 0) rfl rfl) (k_pre hN hK hP hD [] [0] 1 rfl (by decide) rfl) rfl hl.1 rfl (Nat.le_of_ble_eq_true rfl) d_Ho_judge_2 ⟨Nat.le_of_ble_eq_true rfl, Nat.le_of_ble_eq_true rfl⟩) hP hD hS hA [] [0] 1 rfl (by decide) rfl rfl (fun r1 u2 H locs hu2 hP hD hS => ?_)
  subst hu2
  have hP : va_P D classes (cat [[(a0, .inr (12, [.ref a1, .ref a2, .ref a3, .ref a4, .ref a5, .ref a6, .ref a7, .int 0, .int ((-1)), .ref a8, .ref a9, .int 0, .int 0, .ref a10, .int 0, .int 0, .null, .null, .null, .null, .null]))]]) H := hP
  have hD : va_D A (cat [[(a0, .inr (12, [.ref a1, .ref a2, .ref a3, .ref a4, .ref a5, .ref a6, .ref a7, .int 0, .int ((-1)), .ref a8, .ref a9, .int 0, .int 0, .ref a10, .int 0, .int 0, .null, .null, .null, .null, .null]))]]) := hD
  refine lv_if_eq (pc := 5) (tgt := 21) hx hb d_Ho_judge_5 (by decide) (fun c1 => ?_) (fun c1 => absurd (by decide) c1)
  refine lv_ldc2 (pc := 21) (v := -1) hx hb hown (hts _ wm_2084) d_Ho_judge_21 ?_
  refine W.widen (k := 0) (n := 0) (Nat.le_of_ble_eq_true rfl) (Nat.le_of_ble_eq_true rfl) ?_
  exact W.lret (v := (-1)) hx hb hr (fun t ht hW => ⟨⟨(-1), [[(a0, .inr (12, [.ref a1, .ref a2, .ref a3, .ref a4, .ref a5, .ref a6, .ref a7, .int 0, .int ((-1)), .ref a8, .ref a9, .int 0, .int 0, .ref a10, .int 0, .int 0, .null, .null, .null, .null, .null]))]], rfl, rfl, by rw [ht]; exact hP, va_K.moved hW.alike hK, hD⟩, hS.F ht⟩) hS.2.2 d_Ho_judge_24
set_option maxRecDepth 100000 in
set_option maxHeartbeats 4000000 in
/-- DrawingHouseModel.judge(II)J -/
theorem c_Mo_judge_z1 (l : Launch) (D : va_G) (kA : Nat → ClassId) (a0 : Nat) (v1 : Int32) (v2 : Int32) (qm : Nat → Nat) (hg : sp_Ho_isPlace v1 = 0) (hgM : sp_Mo_isPlace v1 = 0) : Cl l y_Mo_judge z_Mo_judge { frames := 3, cells := 0, slots := 0, locals := 63 } D classes (TY kA) [.ref a0, .int v1, .int v2] [[(a0, .inr (13, mF qm x0Mo y0Mo))]] (fun r (_ : List va_W) => r = -1) (fun u => u) 0 0 := by
  intro sz
  refine k_met (cc := b_Mo_judge) (maxL := 9) (ret := (some .long)) (by decide) rfl (Nat.le_of_ble_eq_true rfl) (fun p e s m below meth c ls X hl hB => ?_)
  obtain ⟨hsz, hP, hK, hD0, hN⟩ := hB
  subst hsz
  have hD := hD0.self (sz := s.heap.size)
  generalize hAe : va_A (cat [[(a0, .inr (13, mF qm x0Mo y0Mo))]]) s.heap.size = A at hD ⊢
  have hA : ∀ q : Nat, s.heap.size ≤ q → A q := fun q h => by rw [← hAe]; exact Or.inr h
  have hS : va_S A s.heap s.heap [] := va_S.rf
  obtain ⟨hx, hb, hml, hown, hts, hr, hlk, hnm⟩ := id X
  have hl : lv_has ls 9 [(0, .ref a0), (1, .int v1), (2, .int v2)] := hl
  have hP : va_P D classes (cat [[(a0, .inr (13, mF qm x0Mo y0Mo))]]) s.heap := hP
  have hK : va_K D classes (TY kA) s := hK
  refine lv_aload_n (pc := 0) hx hb d_Mo_judge_0 rfl (lv_at hl 0 rfl) ?_
  refine lv_iload_n (pc := 1) hx hb d_Mo_judge_1 rfl (lv_at hl 1 rfl) ?_
  refine k_goI (gr := [[(a0, .inr (13, mF qm x0Mo y0Mo))]]) (k_rV (pc := 2) (As := [.int v1]) (rest := []) X (c_Mo_isDrawn_z1 l D kA a0 v1 hg hgM s.heap.size) rfl wm_3669 wm_9 wm_3666 wm_3668 wv_21_13 1 (by decide +kernel) ⟨Nat.le_of_ble_eq_true rfl, Nat.le_of_ble_eq_true rfl⟩ rfl rfl (va_recv hK hP (ci := 13) (q0 := 0) rfl rfl) (k_pre hN hK hP hD [] [0] 1 rfl (by decide) rfl) rfl hl.1 rfl (Nat.le_of_ble_eq_true rfl) d_Mo_judge_2 ⟨Nat.le_of_ble_eq_true rfl, Nat.le_of_ble_eq_true rfl⟩) hP hD hS hA [] [0] 1 rfl (by decide) rfl rfl (fun r1 u2 H locs hu2 hP hD hS => ?_)
  subst hu2
  have hP : va_P D classes (cat [[(a0, .inr (13, mF qm x0Mo y0Mo))]]) H := hP
  have hD : va_D A (cat [[(a0, .inr (13, mF qm x0Mo y0Mo))]]) := hD
  refine lv_if_eq (pc := 5) (tgt := 18) hx hb d_Mo_judge_5 (by decide) (fun c1 => ?_) (fun c1 => absurd (by decide) c1)
  refine lv_ldc2 (pc := 18) (v := -1) hx hb hown (hts _ wm_3625) d_Mo_judge_18 ?_
  refine W.widen (k := 0) (n := 0) (Nat.le_of_ble_eq_true rfl) (Nat.le_of_ble_eq_true rfl) ?_
  exact W.lret (v := (-1)) hx hb hr (fun t ht hW => ⟨⟨(-1), [[(a0, .inr (13, mF qm x0Mo y0Mo))]], rfl, rfl, by rw [ht]; exact hP, va_K.moved hW.alike hK, hD⟩, hS.F ht⟩) hS.2.2 d_Mo_judge_21
set_option maxRecDepth 100000 in
set_option maxHeartbeats 4000000 in
/-- judge, a fresh house -/
theorem lf_judge_1 {p : Program} {e : Env} {s : State} {m : MethodId} {below : List Frame} {meth : Method} {c : Code} (l : Launch) {b : Nat} {xs : Nat → Int32} (C0 : lw_At p s m meth c b 6 xs) {D : va_G} {kA : Nat → ClassId} (h : Nat) (h2 : Nat) (q : Nat → Nat) (qm : Nat → Nat) (v1 : Int32) (v2 : Int32) (hg : sp_Ho_isPlace v1 = 0) (hgM : sp_Mo_isPlace v1 = 0) (hv1 : xs 1 = v1) (hv2 : xs 2 = v2) {H : Heap} {locs : List Loc} {ls : Array Slot} (hK : va_K D classes (TY kA) s) (hN : nst s) (hP : va_P D classes (cat [[(h, .inr (12, [.ref (q 0), .ref (q 1), .ref (q 2), .ref (q 3), .ref (q 4), .ref (q 5), .ref (q 6), .int 0, .int ((-1)), .ref (q 9), .ref (q 10), .int 0, .int 0, .ref (q 13), .int 0, .int 0, .null, .null, .null, .null, .null]))], [(h2, .inr (13, mF qm x0Mo y0Mo))]]) H) (hD : va_D (fun q : Nat => s.heap.size ≤ q) (cat [[(h, .inr (12, [.ref (q 0), .ref (q 1), .ref (q 2), .ref (q 3), .ref (q 4), .ref (q 5), .ref (q 6), .int 0, .int ((-1)), .ref (q 9), .ref (q 10), .int 0, .int 0, .ref (q 13), .int 0, .int 0, .null, .null, .null, .null, .null]))], [(h2, .inr (13, mF qm x0Mo y0Mo))]])) (hS : va_S (fun q : Nat => s.heap.size ≤ q) s.heap H locs) (hl : lv_has ls 4 [(3, .int 0), (2, .ref h2), (1, .ref h), (0, .ref b)]) : W p l e room_1 s m #[Value.ref b] below meth c H locs 368 365796 (lw_Z below #[Value.ref b] s) (F0 m 1043 ls []) := by
  obtain ⟨hx, hb, hr, hml, hown, hts0, hX, hbl, hlocks, hgv⟩ := id C0
  have hts : ∀ w ∈ lw_g, w.before #[Value.ref b] s = true := fun w h => hts0 w (lw_gt h)
  have X : cx p s m #[Value.ref b] meth c b_law_law 4 ret "DrawingHouseLaw" meth.name := ⟨hx, hb, hml, hown, hts, hr, hlocks, rfl⟩
  obtain ⟨A, hAe⟩ : ∃ A : Nat → Prop, A = fun q : Nat => s.heap.size ≤ q := ⟨_, rfl⟩
  have hA : ∀ q : Nat, s.heap.size ≤ q → A q := fun q h => by rw [hAe]; exact h
  have hbA : ¬ A b := by rw [hAe]; exact Nat.not_le.mpr hbl
  rw [← hAe] at hD hS
  refine lv_aload_n (pc := 1043) hx hb d_law_law_1043 rfl (lv_at hl 2 rfl) ?_
  refine lv_aload_n (pc := 1044) hx hb d_law_law_1044 rfl (lv_at hl 3 rfl) ?_
  refine lv_iload_n (pc := 1045) hx hb d_law_law_1045 rfl (lv_at hl 0 rfl) ?_
  refine lv_iconst (pc := 1046) (v := 1) hx hb d_law_law_1046 (by decide) ?_
  refine lv_iadd (pc := 1047) hx hb d_law_law_1047 ?_
  refine k_cst (v := 1) (by decide) ?_
  refine va_sld (pc := 1048) hx hb hX hbl hbA hS (by unfold vp_in; decide) d_law_law_1048 ?_
  refine k_cst (v := v1) hv1 ?_
  refine lv_aload_n (pc := 1049) hx hb d_law_law_1049 rfl (lv_at hl 3 rfl) ?_
  refine lv_iload_n (pc := 1050) hx hb d_law_law_1050 rfl (lv_at hl 0 rfl) ?_
  refine lv_iconst (pc := 1051) (v := 2) hx hb d_law_law_1051 (by decide) ?_
  refine lv_iadd (pc := 1052) hx hb d_law_law_1052 ?_
  refine k_cst (v := 2) (by decide) ?_
  refine va_sld (pc := 1053) hx hb hX hbl hbA hS (by unfold vp_in; decide) d_law_law_1053 ?_
  refine k_cst (v := v2) hv2 ?_
  refine k_goL (gr := [[(h2, .inr (13, mF qm x0Mo y0Mo))]]) (k_rV (pc := 1054) (As := [.int v1, .int v2]) (rest := []) X (c_Ho_judge_z1 l D kA h v1 v2 (q 0) (q 1) (q 2) (q 3) (q 4) (q 5) (q 6) (q 9) (q 10) (q 13) hg hgM H.size) rfl wm_2005 wm_1 wm_2002 wm_2003 wm_2004 2 (by decide +kernel) ⟨Nat.le_of_ble_eq_true rfl, Nat.le_of_ble_eq_true rfl⟩ rfl rfl (va_recv hK hP (ci := 12) (q0 := 0) rfl rfl) (k_pre hN hK hP hD [0] [1] 2 rfl (by decide) rfl) rfl hl.1 rfl (Nat.le_of_ble_eq_true rfl) d_law_law_1054 ⟨Nat.le_of_ble_eq_true rfl, Nat.le_of_ble_eq_true rfl⟩) hP hD hS hA [0] [1] 2 rfl (by decide) rfl rfl (fun r1 u2 H locs hu2 hP hD hS => ?_)
  obtain ⟨hP, hD⟩ := k_left hP hD
  subst hu2
  have hP : va_P D classes (cat [[(h2, .inr (13, mF qm x0Mo y0Mo))]]) H := hP
  have hD : va_D A (cat [[(h2, .inr (13, mF qm x0Mo y0Mo))]]) := hD
  refine lv_aload_n (pc := 1057) hx hb d_law_law_1057 rfl (lv_at hl 1 rfl) ?_
  refine lv_aload_n (pc := 1058) hx hb d_law_law_1058 rfl (lv_at hl 3 rfl) ?_
  refine lv_iload_n (pc := 1059) hx hb d_law_law_1059 rfl (lv_at hl 0 rfl) ?_
  refine lv_iconst (pc := 1060) (v := 1) hx hb d_law_law_1060 (by decide) ?_
  refine lv_iadd (pc := 1061) hx hb d_law_law_1061 ?_
  refine k_cst (v := 1) (by decide) ?_
  refine va_sld (pc := 1062) hx hb hX hbl hbA hS (by unfold vp_in; decide) d_law_law_1062 ?_
  refine k_cst (v := v1) hv1 ?_
  refine lv_aload_n (pc := 1063) hx hb d_law_law_1063 rfl (lv_at hl 3 rfl) ?_
  refine lv_iload_n (pc := 1064) hx hb d_law_law_1064 rfl (lv_at hl 0 rfl) ?_
  refine lv_iconst (pc := 1065) (v := 2) hx hb d_law_law_1065 (by decide) ?_
  refine lv_iadd (pc := 1066) hx hb d_law_law_1066 ?_
  refine k_cst (v := 2) (by decide) ?_
  refine va_sld (pc := 1067) hx hb hX hbl hbA hS (by unfold vp_in; decide) d_law_law_1067 ?_
  refine k_cst (v := v2) hv2 ?_
  refine k_goL (gr := []) (k_rV (pc := 1068) (As := [.int v1, .int v2]) (rest := [.long (-1)]) X (c_Mo_judge_z1 l D kA h2 v1 v2 qm hg hgM H.size) rfl wm_3738 wm_9 wm_3735 wm_3736 wm_3737 2 (by decide +kernel) ⟨Nat.le_of_ble_eq_true rfl, Nat.le_of_ble_eq_true rfl⟩ rfl rfl (va_recv hK hP (ci := 13) (q0 := 0) rfl rfl) (k_pre hN hK hP hD [0] [] 1 rfl (by decide) rfl) rfl hl.1 rfl (Nat.le_of_ble_eq_true rfl) d_law_law_1068 ⟨Nat.le_of_ble_eq_true rfl, Nat.le_of_ble_eq_true rfl⟩) hP hD hS hA [0] [] 1 rfl (by decide) rfl rfl (fun r3 u4 H locs hu4 hP hD hS => ?_)
  obtain ⟨hP, hD⟩ := k_left hP hD
  subst hu4
  have hP : va_P D classes (cat []) H := hP
  have hD : va_D A (cat []) := hD
  refine W.lcmp (pc := 1071) hx hb d_law_law_1071 ?_
  refine k_cst (v := 0) (by decide) ?_
  refine lv_if_eq (pc := 1072) (tgt := 1295) hx hb d_law_law_1072 (by decide) (fun c1 => ?_) (fun c1 => absurd (by decide) c1)
  rw [hAe] at hS
  exact law_exit l C0 (Nat.le_of_ble_eq_true rfl) (Nat.le_of_ble_eq_true rfl) hS hl
set_option maxRecDepth 100000 in
set_option maxHeartbeats 4000000 in
/-- DrawingHouse.judge(II)J -/
theorem c_Ho_judge_z2 (l : Launch) (D : va_G) (kA : Nat → ClassId) (a0 : Nat) (j : Nat) (v2 : Int32) (a1 : Nat) (a2 : Nat) (a3 : Nat) (a4 : Nat) (a5 : Nat) (a6 : Nat) (a7 : Nat) (a8 : Nat) (a9 : Nat) (a10 : Nat) (g : Nat → Nat → Nat) (a11 : Nat) (a12 : Nat) (a13 : Nat) (a14 : Nat) (a15 : Nat) (a16 : Nat) (a17 : Nat) (a18 : Nat) (a19 : Nat) (a20 : Nat) (a21 : Nat) (a22 : Nat) (a23 : Nat) (hj : j < 4) : Cl l y_Ho_judge z_Ho_judge { frames := 2, cells := 0, slots := 0, locals := 41 } D classes (TY kA) [.ref a0, .int (nI j), .int v2] [[(a0, .inr (12, [.ref a1, .ref a2, .ref a3, .ref a4, .ref a5, .ref a6, .ref a7, .int 0, .int ((-1)), .ref a8, .ref a9, .int 0, .int 0, .ref a10, .int 0, .int 0, .null, .null, .null, .null, .null]))], [(a4, .inl (kA 7, 4, .inr (.inr (.inr (.inr (rr (g 3)))))))], [(g 3 j, .inr (0, [.ref a11, .int ((-1)), .ref a12, .ref a13, .ref a14, .ref a15, .ref a16, .int 0, .int 0, .int 0, .ref a17, .ref a18, .ref a19, .ref a20, .ref a21, .ref a22, .ref a23, .int 0, .int 0, .int 0, .int 0]))]] (fun r (_ : List va_W) => r = -1) (fun u => u) 0 0 := by
  intro sz
  refine k_met (cc := b_Ho_judge) (maxL := 3) (ret := (some .long)) (by decide) rfl (Nat.le_of_ble_eq_true rfl) (fun p e s m below meth c ls X hl hB => ?_)
  obtain ⟨hsz, hP, hK, hD0, hN⟩ := hB
  subst hsz
  have hD := hD0.self (sz := s.heap.size)
  generalize hAe : va_A (cat [[(a0, .inr (12, [.ref a1, .ref a2, .ref a3, .ref a4, .ref a5, .ref a6, .ref a7, .int 0, .int ((-1)), .ref a8, .ref a9, .int 0, .int 0, .ref a10, .int 0, .int 0, .null, .null, .null, .null, .null]))], [(a4, .inl (kA 7, 4, .inr (.inr (.inr (.inr (rr (g 3)))))))], [(g 3 j, .inr (0, [.ref a11, .int ((-1)), .ref a12, .ref a13, .ref a14, .ref a15, .ref a16, .int 0, .int 0, .int 0, .ref a17, .ref a18, .ref a19, .ref a20, .ref a21, .ref a22, .ref a23, .int 0, .int 0, .int 0, .int 0]))]]) s.heap.size = A at hD ⊢
  have hA : ∀ q : Nat, s.heap.size ≤ q → A q := fun q h => by rw [← hAe]; exact Or.inr h
  have hS : va_S A s.heap s.heap [] := va_S.rf
  obtain ⟨hx, hb, hml, hown, hts, hr, hlk, hnm⟩ := id X
  have hl : lv_has ls 3 [(0, .ref a0), (1, .int (nI j)), (2, .int v2)] := hl
  have hP : va_P D classes (cat [[(a0, .inr (12, [.ref a1, .ref a2, .ref a3, .ref a4, .ref a5, .ref a6, .ref a7, .int 0, .int ((-1)), .ref a8, .ref a9, .int 0, .int 0, .ref a10, .int 0, .int 0, .null, .null, .null, .null, .null]))], [(a4, .inl (kA 7, 4, .inr (.inr (.inr (.inr (rr (g 3)))))))], [(g 3 j, .inr (0, [.ref a11, .int ((-1)), .ref a12, .ref a13, .ref a14, .ref a15, .ref a16, .int 0, .int 0, .int 0, .ref a17, .ref a18, .ref a19, .ref a20, .ref a21, .ref a22, .ref a23, .int 0, .int 0, .int 0, .int 0]))]]) s.heap := hP
  have hK : va_K D classes (TY kA) s := hK
  refine lv_aload_n (pc := 0) hx hb d_Ho_judge_0 rfl (lv_at hl 0 rfl) ?_
  refine lv_iload_n (pc := 1) hx hb d_Ho_judge_1 rfl (lv_at hl 1 rfl) ?_
  refine k_goI (gr := []) (k_rV (pc := 2) (As := [.int (nI j)]) (rest := []) X (c_Ho_hasDrawing_z2 l D kA a0 j a1 a2 a3 a4 a5 a6 a7 a8 a9 a10 g a11 a12 a13 a14 a15 a16 a17 a18 a19 a20 a21 a22 a23 hj s.heap.size) rfl wm_1859 wm_1 wm_1856 wm_1858 wv_8_15 1 (by decide +kernel) ⟨Nat.le_of_ble_eq_true rfl, Nat.le_of_ble_eq_true rfl⟩ rfl rfl (va_recv hK hP (ci := 12) (q0 := 0) rfl rfl) (k_pre hN hK hP hD [0, 1, 2] [] 3 rfl (by decide) rfl) rfl hl.1 rfl (Nat.le_of_ble_eq_true rfl) d_Ho_judge_2 ⟨Nat.le_of_ble_eq_true rfl, Nat.le_of_ble_eq_true rfl⟩) hP hD hS hA [0, 1, 2] [] 3 rfl (by decide) rfl rfl (fun r1 u2 H locs hu2 hP hD hS => ?_)
  subst hu2
  have hP : va_P D classes (cat [[(a0, .inr (12, [.ref a1, .ref a2, .ref a3, .ref a4, .ref a5, .ref a6, .ref a7, .int 0, .int ((-1)), .ref a8, .ref a9, .int 0, .int 0, .ref a10, .int 0, .int 0, .null, .null, .null, .null, .null]))], [(a4, .inl (kA 7, 4, .inr (.inr (.inr (.inr (rr (g 3)))))))], [(g 3 j, .inr (0, [.ref a11, .int ((-1)), .ref a12, .ref a13, .ref a14, .ref a15, .ref a16, .int 0, .int 0, .int 0, .ref a17, .ref a18, .ref a19, .ref a20, .ref a21, .ref a22, .ref a23, .int 0, .int 0, .int 0, .int 0]))]]) H := hP
  have hD : va_D A (cat [[(a0, .inr (12, [.ref a1, .ref a2, .ref a3, .ref a4, .ref a5, .ref a6, .ref a7, .int 0, .int ((-1)), .ref a8, .ref a9, .int 0, .int 0, .ref a10, .int 0, .int 0, .null, .null, .null, .null, .null]))], [(a4, .inl (kA 7, 4, .inr (.inr (.inr (.inr (rr (g 3)))))))], [(g 3 j, .inr (0, [.ref a11, .int ((-1)), .ref a12, .ref a13, .ref a14, .ref a15, .ref a16, .int 0, .int 0, .int 0, .ref a17, .ref a18, .ref a19, .ref a20, .ref a21, .ref a22, .ref a23, .int 0, .int 0, .int 0, .int 0]))]]) := hD
  refine lv_if_eq (pc := 5) (tgt := 21) hx hb d_Ho_judge_5 (by decide) (fun c1 => ?_) (fun c1 => absurd (by decide) c1)
  refine lv_ldc2 (pc := 21) (v := -1) hx hb hown (hts _ wm_2084) d_Ho_judge_21 ?_
  refine W.widen (k := 0) (n := 0) (Nat.le_of_ble_eq_true rfl) (Nat.le_of_ble_eq_true rfl) ?_
  exact W.lret (v := (-1)) hx hb hr (fun t ht hW => ⟨⟨(-1), [[(a0, .inr (12, [.ref a1, .ref a2, .ref a3, .ref a4, .ref a5, .ref a6, .ref a7, .int 0, .int ((-1)), .ref a8, .ref a9, .int 0, .int 0, .ref a10, .int 0, .int 0, .null, .null, .null, .null, .null]))], [(a4, .inl (kA 7, 4, .inr (.inr (.inr (.inr (rr (g 3)))))))], [(g 3 j, .inr (0, [.ref a11, .int ((-1)), .ref a12, .ref a13, .ref a14, .ref a15, .ref a16, .int 0, .int 0, .int 0, .ref a17, .ref a18, .ref a19, .ref a20, .ref a21, .ref a22, .ref a23, .int 0, .int 0, .int 0, .int 0]))]], rfl, rfl, by rw [ht]; exact hP, va_K.moved hW.alike hK, hD⟩, hS.F ht⟩) hS.2.2 d_Ho_judge_24
set_option maxRecDepth 100000 in
set_option maxHeartbeats 4000000 in
/-- DrawingHouseModel.judge(II)J -/
theorem c_Mo_judge_z2 (l : Launch) (D : va_G) (kA : Nat → ClassId) (a0 : Nat) (j : Nat) (v2 : Int32) (qm : Nat → Nat) (hj : j < 4) : Cl l y_Mo_judge z_Mo_judge { frames := 3, cells := 0, slots := 0, locals := 63 } D classes (TY kA) [.ref a0, .int (nI j), .int v2] [[(a0, .inr (13, mF qm x0Mo y0Mo))], [(qm 61, .inl (kA 0, 4, .inl (upd (upd (upd (upd (fun _ => 0) 0 (-1)) 1 (-1)) 2 (-1)) 3 (-1))))]] (fun r (_ : List va_W) => r = -1) (fun u => u) 0 0 := by
  intro sz
  refine k_met (cc := b_Mo_judge) (maxL := 9) (ret := (some .long)) (by decide) rfl (Nat.le_of_ble_eq_true rfl) (fun p e s m below meth c ls X hl hB => ?_)
  obtain ⟨hsz, hP, hK, hD0, hN⟩ := hB
  subst hsz
  have hD := hD0.self (sz := s.heap.size)
  generalize hAe : va_A (cat [[(a0, .inr (13, mF qm x0Mo y0Mo))], [(qm 61, .inl (kA 0, 4, .inl (upd (upd (upd (upd (fun _ => 0) 0 (-1)) 1 (-1)) 2 (-1)) 3 (-1))))]]) s.heap.size = A at hD ⊢
  have hA : ∀ q : Nat, s.heap.size ≤ q → A q := fun q h => by rw [← hAe]; exact Or.inr h
  have hS : va_S A s.heap s.heap [] := va_S.rf
  obtain ⟨hx, hb, hml, hown, hts, hr, hlk, hnm⟩ := id X
  have hl : lv_has ls 9 [(0, .ref a0), (1, .int (nI j)), (2, .int v2)] := hl
  have hP : va_P D classes (cat [[(a0, .inr (13, mF qm x0Mo y0Mo))], [(qm 61, .inl (kA 0, 4, .inl (upd (upd (upd (upd (fun _ => 0) 0 (-1)) 1 (-1)) 2 (-1)) 3 (-1))))]]) s.heap := hP
  have hK : va_K D classes (TY kA) s := hK
  refine lv_aload_n (pc := 0) hx hb d_Mo_judge_0 rfl (lv_at hl 0 rfl) ?_
  refine lv_iload_n (pc := 1) hx hb d_Mo_judge_1 rfl (lv_at hl 1 rfl) ?_
  refine k_goI (gr := []) (k_rV (pc := 2) (As := [.int (nI j)]) (rest := []) X (c_Mo_isDrawn_z2 l D kA a0 j qm hj s.heap.size) rfl wm_3669 wm_9 wm_3666 wm_3668 wv_21_13 1 (by decide +kernel) ⟨Nat.le_of_ble_eq_true rfl, Nat.le_of_ble_eq_true rfl⟩ rfl rfl (va_recv hK hP (ci := 13) (q0 := 0) rfl rfl) (k_pre hN hK hP hD [0, 1] [] 2 rfl (by decide) rfl) rfl hl.1 rfl (Nat.le_of_ble_eq_true rfl) d_Mo_judge_2 ⟨Nat.le_of_ble_eq_true rfl, Nat.le_of_ble_eq_true rfl⟩) hP hD hS hA [0, 1] [] 2 rfl (by decide) rfl rfl (fun r1 u2 H locs hu2 hP hD hS => ?_)
  subst hu2
  have hP : va_P D classes (cat [[(a0, .inr (13, mF qm x0Mo y0Mo))], [(qm 61, .inl (kA 0, 4, .inl (upd (upd (upd (upd (fun _ => 0) 0 (-1)) 1 (-1)) 2 (-1)) 3 (-1))))]]) H := hP
  have hD : va_D A (cat [[(a0, .inr (13, mF qm x0Mo y0Mo))], [(qm 61, .inl (kA 0, 4, .inl (upd (upd (upd (upd (fun _ => 0) 0 (-1)) 1 (-1)) 2 (-1)) 3 (-1))))]]) := hD
  refine lv_if_eq (pc := 5) (tgt := 18) hx hb d_Mo_judge_5 (by decide) (fun c1 => ?_) (fun c1 => absurd (by decide) c1)
  refine lv_ldc2 (pc := 18) (v := -1) hx hb hown (hts _ wm_3625) d_Mo_judge_18 ?_
  refine W.widen (k := 0) (n := 0) (Nat.le_of_ble_eq_true rfl) (Nat.le_of_ble_eq_true rfl) ?_
  exact W.lret (v := (-1)) hx hb hr (fun t ht hW => ⟨⟨(-1), [[(a0, .inr (13, mF qm x0Mo y0Mo))], [(qm 61, .inl (kA 0, 4, .inl (upd (upd (upd (upd (fun _ => 0) 0 (-1)) 1 (-1)) 2 (-1)) 3 (-1))))]], rfl, rfl, by rw [ht]; exact hP, va_K.moved hW.alike hK, hD⟩, hS.F ht⟩) hS.2.2 d_Mo_judge_21
set_option maxRecDepth 100000 in
set_option maxHeartbeats 4000000 in
/-- judge, a fresh house -/
theorem lf_judge_2 {p : Program} {e : Env} {s : State} {m : MethodId} {below : List Frame} {meth : Method} {c : Code} (l : Launch) {b : Nat} {xs : Nat → Int32} (C0 : lw_At p s m meth c b 6 xs) {D : va_G} {kA : Nat → ClassId} (h : Nat) (h2 : Nat) (q : Nat → Nat) (qd : Nat → Nat) (qm : Nat → Nat) (g : Nat → Nat → Nat) (j : Nat) (v2 : Int32) (hj : j < 4) (hv1 : xs 1 = nI j) (hv2 : xs 2 = v2) {H : Heap} {locs : List Loc} {ls : Array Slot} (hK : va_K D classes (TY kA) s) (hN : nst s) (hP : va_P D classes (cat [[(h, .inr (12, [.ref (q 0), .ref (q 1), .ref (q 2), .ref (q 3), .ref (q 4), .ref (q 5), .ref (q 6), .int 0, .int ((-1)), .ref (q 9), .ref (q 10), .int 0, .int 0, .ref (q 13), .int 0, .int 0, .null, .null, .null, .null, .null]))], [(q 3, .inl (kA 7, 4, .inr (.inr (.inr (.inr (rr (g 3)))))))], [(g 3 j, .inr (0, [.ref (qd 0), .int ((-1)), .ref (qd 2), .ref (qd 3), .ref (qd 4), .ref (qd 5), .ref (qd 6), .int 0, .int 0, .int 0, .ref (qd 10), .ref (qd 11), .ref (qd 12), .ref (qd 13), .ref (qd 14), .ref (qd 15), .ref (qd 16), .int 0, .int 0, .int 0, .int 0]))], [(h2, .inr (13, mF qm x0Mo y0Mo))], [(qm 61, .inl (kA 0, 4, .inl (upd (upd (upd (upd (fun _ => 0) 0 (-1)) 1 (-1)) 2 (-1)) 3 (-1))))]]) H) (hD : va_D (fun q : Nat => s.heap.size ≤ q) (cat [[(h, .inr (12, [.ref (q 0), .ref (q 1), .ref (q 2), .ref (q 3), .ref (q 4), .ref (q 5), .ref (q 6), .int 0, .int ((-1)), .ref (q 9), .ref (q 10), .int 0, .int 0, .ref (q 13), .int 0, .int 0, .null, .null, .null, .null, .null]))], [(q 3, .inl (kA 7, 4, .inr (.inr (.inr (.inr (rr (g 3)))))))], [(g 3 j, .inr (0, [.ref (qd 0), .int ((-1)), .ref (qd 2), .ref (qd 3), .ref (qd 4), .ref (qd 5), .ref (qd 6), .int 0, .int 0, .int 0, .ref (qd 10), .ref (qd 11), .ref (qd 12), .ref (qd 13), .ref (qd 14), .ref (qd 15), .ref (qd 16), .int 0, .int 0, .int 0, .int 0]))], [(h2, .inr (13, mF qm x0Mo y0Mo))], [(qm 61, .inl (kA 0, 4, .inl (upd (upd (upd (upd (fun _ => 0) 0 (-1)) 1 (-1)) 2 (-1)) 3 (-1))))]])) (hS : va_S (fun q : Nat => s.heap.size ≤ q) s.heap H locs) (hl : lv_has ls 4 [(3, .int 0), (2, .ref h2), (1, .ref h), (0, .ref b)]) : W p l e room_1 s m #[Value.ref b] below meth c H locs 368 365796 (lw_Z below #[Value.ref b] s) (F0 m 1043 ls []) := by
  obtain ⟨hx, hb, hr, hml, hown, hts0, hX, hbl, hlocks, hgv⟩ := id C0
  have hts : ∀ w ∈ lw_g, w.before #[Value.ref b] s = true := fun w h => hts0 w (lw_gt h)
  have X : cx p s m #[Value.ref b] meth c b_law_law 4 ret "DrawingHouseLaw" meth.name := ⟨hx, hb, hml, hown, hts, hr, hlocks, rfl⟩
  obtain ⟨A, hAe⟩ : ∃ A : Nat → Prop, A = fun q : Nat => s.heap.size ≤ q := ⟨_, rfl⟩
  have hA : ∀ q : Nat, s.heap.size ≤ q → A q := fun q h => by rw [hAe]; exact h
  have hbA : ¬ A b := by rw [hAe]; exact Nat.not_le.mpr hbl
  rw [← hAe] at hD hS
  refine lv_aload_n (pc := 1043) hx hb d_law_law_1043 rfl (lv_at hl 2 rfl) ?_
  refine lv_aload_n (pc := 1044) hx hb d_law_law_1044 rfl (lv_at hl 3 rfl) ?_
  refine lv_iload_n (pc := 1045) hx hb d_law_law_1045 rfl (lv_at hl 0 rfl) ?_
  refine lv_iconst (pc := 1046) (v := 1) hx hb d_law_law_1046 (by decide) ?_
  refine lv_iadd (pc := 1047) hx hb d_law_law_1047 ?_
  refine k_cst (v := 1) (by decide) ?_
  refine va_sld (pc := 1048) hx hb hX hbl hbA hS (by unfold vp_in; decide) d_law_law_1048 ?_
  refine k_cst (v := nI j) hv1 ?_
  refine lv_aload_n (pc := 1049) hx hb d_law_law_1049 rfl (lv_at hl 3 rfl) ?_
  refine lv_iload_n (pc := 1050) hx hb d_law_law_1050 rfl (lv_at hl 0 rfl) ?_
  refine lv_iconst (pc := 1051) (v := 2) hx hb d_law_law_1051 (by decide) ?_
  refine lv_iadd (pc := 1052) hx hb d_law_law_1052 ?_
  refine k_cst (v := 2) (by decide) ?_
  refine va_sld (pc := 1053) hx hb hX hbl hbA hS (by unfold vp_in; decide) d_law_law_1053 ?_
  refine k_cst (v := v2) hv2 ?_
  refine k_goL (gr := [[(h2, .inr (13, mF qm x0Mo y0Mo))], [(qm 61, .inl (kA 0, 4, .inl (upd (upd (upd (upd (fun _ => 0) 0 (-1)) 1 (-1)) 2 (-1)) 3 (-1))))]]) (k_rV (pc := 1054) (As := [.int (nI j), .int v2]) (rest := []) X (c_Ho_judge_z2 l D kA h j v2 (q 0) (q 1) (q 2) (q 3) (q 4) (q 5) (q 6) (q 9) (q 10) (q 13) g (qd 0) (qd 2) (qd 3) (qd 4) (qd 5) (qd 6) (qd 10) (qd 11) (qd 12) (qd 13) (qd 14) (qd 15) (qd 16) hj H.size) rfl wm_2005 wm_1 wm_2002 wm_2003 wm_2004 2 (by decide +kernel) ⟨Nat.le_of_ble_eq_true rfl, Nat.le_of_ble_eq_true rfl⟩ rfl rfl (va_recv hK hP (ci := 12) (q0 := 0) rfl rfl) (k_pre hN hK hP hD [0, 1, 2] [3, 4] 5 rfl (by decide) rfl) rfl hl.1 rfl (Nat.le_of_ble_eq_true rfl) d_law_law_1054 ⟨Nat.le_of_ble_eq_true rfl, Nat.le_of_ble_eq_true rfl⟩) hP hD hS hA [0, 1, 2] [3, 4] 5 rfl (by decide) rfl rfl (fun r1 u2 H locs hu2 hP hD hS => ?_)
  obtain ⟨hP, hD⟩ := k_left hP hD
  subst hu2
  have hP : va_P D classes (cat [[(h2, .inr (13, mF qm x0Mo y0Mo))], [(qm 61, .inl (kA 0, 4, .inl (upd (upd (upd (upd (fun _ => 0) 0 (-1)) 1 (-1)) 2 (-1)) 3 (-1))))]]) H := hP
  have hD : va_D A (cat [[(h2, .inr (13, mF qm x0Mo y0Mo))], [(qm 61, .inl (kA 0, 4, .inl (upd (upd (upd (upd (fun _ => 0) 0 (-1)) 1 (-1)) 2 (-1)) 3 (-1))))]]) := hD
  refine lv_aload_n (pc := 1057) hx hb d_law_law_1057 rfl (lv_at hl 1 rfl) ?_
  refine lv_aload_n (pc := 1058) hx hb d_law_law_1058 rfl (lv_at hl 3 rfl) ?_
  refine lv_iload_n (pc := 1059) hx hb d_law_law_1059 rfl (lv_at hl 0 rfl) ?_
  refine lv_iconst (pc := 1060) (v := 1) hx hb d_law_law_1060 (by decide) ?_
  refine lv_iadd (pc := 1061) hx hb d_law_law_1061 ?_
  refine k_cst (v := 1) (by decide) ?_
  refine va_sld (pc := 1062) hx hb hX hbl hbA hS (by unfold vp_in; decide) d_law_law_1062 ?_
  refine k_cst (v := nI j) hv1 ?_
  refine lv_aload_n (pc := 1063) hx hb d_law_law_1063 rfl (lv_at hl 3 rfl) ?_
  refine lv_iload_n (pc := 1064) hx hb d_law_law_1064 rfl (lv_at hl 0 rfl) ?_
  refine lv_iconst (pc := 1065) (v := 2) hx hb d_law_law_1065 (by decide) ?_
  refine lv_iadd (pc := 1066) hx hb d_law_law_1066 ?_
  refine k_cst (v := 2) (by decide) ?_
  refine va_sld (pc := 1067) hx hb hX hbl hbA hS (by unfold vp_in; decide) d_law_law_1067 ?_
  refine k_cst (v := v2) hv2 ?_
  refine k_goL (gr := []) (k_rV (pc := 1068) (As := [.int (nI j), .int v2]) (rest := [.long (-1)]) X (c_Mo_judge_z2 l D kA h2 j v2 qm hj H.size) rfl wm_3738 wm_9 wm_3735 wm_3736 wm_3737 2 (by decide +kernel) ⟨Nat.le_of_ble_eq_true rfl, Nat.le_of_ble_eq_true rfl⟩ rfl rfl (va_recv hK hP (ci := 13) (q0 := 0) rfl rfl) (k_pre hN hK hP hD [0, 1] [] 2 rfl (by decide) rfl) rfl hl.1 rfl (Nat.le_of_ble_eq_true rfl) d_law_law_1068 ⟨Nat.le_of_ble_eq_true rfl, Nat.le_of_ble_eq_true rfl⟩) hP hD hS hA [0, 1] [] 2 rfl (by decide) rfl rfl (fun r3 u4 H locs hu4 hP hD hS => ?_)
  obtain ⟨hP, hD⟩ := k_left hP hD
  subst hu4
  have hP : va_P D classes (cat []) H := hP
  have hD : va_D A (cat []) := hD
  refine W.lcmp (pc := 1071) hx hb d_law_law_1071 ?_
  refine k_cst (v := 0) (by decide) ?_
  refine lv_if_eq (pc := 1072) (tgt := 1295) hx hb d_law_law_1072 (by decide) (fun c1 => ?_) (fun c1 => absurd (by decide) c1)
  rw [hAe] at hS
  exact law_exit l C0 (Nat.le_of_ble_eq_true rfl) (Nat.le_of_ble_eq_true rfl) hS hl
set_option maxRecDepth 100000 in
set_option maxHeartbeats 8000000 in
/-- at: the case of the law -/
theorem op_at {p : Program} {e : Env} {s : State} {m : MethodId} {below : List Frame} {meth : Method} {c : Code} (l : Launch) {b : Nat} {xs : Nat → Int32} (C0 : lw_At p s m meth c b 6 xs) {D : va_G} {kA : Nat → ClassId} (h h2 : Nat) (u1 : Nat → Nat → Nat) (qm : Nat → Nat) (v1 : Int32) (v2 : Int32) (v3 : Int32) (v4 : Int32) (hv1 : xs 1 = v1) (hv2 : xs 2 = v2) (hv3 : xs 3 = v3) (hv4 : xs 4 = v4) {H : Heap} {locs : List Loc} {ls : Array Slot} (hK : va_K D classes (TY kA) s) (hN : nst s) (hpost : u1 50 1 = u1 0 4 ∧ u1 50 3 = u1 0 5 ∧ u1 50 2 = u1 1 4 ∧ u1 50 4 = u1 3 1 ∧ u1 8 0 = u1 50 5 ∧ u1 12 0 = u1 50 9 ∧ u1 16 0 = u1 50 13 ∧ u1 20 0 = u1 50 17) (hP : va_P D classes (cat [cat (sHo kA h u1), cat (sMo kA h2 qm)]) H) (hD : va_D (fun q : Nat => s.heap.size ≤ q) (cat [cat (sHo kA h u1), cat (sMo kA h2 qm)])) (hS : va_S (fun q : Nat => s.heap.size ≤ q) s.heap H locs) (hl : lv_has ls 4 [(3, .int 0), (2, .ref h2), (1, .ref h), (0, .ref b)]) : W p l e room_1 s m #[Value.ref b] below meth c H locs 368 365796 (lw_Z below #[Value.ref b] s) (F0 m 808 ls []) := by
  rcases place_no v1 with hg | ⟨j, hj, ej⟩
  · have hgM : sp_Mo_isPlace v1 = 0 := by rw [← place_iff]; exact hg
    obtain ⟨q, qg, qf, qn, qd, qr, qs, qe, qp, g, hP, hD⟩ := big (j := 0) (by decide) hpost hP hD
    obtain ⟨hP, hD⟩ := k_drop (sg := bH kA h q qg qf qn qd qr qs qe qp g 0 ++ bM kA h2 qm) (gc := [[(h, .inr (12, [.ref (q 0), .ref (q 1), .ref (q 2), .ref (q 3), .ref (q 4), .ref (q 5), .ref (q 6), .int 0, .int ((-1)), .ref (q 9), .ref (q 10), .int 0, .int 0, .ref (q 13), .int 0, .int 0, .null, .null, .null, .null, .null]))], [(h2, .inr (13, mF qm x0Mo y0Mo))]]) hP hD [1, 2, 3, 4, 5, 6, 7, 8, 9, 10, 11, 12, 13, 14, 15, 16, 17, 18, 19, 20, 21, 22, 23, 24, 25, 26, 27, 28, 29, 30, 31, 32, 33, 34, 35, 36, 37, 38, 39, 40, 41, 42, 43, 44, 45, 46, 47, 48, 49, 50, 51, 52, 53, 54, 55, 56, 57, 58, 59, 60, 61, 62, 63, 64, 65, 66, 67, 68, 69, 70, 71, 72, 73, 74, 75, 76, 77, 78, 79, 80, 81, 82, 83, 84, 85, 86, 87, 88, 89, 90, 91, 92, 93, 94, 95, 96, 97, 98, 100, 101, 102, 103, 104, 105, 106, 107, 108, 109, 110, 111, 112, 113, 114, 115, 116, 117, 118, 119, 120, 121, 122, 123, 124, 125, 126, 127, 128, 129, 130, 131, 132, 133, 134, 135, 136, 137, 138, 139, 140, 141, 142, 143, 144, 145, 146, 147, 148, 149, 150, 151, 152, 153, 154, 155, 156, 157, 158, 159, 160, 161, 162, 163, 164, 165, 166, 167, 168, 169, 170, 171, 172, 173, 174, 175, 176, 177, 178, 179, 180, 181, 182, 183, 184, 185, 186, 187, 188, 189, 190, 191, 192, 193, 194, 195, 196, 197, 198, 199, 200, 201, 202, 203, 204, 205, 206, 207, 208, 209, 210, 211, 212, 213, 214, 215, 216, 217] [0, 99] 218 rfl (by decide +kernel) rfl
    exact lf_at_1 l C0 h h2 q qm v1 v2 v3 v4 hg hgM hv1 hv2 hv3 hv4 hK hN hP hD hS hl
  · subst ej
    obtain ⟨q, qg, qf, qn, qd, qr, qs, qe, qp, g, hP, hD⟩ := big (j := j) hj hpost hP hD
    obtain ⟨hP, hD⟩ := k_drop (sg := bH kA h q qg qf qn qd qr qs qe qp g j ++ bM kA h2 qm) (gc := [[(h, .inr (12, [.ref (q 0), .ref (q 1), .ref (q 2), .ref (q 3), .ref (q 4), .ref (q 5), .ref (q 6), .int 0, .int ((-1)), .ref (q 9), .ref (q 10), .int 0, .int 0, .ref (q 13), .int 0, .int 0, .null, .null, .null, .null, .null]))], [(q 3, .inl (kA 7, 4, .inr (.inr (.inr (.inr (rr (g 3)))))))], [(g 3 j, .inr (0, [.ref (qd 0), .int ((-1)), .ref (qd 2), .ref (qd 3), .ref (qd 4), .ref (qd 5), .ref (qd 6), .int 0, .int 0, .int 0, .ref (qd 10), .ref (qd 11), .ref (qd 12), .ref (qd 13), .ref (qd 14), .ref (qd 15), .ref (qd 16), .int 0, .int 0, .int 0, .int 0]))], [(h2, .inr (13, mF qm x0Mo y0Mo))], [(qm 61, .inl (kA 0, 4, .inl (upd (upd (upd (upd (fun _ => 0) 0 (-1)) 1 (-1)) 2 (-1)) 3 (-1))))]]) hP hD [1, 2, 3, 5, 6, 7, 8, 9, 10, 11, 12, 13, 14, 15, 16, 17, 18, 19, 20, 21, 22, 23, 24, 25, 26, 27, 28, 29, 30, 31, 32, 33, 34, 35, 36, 37, 38, 39, 40, 41, 42, 43, 44, 45, 47, 48, 49, 50, 51, 52, 53, 54, 55, 56, 57, 58, 59, 60, 61, 62, 63, 64, 65, 66, 67, 68, 69, 70, 71, 72, 73, 74, 75, 76, 77, 78, 79, 80, 81, 82, 83, 84, 85, 86, 87, 88, 89, 90, 91, 92, 93, 94, 95, 96, 97, 98, 100, 101, 102, 103, 104, 105, 106, 107, 108, 109, 110, 111, 112, 113, 114, 115, 116, 117, 118, 119, 120, 121, 122, 123, 124, 125, 126, 127, 128, 129, 130, 131, 132, 133, 134, 135, 136, 137, 138, 140, 141, 142, 143, 144, 145, 146, 147, 148, 149, 150, 151, 152, 153, 154, 155, 156, 157, 158, 159, 160, 161, 162, 163, 164, 165, 166, 167, 168, 169, 170, 171, 172, 173, 174, 175, 176, 177, 178, 179, 180, 181, 182, 183, 184, 185, 186, 187, 188, 189, 190, 191, 192, 193, 194, 195, 196, 197, 198, 199, 200, 201, 202, 203, 204, 205, 206, 207, 208, 209, 210, 211, 212, 213, 214, 215, 216, 217] [0, 4, 46, 99, 139] 218 rfl (by decide +kernel) rfl
    exact lf_at_2 l C0 h h2 q qd qm g j v2 v3 v4 hj hv1 hv2 hv3 hv4 hK hN hP hD hS hl
set_option maxRecDepth 100000 in
set_option maxHeartbeats 8000000 in
/-- told: the case of the law -/
theorem op_told {p : Program} {e : Env} {s : State} {m : MethodId} {below : List Frame} {meth : Method} {c : Code} (l : Launch) {b : Nat} {xs : Nat → Int32} (C0 : lw_At p s m meth c b 6 xs) {D : va_G} {kA : Nat → ClassId} (h h2 : Nat) (u1 : Nat → Nat → Nat) (qm : Nat → Nat) (v1 : Int32) (v2 : Int32) (v3 : Int32) (hv1 : xs 1 = v1) (hv2 : xs 2 = v2) (hv3 : xs 3 = v3) {H : Heap} {locs : List Loc} {ls : Array Slot} (hK : va_K D classes (TY kA) s) (hN : nst s) (hpost : u1 50 1 = u1 0 4 ∧ u1 50 3 = u1 0 5 ∧ u1 50 2 = u1 1 4 ∧ u1 50 4 = u1 3 1 ∧ u1 8 0 = u1 50 5 ∧ u1 12 0 = u1 50 9 ∧ u1 16 0 = u1 50 13 ∧ u1 20 0 = u1 50 17) (hP : va_P D classes (cat [cat (sHo kA h u1), cat (sMo kA h2 qm)]) H) (hD : va_D (fun q : Nat => s.heap.size ≤ q) (cat [cat (sHo kA h u1), cat (sMo kA h2 qm)])) (hS : va_S (fun q : Nat => s.heap.size ≤ q) s.heap H locs) (hl : lv_has ls 4 [(3, .int 0), (2, .ref h2), (1, .ref h), (0, .ref b)]) : W p l e room_1 s m #[Value.ref b] below meth c H locs 368 365796 (lw_Z below #[Value.ref b] s) (F0 m 861 ls []) := by
  rcases place_no v1 with hg | ⟨j, hj, ej⟩
  · have hgM : sp_Mo_isPlace v1 = 0 := by rw [← place_iff]; exact hg
    obtain ⟨q, qg, qf, qn, qd, qr, qs, qe, qp, g, hP, hD⟩ := big (j := 0) (by decide) hpost hP hD
    obtain ⟨hP, hD⟩ := k_drop (sg := bH kA h q qg qf qn qd qr qs qe qp g 0 ++ bM kA h2 qm) (gc := [[(h, .inr (12, [.ref (q 0), .ref (q 1), .ref (q 2), .ref (q 3), .ref (q 4), .ref (q 5), .ref (q 6), .int 0, .int ((-1)), .ref (q 9), .ref (q 10), .int 0, .int 0, .ref (q 13), .int 0, .int 0, .null, .null, .null, .null, .null]))], [(h2, .inr (13, mF qm x0Mo y0Mo))]]) hP hD [1, 2, 3, 4, 5, 6, 7, 8, 9, 10, 11, 12, 13, 14, 15, 16, 17, 18, 19, 20, 21, 22, 23, 24, 25, 26, 27, 28, 29, 30, 31, 32, 33, 34, 35, 36, 37, 38, 39, 40, 41, 42, 43, 44, 45, 46, 47, 48, 49, 50, 51, 52, 53, 54, 55, 56, 57, 58, 59, 60, 61, 62, 63, 64, 65, 66, 67, 68, 69, 70, 71, 72, 73, 74, 75, 76, 77, 78, 79, 80, 81, 82, 83, 84, 85, 86, 87, 88, 89, 90, 91, 92, 93, 94, 95, 96, 97, 98, 100, 101, 102, 103, 104, 105, 106, 107, 108, 109, 110, 111, 112, 113, 114, 115, 116, 117, 118, 119, 120, 121, 122, 123, 124, 125, 126, 127, 128, 129, 130, 131, 132, 133, 134, 135, 136, 137, 138, 139, 140, 141, 142, 143, 144, 145, 146, 147, 148, 149, 150, 151, 152, 153, 154, 155, 156, 157, 158, 159, 160, 161, 162, 163, 164, 165, 166, 167, 168, 169, 170, 171, 172, 173, 174, 175, 176, 177, 178, 179, 180, 181, 182, 183, 184, 185, 186, 187, 188, 189, 190, 191, 192, 193, 194, 195, 196, 197, 198, 199, 200, 201, 202, 203, 204, 205, 206, 207, 208, 209, 210, 211, 212, 213, 214, 215, 216, 217] [0, 99] 218 rfl (by decide +kernel) rfl
    exact lf_told_1 l C0 h h2 q qm v1 v2 v3 hg hgM hv1 hv2 hv3 hK hN hP hD hS hl
  · subst ej
    obtain ⟨q, qg, qf, qn, qd, qr, qs, qe, qp, g, hP, hD⟩ := big (j := j) hj hpost hP hD
    obtain ⟨hP, hD⟩ := k_drop (sg := bH kA h q qg qf qn qd qr qs qe qp g j ++ bM kA h2 qm) (gc := [[(h, .inr (12, [.ref (q 0), .ref (q 1), .ref (q 2), .ref (q 3), .ref (q 4), .ref (q 5), .ref (q 6), .int 0, .int ((-1)), .ref (q 9), .ref (q 10), .int 0, .int 0, .ref (q 13), .int 0, .int 0, .null, .null, .null, .null, .null]))], [(q 3, .inl (kA 7, 4, .inr (.inr (.inr (.inr (rr (g 3)))))))], [(g 3 j, .inr (0, [.ref (qd 0), .int ((-1)), .ref (qd 2), .ref (qd 3), .ref (qd 4), .ref (qd 5), .ref (qd 6), .int 0, .int 0, .int 0, .ref (qd 10), .ref (qd 11), .ref (qd 12), .ref (qd 13), .ref (qd 14), .ref (qd 15), .ref (qd 16), .int 0, .int 0, .int 0, .int 0]))], [(h2, .inr (13, mF qm x0Mo y0Mo))], [(qm 61, .inl (kA 0, 4, .inl (upd (upd (upd (upd (fun _ => 0) 0 (-1)) 1 (-1)) 2 (-1)) 3 (-1))))]]) hP hD [1, 2, 3, 5, 6, 7, 8, 9, 10, 11, 12, 13, 14, 15, 16, 17, 18, 19, 20, 21, 22, 23, 24, 25, 26, 27, 28, 29, 30, 31, 32, 33, 34, 35, 36, 37, 38, 39, 40, 41, 42, 43, 44, 45, 47, 48, 49, 50, 51, 52, 53, 54, 55, 56, 57, 58, 59, 60, 61, 62, 63, 64, 65, 66, 67, 68, 69, 70, 71, 72, 73, 74, 75, 76, 77, 78, 79, 80, 81, 82, 83, 84, 85, 86, 87, 88, 89, 90, 91, 92, 93, 94, 95, 96, 97, 98, 100, 101, 102, 103, 104, 105, 106, 107, 108, 109, 110, 111, 112, 113, 114, 115, 116, 117, 118, 119, 120, 121, 122, 123, 124, 125, 126, 127, 128, 129, 130, 131, 132, 133, 134, 135, 136, 137, 138, 140, 141, 142, 143, 144, 145, 146, 147, 148, 149, 150, 151, 152, 153, 154, 155, 156, 157, 158, 159, 160, 161, 162, 163, 164, 165, 166, 167, 168, 169, 170, 171, 172, 173, 174, 175, 176, 177, 178, 179, 180, 181, 182, 183, 184, 185, 186, 187, 188, 189, 190, 191, 192, 193, 194, 195, 196, 197, 198, 199, 200, 201, 202, 203, 204, 205, 206, 207, 208, 209, 210, 211, 212, 213, 214, 215, 216, 217] [0, 4, 46, 99, 139] 218 rfl (by decide +kernel) rfl
    exact lf_told_2 l C0 h h2 q qd qm g j v2 v3 hj hv1 hv2 hv3 hK hN hP hD hS hl
set_option maxRecDepth 100000 in
set_option maxHeartbeats 8000000 in
/-- put: the case of the law -/
theorem op_put {p : Program} {e : Env} {s : State} {m : MethodId} {below : List Frame} {meth : Method} {c : Code} (l : Launch) {b : Nat} {xs : Nat → Int32} (C0 : lw_At p s m meth c b 6 xs) {D : va_G} {kA : Nat → ClassId} (h h2 : Nat) (u1 : Nat → Nat → Nat) (qm : Nat → Nat) (v1 : Int32) (v2 : Int32) (v3 : Int32) (v4 : Int32) (v5 : Int32) (hv1 : xs 1 = v1) (hv2 : xs 2 = v2) (hv3 : xs 3 = v3) (hv4 : xs 4 = v4) (hv5 : xs 5 = v5) {H : Heap} {locs : List Loc} {ls : Array Slot} (hK : va_K D classes (TY kA) s) (hN : nst s) (hpost : u1 50 1 = u1 0 4 ∧ u1 50 3 = u1 0 5 ∧ u1 50 2 = u1 1 4 ∧ u1 50 4 = u1 3 1 ∧ u1 8 0 = u1 50 5 ∧ u1 12 0 = u1 50 9 ∧ u1 16 0 = u1 50 13 ∧ u1 20 0 = u1 50 17) (hP : va_P D classes (cat [cat (sHo kA h u1), cat (sMo kA h2 qm)]) H) (hD : va_D (fun q : Nat => s.heap.size ≤ q) (cat [cat (sHo kA h u1), cat (sMo kA h2 qm)])) (hS : va_S (fun q : Nat => s.heap.size ≤ q) s.heap H locs) (hl : lv_has ls 4 [(3, .int 0), (2, .ref h2), (1, .ref h), (0, .ref b)]) : W p l e room_1 s m #[Value.ref b] below meth c H locs 368 365796 (lw_Z below #[Value.ref b] s) (F0 m 904 ls []) := by
  rcases place_no v1 with hg | ⟨j, hj, ej⟩
  · have hgM : sp_Mo_isPlace v1 = 0 := by rw [← place_iff]; exact hg
    obtain ⟨q, qg, qf, qn, qd, qr, qs, qe, qp, g, hP, hD⟩ := big (j := 0) (by decide) hpost hP hD
    obtain ⟨hP, hD⟩ := k_drop (sg := bH kA h q qg qf qn qd qr qs qe qp g 0 ++ bM kA h2 qm) (gc := [[(h, .inr (12, [.ref (q 0), .ref (q 1), .ref (q 2), .ref (q 3), .ref (q 4), .ref (q 5), .ref (q 6), .int 0, .int ((-1)), .ref (q 9), .ref (q 10), .int 0, .int 0, .ref (q 13), .int 0, .int 0, .null, .null, .null, .null, .null]))], [(h2, .inr (13, mF qm x0Mo y0Mo))]]) hP hD [1, 2, 3, 4, 5, 6, 7, 8, 9, 10, 11, 12, 13, 14, 15, 16, 17, 18, 19, 20, 21, 22, 23, 24, 25, 26, 27, 28, 29, 30, 31, 32, 33, 34, 35, 36, 37, 38, 39, 40, 41, 42, 43, 44, 45, 46, 47, 48, 49, 50, 51, 52, 53, 54, 55, 56, 57, 58, 59, 60, 61, 62, 63, 64, 65, 66, 67, 68, 69, 70, 71, 72, 73, 74, 75, 76, 77, 78, 79, 80, 81, 82, 83, 84, 85, 86, 87, 88, 89, 90, 91, 92, 93, 94, 95, 96, 97, 98, 100, 101, 102, 103, 104, 105, 106, 107, 108, 109, 110, 111, 112, 113, 114, 115, 116, 117, 118, 119, 120, 121, 122, 123, 124, 125, 126, 127, 128, 129, 130, 131, 132, 133, 134, 135, 136, 137, 138, 139, 140, 141, 142, 143, 144, 145, 146, 147, 148, 149, 150, 151, 152, 153, 154, 155, 156, 157, 158, 159, 160, 161, 162, 163, 164, 165, 166, 167, 168, 169, 170, 171, 172, 173, 174, 175, 176, 177, 178, 179, 180, 181, 182, 183, 184, 185, 186, 187, 188, 189, 190, 191, 192, 193, 194, 195, 196, 197, 198, 199, 200, 201, 202, 203, 204, 205, 206, 207, 208, 209, 210, 211, 212, 213, 214, 215, 216, 217] [0, 99] 218 rfl (by decide +kernel) rfl
    exact lf_put_1 l C0 h h2 q qm v1 v2 v3 v4 v5 hg hgM hv1 hv2 hv3 hv4 hv5 hK hN hP hD hS hl
  · subst ej
    obtain ⟨q, qg, qf, qn, qd, qr, qs, qe, qp, g, hP, hD⟩ := big (j := j) hj hpost hP hD
    obtain ⟨hP, hD⟩ := k_drop (sg := bH kA h q qg qf qn qd qr qs qe qp g j ++ bM kA h2 qm) (gc := [[(h, .inr (12, [.ref (q 0), .ref (q 1), .ref (q 2), .ref (q 3), .ref (q 4), .ref (q 5), .ref (q 6), .int 0, .int ((-1)), .ref (q 9), .ref (q 10), .int 0, .int 0, .ref (q 13), .int 0, .int 0, .null, .null, .null, .null, .null]))], [(q 3, .inl (kA 7, 4, .inr (.inr (.inr (.inr (rr (g 3)))))))], [(g 3 j, .inr (0, [.ref (qd 0), .int ((-1)), .ref (qd 2), .ref (qd 3), .ref (qd 4), .ref (qd 5), .ref (qd 6), .int 0, .int 0, .int 0, .ref (qd 10), .ref (qd 11), .ref (qd 12), .ref (qd 13), .ref (qd 14), .ref (qd 15), .ref (qd 16), .int 0, .int 0, .int 0, .int 0]))], [(h2, .inr (13, mF qm x0Mo y0Mo))], [(qm 61, .inl (kA 0, 4, .inl (upd (upd (upd (upd (fun _ => 0) 0 (-1)) 1 (-1)) 2 (-1)) 3 (-1))))]]) hP hD [1, 2, 3, 5, 6, 7, 8, 9, 10, 11, 12, 13, 14, 15, 16, 17, 18, 19, 20, 21, 22, 23, 24, 25, 26, 27, 28, 29, 30, 31, 32, 33, 34, 35, 36, 37, 38, 39, 40, 41, 42, 43, 44, 45, 47, 48, 49, 50, 51, 52, 53, 54, 55, 56, 57, 58, 59, 60, 61, 62, 63, 64, 65, 66, 67, 68, 69, 70, 71, 72, 73, 74, 75, 76, 77, 78, 79, 80, 81, 82, 83, 84, 85, 86, 87, 88, 89, 90, 91, 92, 93, 94, 95, 96, 97, 98, 100, 101, 102, 103, 104, 105, 106, 107, 108, 109, 110, 111, 112, 113, 114, 115, 116, 117, 118, 119, 120, 121, 122, 123, 124, 125, 126, 127, 128, 129, 130, 131, 132, 133, 134, 135, 136, 137, 138, 140, 141, 142, 143, 144, 145, 146, 147, 148, 149, 150, 151, 152, 153, 154, 155, 156, 157, 158, 159, 160, 161, 162, 163, 164, 165, 166, 167, 168, 169, 170, 171, 172, 173, 174, 175, 176, 177, 178, 179, 180, 181, 182, 183, 184, 185, 186, 187, 188, 189, 190, 191, 192, 193, 194, 195, 196, 197, 198, 199, 200, 201, 202, 203, 204, 205, 206, 207, 208, 209, 210, 211, 212, 213, 214, 215, 216, 217] [0, 4, 46, 99, 139] 218 rfl (by decide +kernel) rfl
    exact lf_put_2 l C0 h h2 q qd qm g j v2 v3 v4 v5 hj hv1 hv2 hv3 hv4 hv5 hK hN hP hD hS hl
set_option maxRecDepth 100000 in
set_option maxHeartbeats 8000000 in
/-- route: the case of the law -/
theorem op_route {p : Program} {e : Env} {s : State} {m : MethodId} {below : List Frame} {meth : Method} {c : Code} (l : Launch) {b : Nat} {xs : Nat → Int32} (C0 : lw_At p s m meth c b 6 xs) {D : va_G} {kA : Nat → ClassId} (h h2 : Nat) (u1 : Nat → Nat → Nat) (qm : Nat → Nat) (v1 : Int32) (v2 : Int32) (hv1 : xs 1 = v1) (hv2 : xs 2 = v2) {H : Heap} {locs : List Loc} {ls : Array Slot} (hK : va_K D classes (TY kA) s) (hN : nst s) (hpost : u1 50 1 = u1 0 4 ∧ u1 50 3 = u1 0 5 ∧ u1 50 2 = u1 1 4 ∧ u1 50 4 = u1 3 1 ∧ u1 8 0 = u1 50 5 ∧ u1 12 0 = u1 50 9 ∧ u1 16 0 = u1 50 13 ∧ u1 20 0 = u1 50 17) (hP : va_P D classes (cat [cat (sHo kA h u1), cat (sMo kA h2 qm)]) H) (hD : va_D (fun q : Nat => s.heap.size ≤ q) (cat [cat (sHo kA h u1), cat (sMo kA h2 qm)])) (hS : va_S (fun q : Nat => s.heap.size ≤ q) s.heap H locs) (hl : lv_has ls 4 [(3, .int 0), (2, .ref h2), (1, .ref h), (0, .ref b)]) : W p l e room_1 s m #[Value.ref b] below meth c H locs 368 365796 (lw_Z below #[Value.ref b] s) (F0 m 967 ls []) := by
  rcases place_no v1 with hg | ⟨j, hj, ej⟩
  · have hgM : sp_Mo_isPlace v1 = 0 := by rw [← place_iff]; exact hg
    obtain ⟨q, qg, qf, qn, qd, qr, qs, qe, qp, g, hP, hD⟩ := big (j := 0) (by decide) hpost hP hD
    obtain ⟨hP, hD⟩ := k_drop (sg := bH kA h q qg qf qn qd qr qs qe qp g 0 ++ bM kA h2 qm) (gc := [[(h, .inr (12, [.ref (q 0), .ref (q 1), .ref (q 2), .ref (q 3), .ref (q 4), .ref (q 5), .ref (q 6), .int 0, .int ((-1)), .ref (q 9), .ref (q 10), .int 0, .int 0, .ref (q 13), .int 0, .int 0, .null, .null, .null, .null, .null]))], [(h2, .inr (13, mF qm x0Mo y0Mo))]]) hP hD [1, 2, 3, 4, 5, 6, 7, 8, 9, 10, 11, 12, 13, 14, 15, 16, 17, 18, 19, 20, 21, 22, 23, 24, 25, 26, 27, 28, 29, 30, 31, 32, 33, 34, 35, 36, 37, 38, 39, 40, 41, 42, 43, 44, 45, 46, 47, 48, 49, 50, 51, 52, 53, 54, 55, 56, 57, 58, 59, 60, 61, 62, 63, 64, 65, 66, 67, 68, 69, 70, 71, 72, 73, 74, 75, 76, 77, 78, 79, 80, 81, 82, 83, 84, 85, 86, 87, 88, 89, 90, 91, 92, 93, 94, 95, 96, 97, 98, 100, 101, 102, 103, 104, 105, 106, 107, 108, 109, 110, 111, 112, 113, 114, 115, 116, 117, 118, 119, 120, 121, 122, 123, 124, 125, 126, 127, 128, 129, 130, 131, 132, 133, 134, 135, 136, 137, 138, 139, 140, 141, 142, 143, 144, 145, 146, 147, 148, 149, 150, 151, 152, 153, 154, 155, 156, 157, 158, 159, 160, 161, 162, 163, 164, 165, 166, 167, 168, 169, 170, 171, 172, 173, 174, 175, 176, 177, 178, 179, 180, 181, 182, 183, 184, 185, 186, 187, 188, 189, 190, 191, 192, 193, 194, 195, 196, 197, 198, 199, 200, 201, 202, 203, 204, 205, 206, 207, 208, 209, 210, 211, 212, 213, 214, 215, 216, 217] [0, 99] 218 rfl (by decide +kernel) rfl
    exact lf_route_1 l C0 h h2 q qm v1 v2 hg hgM hv1 hv2 hK hN hP hD hS hl
  · subst ej
    obtain ⟨q, qg, qf, qn, qd, qr, qs, qe, qp, g, hP, hD⟩ := big (j := j) hj hpost hP hD
    obtain ⟨hP, hD⟩ := k_drop (sg := bH kA h q qg qf qn qd qr qs qe qp g j ++ bM kA h2 qm) (gc := [[(h, .inr (12, [.ref (q 0), .ref (q 1), .ref (q 2), .ref (q 3), .ref (q 4), .ref (q 5), .ref (q 6), .int 0, .int ((-1)), .ref (q 9), .ref (q 10), .int 0, .int 0, .ref (q 13), .int 0, .int 0, .null, .null, .null, .null, .null]))], [(q 3, .inl (kA 7, 4, .inr (.inr (.inr (.inr (rr (g 3)))))))], [(g 3 j, .inr (0, [.ref (qd 0), .int ((-1)), .ref (qd 2), .ref (qd 3), .ref (qd 4), .ref (qd 5), .ref (qd 6), .int 0, .int 0, .int 0, .ref (qd 10), .ref (qd 11), .ref (qd 12), .ref (qd 13), .ref (qd 14), .ref (qd 15), .ref (qd 16), .int 0, .int 0, .int 0, .int 0]))], [(h2, .inr (13, mF qm x0Mo y0Mo))], [(qm 61, .inl (kA 0, 4, .inl (upd (upd (upd (upd (fun _ => 0) 0 (-1)) 1 (-1)) 2 (-1)) 3 (-1))))]]) hP hD [1, 2, 3, 5, 6, 7, 8, 9, 10, 11, 12, 13, 14, 15, 16, 17, 18, 19, 20, 21, 22, 23, 24, 25, 26, 27, 28, 29, 30, 31, 32, 33, 34, 35, 36, 37, 38, 39, 40, 41, 42, 43, 44, 45, 47, 48, 49, 50, 51, 52, 53, 54, 55, 56, 57, 58, 59, 60, 61, 62, 63, 64, 65, 66, 67, 68, 69, 70, 71, 72, 73, 74, 75, 76, 77, 78, 79, 80, 81, 82, 83, 84, 85, 86, 87, 88, 89, 90, 91, 92, 93, 94, 95, 96, 97, 98, 100, 101, 102, 103, 104, 105, 106, 107, 108, 109, 110, 111, 112, 113, 114, 115, 116, 117, 118, 119, 120, 121, 122, 123, 124, 125, 126, 127, 128, 129, 130, 131, 132, 133, 134, 135, 136, 137, 138, 140, 141, 142, 143, 144, 145, 146, 147, 148, 149, 150, 151, 152, 153, 154, 155, 156, 157, 158, 159, 160, 161, 162, 163, 164, 165, 166, 167, 168, 169, 170, 171, 172, 173, 174, 175, 176, 177, 178, 179, 180, 181, 182, 183, 184, 185, 186, 187, 188, 189, 190, 191, 192, 193, 194, 195, 196, 197, 198, 199, 200, 201, 202, 203, 204, 205, 206, 207, 208, 209, 210, 211, 212, 213, 214, 215, 216, 217] [0, 4, 46, 99, 139] 218 rfl (by decide +kernel) rfl
    exact lf_route_2 l C0 h h2 q qd qm g j v2 hj hv1 hv2 hK hN hP hD hS hl
set_option maxRecDepth 100000 in
set_option maxHeartbeats 8000000 in
/-- label: the case of the law -/
theorem op_label {p : Program} {e : Env} {s : State} {m : MethodId} {below : List Frame} {meth : Method} {c : Code} (l : Launch) {b : Nat} {xs : Nat → Int32} (C0 : lw_At p s m meth c b 6 xs) {D : va_G} {kA : Nat → ClassId} (h h2 : Nat) (u1 : Nat → Nat → Nat) (qm : Nat → Nat) (v1 : Int32) (v2 : Int32) (v3 : Int32) (hv1 : xs 1 = v1) (hv2 : xs 2 = v2) (hv3 : xs 3 = v3) {H : Heap} {locs : List Loc} {ls : Array Slot} (hK : va_K D classes (TY kA) s) (hN : nst s) (hpost : u1 50 1 = u1 0 4 ∧ u1 50 3 = u1 0 5 ∧ u1 50 2 = u1 1 4 ∧ u1 50 4 = u1 3 1 ∧ u1 8 0 = u1 50 5 ∧ u1 12 0 = u1 50 9 ∧ u1 16 0 = u1 50 13 ∧ u1 20 0 = u1 50 17) (hP : va_P D classes (cat [cat (sHo kA h u1), cat (sMo kA h2 qm)]) H) (hD : va_D (fun q : Nat => s.heap.size ≤ q) (cat [cat (sHo kA h u1), cat (sMo kA h2 qm)])) (hS : va_S (fun q : Nat => s.heap.size ≤ q) s.heap H locs) (hl : lv_has ls 4 [(3, .int 0), (2, .ref h2), (1, .ref h), (0, .ref b)]) : W p l e room_1 s m #[Value.ref b] below meth c H locs 368 365796 (lw_Z below #[Value.ref b] s) (F0 m 1000 ls []) := by
  rcases place_no v1 with hg | ⟨j, hj, ej⟩
  · have hgM : sp_Mo_isPlace v1 = 0 := by rw [← place_iff]; exact hg
    obtain ⟨q, qg, qf, qn, qd, qr, qs, qe, qp, g, hP, hD⟩ := big (j := 0) (by decide) hpost hP hD
    obtain ⟨hP, hD⟩ := k_drop (sg := bH kA h q qg qf qn qd qr qs qe qp g 0 ++ bM kA h2 qm) (gc := [[(h, .inr (12, [.ref (q 0), .ref (q 1), .ref (q 2), .ref (q 3), .ref (q 4), .ref (q 5), .ref (q 6), .int 0, .int ((-1)), .ref (q 9), .ref (q 10), .int 0, .int 0, .ref (q 13), .int 0, .int 0, .null, .null, .null, .null, .null]))], [(h2, .inr (13, mF qm x0Mo y0Mo))]]) hP hD [1, 2, 3, 4, 5, 6, 7, 8, 9, 10, 11, 12, 13, 14, 15, 16, 17, 18, 19, 20, 21, 22, 23, 24, 25, 26, 27, 28, 29, 30, 31, 32, 33, 34, 35, 36, 37, 38, 39, 40, 41, 42, 43, 44, 45, 46, 47, 48, 49, 50, 51, 52, 53, 54, 55, 56, 57, 58, 59, 60, 61, 62, 63, 64, 65, 66, 67, 68, 69, 70, 71, 72, 73, 74, 75, 76, 77, 78, 79, 80, 81, 82, 83, 84, 85, 86, 87, 88, 89, 90, 91, 92, 93, 94, 95, 96, 97, 98, 100, 101, 102, 103, 104, 105, 106, 107, 108, 109, 110, 111, 112, 113, 114, 115, 116, 117, 118, 119, 120, 121, 122, 123, 124, 125, 126, 127, 128, 129, 130, 131, 132, 133, 134, 135, 136, 137, 138, 139, 140, 141, 142, 143, 144, 145, 146, 147, 148, 149, 150, 151, 152, 153, 154, 155, 156, 157, 158, 159, 160, 161, 162, 163, 164, 165, 166, 167, 168, 169, 170, 171, 172, 173, 174, 175, 176, 177, 178, 179, 180, 181, 182, 183, 184, 185, 186, 187, 188, 189, 190, 191, 192, 193, 194, 195, 196, 197, 198, 199, 200, 201, 202, 203, 204, 205, 206, 207, 208, 209, 210, 211, 212, 213, 214, 215, 216, 217] [0, 99] 218 rfl (by decide +kernel) rfl
    exact lf_label_1 l C0 h h2 q qm v1 v2 v3 hg hgM hv1 hv2 hv3 hK hN hP hD hS hl
  · subst ej
    obtain ⟨q, qg, qf, qn, qd, qr, qs, qe, qp, g, hP, hD⟩ := big (j := j) hj hpost hP hD
    obtain ⟨hP, hD⟩ := k_drop (sg := bH kA h q qg qf qn qd qr qs qe qp g j ++ bM kA h2 qm) (gc := [[(h, .inr (12, [.ref (q 0), .ref (q 1), .ref (q 2), .ref (q 3), .ref (q 4), .ref (q 5), .ref (q 6), .int 0, .int ((-1)), .ref (q 9), .ref (q 10), .int 0, .int 0, .ref (q 13), .int 0, .int 0, .null, .null, .null, .null, .null]))], [(q 3, .inl (kA 7, 4, .inr (.inr (.inr (.inr (rr (g 3)))))))], [(g 3 j, .inr (0, [.ref (qd 0), .int ((-1)), .ref (qd 2), .ref (qd 3), .ref (qd 4), .ref (qd 5), .ref (qd 6), .int 0, .int 0, .int 0, .ref (qd 10), .ref (qd 11), .ref (qd 12), .ref (qd 13), .ref (qd 14), .ref (qd 15), .ref (qd 16), .int 0, .int 0, .int 0, .int 0]))], [(h2, .inr (13, mF qm x0Mo y0Mo))], [(qm 61, .inl (kA 0, 4, .inl (upd (upd (upd (upd (fun _ => 0) 0 (-1)) 1 (-1)) 2 (-1)) 3 (-1))))]]) hP hD [1, 2, 3, 5, 6, 7, 8, 9, 10, 11, 12, 13, 14, 15, 16, 17, 18, 19, 20, 21, 22, 23, 24, 25, 26, 27, 28, 29, 30, 31, 32, 33, 34, 35, 36, 37, 38, 39, 40, 41, 42, 43, 44, 45, 47, 48, 49, 50, 51, 52, 53, 54, 55, 56, 57, 58, 59, 60, 61, 62, 63, 64, 65, 66, 67, 68, 69, 70, 71, 72, 73, 74, 75, 76, 77, 78, 79, 80, 81, 82, 83, 84, 85, 86, 87, 88, 89, 90, 91, 92, 93, 94, 95, 96, 97, 98, 100, 101, 102, 103, 104, 105, 106, 107, 108, 109, 110, 111, 112, 113, 114, 115, 116, 117, 118, 119, 120, 121, 122, 123, 124, 125, 126, 127, 128, 129, 130, 131, 132, 133, 134, 135, 136, 137, 138, 140, 141, 142, 143, 144, 145, 146, 147, 148, 149, 150, 151, 152, 153, 154, 155, 156, 157, 158, 159, 160, 161, 162, 163, 164, 165, 166, 167, 168, 169, 170, 171, 172, 173, 174, 175, 176, 177, 178, 179, 180, 181, 182, 183, 184, 185, 186, 187, 188, 189, 190, 191, 192, 193, 194, 195, 196, 197, 198, 199, 200, 201, 202, 203, 204, 205, 206, 207, 208, 209, 210, 211, 212, 213, 214, 215, 216, 217] [0, 4, 46, 99, 139] 218 rfl (by decide +kernel) rfl
    exact lf_label_2 l C0 h h2 q qd qm g j v2 v3 hj hv1 hv2 hv3 hK hN hP hD hS hl
set_option maxRecDepth 100000 in
set_option maxHeartbeats 8000000 in
/-- judge: the case of the law -/
theorem op_judge {p : Program} {e : Env} {s : State} {m : MethodId} {below : List Frame} {meth : Method} {c : Code} (l : Launch) {b : Nat} {xs : Nat → Int32} (C0 : lw_At p s m meth c b 6 xs) {D : va_G} {kA : Nat → ClassId} (h h2 : Nat) (u1 : Nat → Nat → Nat) (qm : Nat → Nat) (v1 : Int32) (v2 : Int32) (hv1 : xs 1 = v1) (hv2 : xs 2 = v2) {H : Heap} {locs : List Loc} {ls : Array Slot} (hK : va_K D classes (TY kA) s) (hN : nst s) (hpost : u1 50 1 = u1 0 4 ∧ u1 50 3 = u1 0 5 ∧ u1 50 2 = u1 1 4 ∧ u1 50 4 = u1 3 1 ∧ u1 8 0 = u1 50 5 ∧ u1 12 0 = u1 50 9 ∧ u1 16 0 = u1 50 13 ∧ u1 20 0 = u1 50 17) (hP : va_P D classes (cat [cat (sHo kA h u1), cat (sMo kA h2 qm)]) H) (hD : va_D (fun q : Nat => s.heap.size ≤ q) (cat [cat (sHo kA h u1), cat (sMo kA h2 qm)])) (hS : va_S (fun q : Nat => s.heap.size ≤ q) s.heap H locs) (hl : lv_has ls 4 [(3, .int 0), (2, .ref h2), (1, .ref h), (0, .ref b)]) : W p l e room_1 s m #[Value.ref b] below meth c H locs 368 365796 (lw_Z below #[Value.ref b] s) (F0 m 1043 ls []) := by
  rcases place_no v1 with hg | ⟨j, hj, ej⟩
  · have hgM : sp_Mo_isPlace v1 = 0 := by rw [← place_iff]; exact hg
    obtain ⟨q, qg, qf, qn, qd, qr, qs, qe, qp, g, hP, hD⟩ := big (j := 0) (by decide) hpost hP hD
    obtain ⟨hP, hD⟩ := k_drop (sg := bH kA h q qg qf qn qd qr qs qe qp g 0 ++ bM kA h2 qm) (gc := [[(h, .inr (12, [.ref (q 0), .ref (q 1), .ref (q 2), .ref (q 3), .ref (q 4), .ref (q 5), .ref (q 6), .int 0, .int ((-1)), .ref (q 9), .ref (q 10), .int 0, .int 0, .ref (q 13), .int 0, .int 0, .null, .null, .null, .null, .null]))], [(h2, .inr (13, mF qm x0Mo y0Mo))]]) hP hD [1, 2, 3, 4, 5, 6, 7, 8, 9, 10, 11, 12, 13, 14, 15, 16, 17, 18, 19, 20, 21, 22, 23, 24, 25, 26, 27, 28, 29, 30, 31, 32, 33, 34, 35, 36, 37, 38, 39, 40, 41, 42, 43, 44, 45, 46, 47, 48, 49, 50, 51, 52, 53, 54, 55, 56, 57, 58, 59, 60, 61, 62, 63, 64, 65, 66, 67, 68, 69, 70, 71, 72, 73, 74, 75, 76, 77, 78, 79, 80, 81, 82, 83, 84, 85, 86, 87, 88, 89, 90, 91, 92, 93, 94, 95, 96, 97, 98, 100, 101, 102, 103, 104, 105, 106, 107, 108, 109, 110, 111, 112, 113, 114, 115, 116, 117, 118, 119, 120, 121, 122, 123, 124, 125, 126, 127, 128, 129, 130, 131, 132, 133, 134, 135, 136, 137, 138, 139, 140, 141, 142, 143, 144, 145, 146, 147, 148, 149, 150, 151, 152, 153, 154, 155, 156, 157, 158, 159, 160, 161, 162, 163, 164, 165, 166, 167, 168, 169, 170, 171, 172, 173, 174, 175, 176, 177, 178, 179, 180, 181, 182, 183, 184, 185, 186, 187, 188, 189, 190, 191, 192, 193, 194, 195, 196, 197, 198, 199, 200, 201, 202, 203, 204, 205, 206, 207, 208, 209, 210, 211, 212, 213, 214, 215, 216, 217] [0, 99] 218 rfl (by decide +kernel) rfl
    exact lf_judge_1 l C0 h h2 q qm v1 v2 hg hgM hv1 hv2 hK hN hP hD hS hl
  · subst ej
    obtain ⟨q, qg, qf, qn, qd, qr, qs, qe, qp, g, hP, hD⟩ := big (j := j) hj hpost hP hD
    obtain ⟨hP, hD⟩ := k_drop (sg := bH kA h q qg qf qn qd qr qs qe qp g j ++ bM kA h2 qm) (gc := [[(h, .inr (12, [.ref (q 0), .ref (q 1), .ref (q 2), .ref (q 3), .ref (q 4), .ref (q 5), .ref (q 6), .int 0, .int ((-1)), .ref (q 9), .ref (q 10), .int 0, .int 0, .ref (q 13), .int 0, .int 0, .null, .null, .null, .null, .null]))], [(q 3, .inl (kA 7, 4, .inr (.inr (.inr (.inr (rr (g 3)))))))], [(g 3 j, .inr (0, [.ref (qd 0), .int ((-1)), .ref (qd 2), .ref (qd 3), .ref (qd 4), .ref (qd 5), .ref (qd 6), .int 0, .int 0, .int 0, .ref (qd 10), .ref (qd 11), .ref (qd 12), .ref (qd 13), .ref (qd 14), .ref (qd 15), .ref (qd 16), .int 0, .int 0, .int 0, .int 0]))], [(h2, .inr (13, mF qm x0Mo y0Mo))], [(qm 61, .inl (kA 0, 4, .inl (upd (upd (upd (upd (fun _ => 0) 0 (-1)) 1 (-1)) 2 (-1)) 3 (-1))))]]) hP hD [1, 2, 3, 5, 6, 7, 8, 9, 10, 11, 12, 13, 14, 15, 16, 17, 18, 19, 20, 21, 22, 23, 24, 25, 26, 27, 28, 29, 30, 31, 32, 33, 34, 35, 36, 37, 38, 39, 40, 41, 42, 43, 44, 45, 47, 48, 49, 50, 51, 52, 53, 54, 55, 56, 57, 58, 59, 60, 61, 62, 63, 64, 65, 66, 67, 68, 69, 70, 71, 72, 73, 74, 75, 76, 77, 78, 79, 80, 81, 82, 83, 84, 85, 86, 87, 88, 89, 90, 91, 92, 93, 94, 95, 96, 97, 98, 100, 101, 102, 103, 104, 105, 106, 107, 108, 109, 110, 111, 112, 113, 114, 115, 116, 117, 118, 119, 120, 121, 122, 123, 124, 125, 126, 127, 128, 129, 130, 131, 132, 133, 134, 135, 136, 137, 138, 140, 141, 142, 143, 144, 145, 146, 147, 148, 149, 150, 151, 152, 153, 154, 155, 156, 157, 158, 159, 160, 161, 162, 163, 164, 165, 166, 167, 168, 169, 170, 171, 172, 173, 174, 175, 176, 177, 178, 179, 180, 181, 182, 183, 184, 185, 186, 187, 188, 189, 190, 191, 192, 193, 194, 195, 196, 197, 198, 199, 200, 201, 202, 203, 204, 205, 206, 207, 208, 209, 210, 211, 212, 213, 214, 215, 216, 217] [0, 4, 46, 99, 139] 218 rfl (by decide +kernel) rfl
    exact lf_judge_2 l C0 h h2 q qd qm g j v2 hj hv1 hv2 hK hN hP hD hS hl
