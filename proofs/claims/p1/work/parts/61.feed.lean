theorem wm_619 : (Cond.methodLink "DrawingHouseLaw" (13 : Nat) ({ cls := "DrawingHouse", name := "feed", desc := "(IIIII)I" } : MethodName) : Cond) ∈ lw_g := lw_gi (lw_c3 (List.mem_of_getElem? (i := 139) rfl)) rfl
theorem wm_620 : (Cond.instanceMethod ({ cls := "DrawingHouse", name := "feed", desc := "(IIIII)I" } : MethodName) : Cond) ∈ lw_g := lw_gi (lw_c3 (List.mem_of_getElem? (i := 140) rfl)) rfl
theorem wm_621 : (Cond.selects "DrawingHouse" ({ cls := "DrawingHouse", name := "feed", desc := "(IIIII)I" } : MethodName) ({ cls := "DrawingHouse", name := "feed", desc := "(IIIII)I" } : MethodName) : Cond) ∈ lw_g := lw_gi (lw_c3 (List.mem_of_getElem? (i := 141) rfl)) rfl
theorem wm_2961 : (Cond.methodLink "DrawingHouseLaw" (17 : Nat) ({ cls := "DrawingHouseModel", name := "feed", desc := "(IIIII)I" } : MethodName) : Cond) ∈ lw_g := lw_gi (lw_c13 (List.mem_of_getElem? (i := 81) rfl)) rfl
theorem wm_2962 : (Cond.instanceMethod ({ cls := "DrawingHouseModel", name := "feed", desc := "(IIIII)I" } : MethodName) : Cond) ∈ lw_g := lw_gi (lw_c13 (List.mem_of_getElem? (i := 82) rfl)) rfl
theorem wm_2963 : (Cond.selects "DrawingHouseModel" ({ cls := "DrawingHouseModel", name := "feed", desc := "(IIIII)I" } : MethodName) ({ cls := "DrawingHouseModel", name := "feed", desc := "(IIIII)I" } : MethodName) : Cond) ∈ lw_g := lw_gi (lw_c13 (List.mem_of_getElem? (i := 83) rfl)) rfl
abbrev b_Re_append : ByteArray := prog_10_method_2_code
def y_Re_append : MethodName := ⟨"DrawingHouse$Reader", "append", "(I)V"⟩
abbrev z_Re_append : List Cond := Cond.code y_Re_append b_Re_append 3 none :: lw_g
theorem d_Re_append_0 : decode b_Re_append 0 = .ok (.bipush 24, 2) := by decide +kernel
theorem d_Re_append_2 : decode b_Re_append 2 = .ok (.istore_n 2, 1) := by decide +kernel
theorem d_Re_append_3 : decode b_Re_append 3 = .ok (.iload_n 2, 1) := by decide +kernel
theorem d_Re_append_4 : decode b_Re_append 4 = .ok (.ifCond .lt 32, 3) := by decide +kernel
theorem d_Re_append_7 : decode b_Re_append 7 = .ok (.aload_n 0, 1) := by decide +kernel
theorem d_Re_append_8 : decode b_Re_append 8 = .ok (.getfield 9, 3) := by decide +kernel
theorem d_Re_append_11 : decode b_Re_append 11 = .ok (.aload_n 0, 1) := by decide +kernel
theorem d_Re_append_12 : decode b_Re_append 12 = .ok (.getfield 15, 3) := by decide +kernel
theorem d_Re_append_15 : decode b_Re_append 15 = .ok (.iload_n 1, 1) := by decide +kernel
theorem d_Re_append_16 : decode b_Re_append 16 = .ok (.iload_n 2, 1) := by decide +kernel
theorem d_Re_append_17 : decode b_Re_append 17 = .ok (.ishr, 1) := by decide +kernel
theorem d_Re_append_18 : decode b_Re_append 18 = .ok (.i2b, 1) := by decide +kernel
theorem d_Re_append_19 : decode b_Re_append 19 = .ok (.bastore, 1) := by decide +kernel
theorem d_Re_append_20 : decode b_Re_append 20 = .ok (.aload_n 0, 1) := by decide +kernel
theorem d_Re_append_21 : decode b_Re_append 21 = .ok (.dup, 1) := by decide +kernel
theorem d_Re_append_22 : decode b_Re_append 22 = .ok (.getfield 15, 3) := by decide +kernel
theorem d_Re_append_25 : decode b_Re_append 25 = .ok (.iconst 1, 1) := by decide +kernel
theorem d_Re_append_26 : decode b_Re_append 26 = .ok (.iadd, 1) := by decide +kernel
theorem d_Re_append_27 : decode b_Re_append 27 = .ok (.putfield 15, 3) := by decide +kernel
theorem d_Re_append_30 : decode b_Re_append 30 = .ok (.iinc 2 (-8), 3) := by decide +kernel
theorem d_Re_append_33 : decode b_Re_append 33 = .ok (.goto (-30), 3) := by decide +kernel
theorem d_Re_append_36 : decode b_Re_append 36 = .ok (.return_, 1) := by decide +kernel
abbrev b_Ho_feed : ByteArray := prog_1_method_2_code
def y_Ho_feed : MethodName := ⟨"DrawingHouse", "feed", "(IIIII)I"⟩
abbrev z_Ho_feed : List Cond := Cond.code y_Ho_feed b_Ho_feed 6 (some .int) :: lw_g
theorem d_Ho_feed_0 : decode b_Ho_feed 0 = .ok (.aload_n 0, 1) := by decide +kernel
theorem d_Ho_feed_1 : decode b_Ho_feed 1 = .ok (.getfield 38, 3) := by decide +kernel
theorem d_Ho_feed_4 : decode b_Ho_feed 4 = .ok (.getfield 108, 3) := by decide +kernel
theorem d_Ho_feed_7 : decode b_Ho_feed 7 = .ok (.bipush 20, 2) := by decide +kernel
theorem d_Ho_feed_9 : decode b_Ho_feed 9 = .ok (.iadd, 1) := by decide +kernel
theorem d_Ho_feed_10 : decode b_Ho_feed 10 = .ok (.sipush 2000, 3) := by decide +kernel
theorem d_Ho_feed_13 : decode b_Ho_feed 13 = .ok (.if_icmp .le 5, 3) := by decide +kernel
theorem d_Ho_feed_18 : decode b_Ho_feed 18 = .ok (.aload_n 0, 1) := by decide +kernel
theorem d_Ho_feed_19 : decode b_Ho_feed 19 = .ok (.getfield 38, 3) := by decide +kernel
theorem d_Ho_feed_22 : decode b_Ho_feed 22 = .ok (.iload_n 1, 1) := by decide +kernel
theorem d_Ho_feed_23 : decode b_Ho_feed 23 = .ok (.invokevirtual 111, 3) := by decide +kernel
theorem d_Ho_feed_26 : decode b_Ho_feed 26 = .ok (.aload_n 0, 1) := by decide +kernel
theorem d_Ho_feed_27 : decode b_Ho_feed 27 = .ok (.getfield 38, 3) := by decide +kernel
theorem d_Ho_feed_30 : decode b_Ho_feed 30 = .ok (.iload_n 2, 1) := by decide +kernel
theorem d_Ho_feed_31 : decode b_Ho_feed 31 = .ok (.invokevirtual 111, 3) := by decide +kernel
theorem d_Ho_feed_34 : decode b_Ho_feed 34 = .ok (.aload_n 0, 1) := by decide +kernel
theorem d_Ho_feed_35 : decode b_Ho_feed 35 = .ok (.getfield 38, 3) := by decide +kernel
theorem d_Ho_feed_38 : decode b_Ho_feed 38 = .ok (.iload_n 3, 1) := by decide +kernel
theorem d_Ho_feed_39 : decode b_Ho_feed 39 = .ok (.invokevirtual 111, 3) := by decide +kernel
theorem d_Ho_feed_42 : decode b_Ho_feed 42 = .ok (.aload_n 0, 1) := by decide +kernel
theorem d_Ho_feed_43 : decode b_Ho_feed 43 = .ok (.getfield 38, 3) := by decide +kernel
theorem d_Ho_feed_46 : decode b_Ho_feed 46 = .ok (.iload 4, 2) := by decide +kernel
theorem d_Ho_feed_48 : decode b_Ho_feed 48 = .ok (.invokevirtual 111, 3) := by decide +kernel
theorem d_Ho_feed_51 : decode b_Ho_feed 51 = .ok (.aload_n 0, 1) := by decide +kernel
theorem d_Ho_feed_52 : decode b_Ho_feed 52 = .ok (.getfield 38, 3) := by decide +kernel
theorem d_Ho_feed_55 : decode b_Ho_feed 55 = .ok (.iload 5, 2) := by decide +kernel
theorem d_Ho_feed_57 : decode b_Ho_feed 57 = .ok (.invokevirtual 111, 3) := by decide +kernel
theorem d_Ho_feed_60 : decode b_Ho_feed 60 = .ok (.aload_n 0, 1) := by decide +kernel
theorem d_Ho_feed_61 : decode b_Ho_feed 61 = .ok (.getfield 38, 3) := by decide +kernel
theorem d_Ho_feed_64 : decode b_Ho_feed 64 = .ok (.getfield 108, 3) := by decide +kernel
theorem d_Ho_feed_67 : decode b_Ho_feed 67 = .ok (.ireturn, 1) := by decide +kernel
abbrev b_Mo_feed : ByteArray := prog_15_method_6_code
def y_Mo_feed : MethodName := ⟨"DrawingHouseModel", "feed", "(IIIII)I"⟩
abbrev z_Mo_feed : List Cond := Cond.code y_Mo_feed b_Mo_feed 8 (some .int) :: lw_g
theorem d_Mo_feed_0 : decode b_Mo_feed 0 = .ok (.aload_n 0, 1) := by decide +kernel
theorem d_Mo_feed_1 : decode b_Mo_feed 1 = .ok (.getfield 383, 3) := by decide +kernel
theorem d_Mo_feed_4 : decode b_Mo_feed 4 = .ok (.bipush 20, 2) := by decide +kernel
theorem d_Mo_feed_6 : decode b_Mo_feed 6 = .ok (.iadd, 1) := by decide +kernel
theorem d_Mo_feed_7 : decode b_Mo_feed 7 = .ok (.sipush 2000, 3) := by decide +kernel
theorem d_Mo_feed_10 : decode b_Mo_feed 10 = .ok (.if_icmp .le 5, 3) := by decide +kernel
theorem d_Mo_feed_15 : decode b_Mo_feed 15 = .ok (.iconst 0, 1) := by decide +kernel
theorem d_Mo_feed_16 : decode b_Mo_feed 16 = .ok (.istore 6, 2) := by decide +kernel
theorem d_Mo_feed_18 : decode b_Mo_feed 18 = .ok (.iload 6, 2) := by decide +kernel
theorem d_Mo_feed_20 : decode b_Mo_feed 20 = .ok (.bipush 20, 2) := by decide +kernel
theorem d_Mo_feed_22 : decode b_Mo_feed 22 = .ok (.if_icmp .ge 90, 3) := by decide +kernel
theorem d_Mo_feed_25 : decode b_Mo_feed 25 = .ok (.iload 6, 2) := by decide +kernel
theorem d_Mo_feed_27 : decode b_Mo_feed 27 = .ok (.iconst 4, 1) := by decide +kernel
theorem d_Mo_feed_28 : decode b_Mo_feed 28 = .ok (.if_icmp .ge 7, 3) := by decide +kernel
theorem d_Mo_feed_31 : decode b_Mo_feed 31 = .ok (.iload_n 1, 1) := by decide +kernel
theorem d_Mo_feed_32 : decode b_Mo_feed 32 = .ok (.goto 39, 3) := by decide +kernel
theorem d_Mo_feed_35 : decode b_Mo_feed 35 = .ok (.iload 6, 2) := by decide +kernel
theorem d_Mo_feed_37 : decode b_Mo_feed 37 = .ok (.bipush 8, 2) := by decide +kernel
theorem d_Mo_feed_39 : decode b_Mo_feed 39 = .ok (.if_icmp .ge 7, 3) := by decide +kernel
theorem d_Mo_feed_42 : decode b_Mo_feed 42 = .ok (.iload_n 2, 1) := by decide +kernel
theorem d_Mo_feed_43 : decode b_Mo_feed 43 = .ok (.goto 28, 3) := by decide +kernel
theorem d_Mo_feed_46 : decode b_Mo_feed 46 = .ok (.iload 6, 2) := by decide +kernel
theorem d_Mo_feed_48 : decode b_Mo_feed 48 = .ok (.bipush 12, 2) := by decide +kernel
theorem d_Mo_feed_50 : decode b_Mo_feed 50 = .ok (.if_icmp .ge 7, 3) := by decide +kernel
theorem d_Mo_feed_53 : decode b_Mo_feed 53 = .ok (.iload_n 3, 1) := by decide +kernel
theorem d_Mo_feed_54 : decode b_Mo_feed 54 = .ok (.goto 17, 3) := by decide +kernel
theorem d_Mo_feed_57 : decode b_Mo_feed 57 = .ok (.iload 6, 2) := by decide +kernel
theorem d_Mo_feed_59 : decode b_Mo_feed 59 = .ok (.bipush 16, 2) := by decide +kernel
theorem d_Mo_feed_61 : decode b_Mo_feed 61 = .ok (.if_icmp .ge 8, 3) := by decide +kernel
theorem d_Mo_feed_64 : decode b_Mo_feed 64 = .ok (.iload 4, 2) := by decide +kernel
theorem d_Mo_feed_66 : decode b_Mo_feed 66 = .ok (.goto 5, 3) := by decide +kernel
theorem d_Mo_feed_69 : decode b_Mo_feed 69 = .ok (.iload 5, 2) := by decide +kernel
theorem d_Mo_feed_71 : decode b_Mo_feed 71 = .ok (.istore 7, 2) := by decide +kernel
theorem d_Mo_feed_73 : decode b_Mo_feed 73 = .ok (.aload_n 0, 1) := by decide +kernel
theorem d_Mo_feed_74 : decode b_Mo_feed 74 = .ok (.getfield 9, 3) := by decide +kernel
theorem d_Mo_feed_77 : decode b_Mo_feed 77 = .ok (.aload_n 0, 1) := by decide +kernel
theorem d_Mo_feed_78 : decode b_Mo_feed 78 = .ok (.getfield 383, 3) := by decide +kernel
theorem d_Mo_feed_81 : decode b_Mo_feed 81 = .ok (.iload 7, 2) := by decide +kernel
theorem d_Mo_feed_83 : decode b_Mo_feed 83 = .ok (.bipush 24, 2) := by decide +kernel
theorem d_Mo_feed_85 : decode b_Mo_feed 85 = .ok (.bipush 8, 2) := by decide +kernel
theorem d_Mo_feed_87 : decode b_Mo_feed 87 = .ok (.iload 6, 2) := by decide +kernel
theorem d_Mo_feed_89 : decode b_Mo_feed 89 = .ok (.iconst 3, 1) := by decide +kernel
theorem d_Mo_feed_90 : decode b_Mo_feed 90 = .ok (.iand, 1) := by decide +kernel
theorem d_Mo_feed_91 : decode b_Mo_feed 91 = .ok (.imul, 1) := by decide +kernel
theorem d_Mo_feed_92 : decode b_Mo_feed 92 = .ok (.isub, 1) := by decide +kernel
theorem d_Mo_feed_93 : decode b_Mo_feed 93 = .ok (.ishr, 1) := by decide +kernel
theorem d_Mo_feed_94 : decode b_Mo_feed 94 = .ok (.i2b, 1) := by decide +kernel
theorem d_Mo_feed_95 : decode b_Mo_feed 95 = .ok (.bastore, 1) := by decide +kernel
theorem d_Mo_feed_96 : decode b_Mo_feed 96 = .ok (.aload_n 0, 1) := by decide +kernel
theorem d_Mo_feed_97 : decode b_Mo_feed 97 = .ok (.dup, 1) := by decide +kernel
theorem d_Mo_feed_98 : decode b_Mo_feed 98 = .ok (.getfield 383, 3) := by decide +kernel
theorem d_Mo_feed_101 : decode b_Mo_feed 101 = .ok (.iconst 1, 1) := by decide +kernel
theorem d_Mo_feed_102 : decode b_Mo_feed 102 = .ok (.iadd, 1) := by decide +kernel
theorem d_Mo_feed_103 : decode b_Mo_feed 103 = .ok (.putfield 383, 3) := by decide +kernel
theorem d_Mo_feed_106 : decode b_Mo_feed 106 = .ok (.iinc 6 1, 3) := by decide +kernel
theorem d_Mo_feed_109 : decode b_Mo_feed 109 = .ok (.goto (-91), 3) := by decide +kernel
theorem d_Mo_feed_112 : decode b_Mo_feed 112 = .ok (.aload_n 0, 1) := by decide +kernel
theorem d_Mo_feed_113 : decode b_Mo_feed 113 = .ok (.getfield 383, 3) := by decide +kernel
theorem d_Mo_feed_116 : decode b_Mo_feed 116 = .ok (.ireturn, 1) := by decide +kernel
theorem d_law_law_160 : decode b_law_law 160 = .ok (.aload_n 1, 1) := by decide +kernel
theorem d_law_law_161 : decode b_law_law 161 = .ok (.aload_n 0, 1) := by decide +kernel
theorem d_law_law_162 : decode b_law_law 162 = .ok (.iload_n 3, 1) := by decide +kernel
theorem d_law_law_163 : decode b_law_law 163 = .ok (.iconst 1, 1) := by decide +kernel
theorem d_law_law_164 : decode b_law_law 164 = .ok (.iadd, 1) := by decide +kernel
theorem d_law_law_165 : decode b_law_law 165 = .ok (.iaload, 1) := by decide +kernel
theorem d_law_law_166 : decode b_law_law 166 = .ok (.aload_n 0, 1) := by decide +kernel
theorem d_law_law_167 : decode b_law_law 167 = .ok (.iload_n 3, 1) := by decide +kernel
theorem d_law_law_168 : decode b_law_law 168 = .ok (.iconst 2, 1) := by decide +kernel
theorem d_law_law_169 : decode b_law_law 169 = .ok (.iadd, 1) := by decide +kernel
theorem d_law_law_170 : decode b_law_law 170 = .ok (.iaload, 1) := by decide +kernel
theorem d_law_law_171 : decode b_law_law 171 = .ok (.aload_n 0, 1) := by decide +kernel
theorem d_law_law_172 : decode b_law_law 172 = .ok (.iload_n 3, 1) := by decide +kernel
theorem d_law_law_173 : decode b_law_law 173 = .ok (.iconst 3, 1) := by decide +kernel
theorem d_law_law_174 : decode b_law_law 174 = .ok (.iadd, 1) := by decide +kernel
theorem d_law_law_175 : decode b_law_law 175 = .ok (.iaload, 1) := by decide +kernel
theorem d_law_law_176 : decode b_law_law 176 = .ok (.aload_n 0, 1) := by decide +kernel
theorem d_law_law_177 : decode b_law_law 177 = .ok (.iload_n 3, 1) := by decide +kernel
theorem d_law_law_178 : decode b_law_law 178 = .ok (.iconst 4, 1) := by decide +kernel
theorem d_law_law_179 : decode b_law_law 179 = .ok (.iadd, 1) := by decide +kernel
theorem d_law_law_180 : decode b_law_law 180 = .ok (.iaload, 1) := by decide +kernel
theorem d_law_law_181 : decode b_law_law 181 = .ok (.aload_n 0, 1) := by decide +kernel
theorem d_law_law_182 : decode b_law_law 182 = .ok (.iload_n 3, 1) := by decide +kernel
theorem d_law_law_183 : decode b_law_law 183 = .ok (.iconst 5, 1) := by decide +kernel
theorem d_law_law_184 : decode b_law_law 184 = .ok (.iadd, 1) := by decide +kernel
theorem d_law_law_185 : decode b_law_law 185 = .ok (.iaload, 1) := by decide +kernel
theorem d_law_law_186 : decode b_law_law 186 = .ok (.invokevirtual 13, 3) := by decide +kernel
theorem d_law_law_189 : decode b_law_law 189 = .ok (.aload_n 2, 1) := by decide +kernel
theorem d_law_law_190 : decode b_law_law 190 = .ok (.aload_n 0, 1) := by decide +kernel
theorem d_law_law_191 : decode b_law_law 191 = .ok (.iload_n 3, 1) := by decide +kernel
theorem d_law_law_192 : decode b_law_law 192 = .ok (.iconst 1, 1) := by decide +kernel
theorem d_law_law_193 : decode b_law_law 193 = .ok (.iadd, 1) := by decide +kernel
theorem d_law_law_194 : decode b_law_law 194 = .ok (.iaload, 1) := by decide +kernel
theorem d_law_law_195 : decode b_law_law 195 = .ok (.aload_n 0, 1) := by decide +kernel
theorem d_law_law_196 : decode b_law_law 196 = .ok (.iload_n 3, 1) := by decide +kernel
theorem d_law_law_197 : decode b_law_law 197 = .ok (.iconst 2, 1) := by decide +kernel
theorem d_law_law_198 : decode b_law_law 198 = .ok (.iadd, 1) := by decide +kernel
theorem d_law_law_199 : decode b_law_law 199 = .ok (.iaload, 1) := by decide +kernel
theorem d_law_law_200 : decode b_law_law 200 = .ok (.aload_n 0, 1) := by decide +kernel
theorem d_law_law_201 : decode b_law_law 201 = .ok (.iload_n 3, 1) := by decide +kernel
theorem d_law_law_202 : decode b_law_law 202 = .ok (.iconst 3, 1) := by decide +kernel
theorem d_law_law_203 : decode b_law_law 203 = .ok (.iadd, 1) := by decide +kernel
theorem d_law_law_204 : decode b_law_law 204 = .ok (.iaload, 1) := by decide +kernel
theorem d_law_law_205 : decode b_law_law 205 = .ok (.aload_n 0, 1) := by decide +kernel
theorem d_law_law_206 : decode b_law_law 206 = .ok (.iload_n 3, 1) := by decide +kernel
theorem d_law_law_207 : decode b_law_law 207 = .ok (.iconst 4, 1) := by decide +kernel
theorem d_law_law_208 : decode b_law_law 208 = .ok (.iadd, 1) := by decide +kernel
theorem d_law_law_209 : decode b_law_law 209 = .ok (.iaload, 1) := by decide +kernel
theorem d_law_law_210 : decode b_law_law 210 = .ok (.aload_n 0, 1) := by decide +kernel
theorem d_law_law_211 : decode b_law_law 211 = .ok (.iload_n 3, 1) := by decide +kernel
theorem d_law_law_212 : decode b_law_law 212 = .ok (.iconst 5, 1) := by decide +kernel
theorem d_law_law_213 : decode b_law_law 213 = .ok (.iadd, 1) := by decide +kernel
theorem d_law_law_214 : decode b_law_law 214 = .ok (.iaload, 1) := by decide +kernel
theorem d_law_law_215 : decode b_law_law 215 = .ok (.invokevirtual 17, 3) := by decide +kernel
theorem d_law_law_218 : decode b_law_law 218 = .ok (.if_icmp .eq 1077, 3) := by decide +kernel
set_option maxRecDepth 100000 in
set_option maxHeartbeats 4000000 in
/-- DrawingHouse$Reader.append(I)V -/
theorem c_Re_append_z1 (l : Launch) (D : va_G) (kA : Nat → ClassId) (a0 : Nat) (v1 : Int32) (a1 : Nat) (a2 : Nat) (a3 : Nat) (f0 : Nat → Int32) : Cv l y_Re_append z_Re_append { frames := 0, cells := 0, slots := 0, locals := 0 } D classes (TY kA) [.ref a0, .int v1] [[(a0, .inr (8, [.ref a1, .int 0, .int ((-1)), .int ((-1)), .ref a2, .int 0, .int 0, .int 0, .int 0, .int 0, .ref a3, .int 0]))], [(a1, .inl (kA 1, 2000, .inl f0))]] (fun _ : Unit => True) (fun u => [[(a0, .inr (8, [.ref a1, .int 4, .int ((-1)), .int ((-1)), .ref a2, .int 0, .int 0, .int 0, .int 0, .int 0, .ref a3, .int 0]))], [(a1, .inl (kA 1, 2000, .inl (upd (upd (upd (upd f0 0 (vp_nar .byte ((v1 >>> (24 &&& 31)).toInt8.toInt32))) 1 (vp_nar .byte ((v1 >>> (16 &&& 31)).toInt8.toInt32))) 2 (vp_nar .byte ((v1 >>> (8 &&& 31)).toInt8.toInt32))) 3 (vp_nar .byte ((v1 >>> (0 &&& 31)).toInt8.toInt32)))))]]) 0 0 := by
  intro sz
  refine k_met (cc := b_Re_append) (maxL := 3) (ret := none) (by decide) rfl (Nat.le_of_ble_eq_true rfl) (fun p e s m below meth c ls X hl hB => ?_)
  obtain ⟨hsz, hP, hK, hD0, hN⟩ := hB
  subst hsz
  have hD := hD0.self (sz := s.heap.size)
  generalize hAe : va_A (cat [[(a0, .inr (8, [.ref a1, .int 0, .int ((-1)), .int ((-1)), .ref a2, .int 0, .int 0, .int 0, .int 0, .int 0, .ref a3, .int 0]))], [(a1, .inl (kA 1, 2000, .inl f0))]]) s.heap.size = A at hD ⊢
  have hA : ∀ q : Nat, s.heap.size ≤ q → A q := fun q h => by rw [← hAe]; exact Or.inr h
  have hS : va_S A s.heap s.heap [] := va_S.rf
  obtain ⟨hx, hb, hml, hown, hts, hr, hlk, hnm⟩ := id X
  have hl : lv_has ls 3 [(0, .ref a0), (1, .int v1)] := hl
  have hP : va_P D classes (cat [[(a0, .inr (8, [.ref a1, .int 0, .int ((-1)), .int ((-1)), .ref a2, .int 0, .int 0, .int 0, .int 0, .int 0, .ref a3, .int 0]))], [(a1, .inl (kA 1, 2000, .inl f0))]]) s.heap := hP
  have hK : va_K D classes (TY kA) s := hK
  refine lv_bipush (pc := 0) (v := 24) hx hb d_Re_append_0 (by decide) ?_
  refine lv_istore_n (pc := 2) (lv' := [(2, .int 24), (0, .ref a0), (1, .int v1)]) hx hb d_Re_append_2 rfl hl (by decide) rfl (fun ls hl => ?_)
  refine lv_iload_n (pc := 3) hx hb d_Re_append_3 rfl (lv_at hl 0 rfl) ?_
  refine lv_if_lt (pc := 4) (tgt := 36) hx hb d_Re_append_4 (by decide) (fun c1 => absurd c1 (by decide)) (fun c1 => ?_)
  refine lv_aload_n (pc := 7) hx hb d_Re_append_7 rfl (lv_at hl 1 rfl) ?_
  refine k_get (pc := 8) X hK hP 0 rfl rfl i_Re 0 (by decide) wm_194 rfl rfl d_Re_append_8 ?_
  refine lv_aload_n (pc := 11) hx hb d_Re_append_11 rfl (lv_at hl 1 rfl) ?_
  refine k_get (pc := 12) X hK hP 0 rfl rfl i_Re 1 (by decide) wm_196 rfl rfl d_Re_append_12 ?_
  refine lv_iload_n (pc := 15) hx hb d_Re_append_15 rfl (lv_at hl 2 rfl) ?_
  refine lv_iload_n (pc := 16) hx hb d_Re_append_16 rfl (lv_at hl 0 rfl) ?_
  refine lv_ishr (pc := 17) hx hb d_Re_append_17 ?_
  refine lv_i2b (pc := 18) hx hb d_Re_append_18 rfl ?_
  refine k_bst (pc := 19) hx hb hK hP hD hS 1 1 rfl rfl (0) rfl (by decide) (by decide) d_Re_append_19 (fun H locs hP hD hS => ?_)
  have hP : va_P D classes (cat [[(a0, .inr (8, [.ref a1, .int 0, .int ((-1)), .int ((-1)), .ref a2, .int 0, .int 0, .int 0, .int 0, .int 0, .ref a3, .int 0]))], [(a1, .inl (kA 1, 2000, .inl (upd f0 0 (vp_nar .byte ((v1 >>> (24 &&& 31)).toInt8.toInt32)))))]]) H := hP
  have hD : va_D A (cat [[(a0, .inr (8, [.ref a1, .int 0, .int ((-1)), .int ((-1)), .ref a2, .int 0, .int 0, .int 0, .int 0, .int 0, .ref a3, .int 0]))], [(a1, .inl (kA 1, 2000, .inl (upd f0 0 (vp_nar .byte ((v1 >>> (24 &&& 31)).toInt8.toInt32)))))]]) := hD
  refine lv_aload_n (pc := 20) hx hb d_Re_append_20 rfl (lv_at hl 1 rfl) ?_
  refine lv_dup (pc := 21) hx hb d_Re_append_21 rfl ?_
  refine k_get (pc := 22) X hK hP 0 rfl rfl i_Re 1 (by decide) wm_196 rfl rfl d_Re_append_22 ?_
  refine lv_iconst (pc := 25) (v := 1) hx hb d_Re_append_25 (by decide) ?_
  refine lv_iadd (pc := 26) hx hb d_Re_append_26 ?_
  refine k_cst (v := 1) (by decide) ?_
  refine k_put (pc := 27) X hK hP hD hS 0 rfl rfl i_Re t_Re t_Re_ok n_Re 1 (by decide) wm_196 rfl (Or.inl rfl) rfl rfl (Nat.le_of_ble_eq_true rfl) d_Re_append_27 (fun H locs hP hD hS => ?_)
  have hP : va_P D classes (cat [[(a0, .inr (8, [.ref a1, .int 1, .int ((-1)), .int ((-1)), .ref a2, .int 0, .int 0, .int 0, .int 0, .int 0, .ref a3, .int 0]))], [(a1, .inl (kA 1, 2000, .inl (upd f0 0 (vp_nar .byte ((v1 >>> (24 &&& 31)).toInt8.toInt32)))))]]) H := hP
  have hD : va_D A (cat [[(a0, .inr (8, [.ref a1, .int 1, .int ((-1)), .int ((-1)), .ref a2, .int 0, .int 0, .int 0, .int 0, .int 0, .ref a3, .int 0]))], [(a1, .inl (kA 1, 2000, .inl (upd f0 0 (vp_nar .byte ((v1 >>> (24 &&& 31)).toInt8.toInt32)))))]]) := hD
  refine lv_iinc (pc := 30) (v := 16) (lv' := [(2, .int 16), (0, .ref a0), (1, .int v1)]) hx hb d_Re_append_30 hl (k := 0) rfl (by decide) (by decide) rfl (fun ls hl => ?_)
  refine lv_goto (pc := 33) (tgt := 3) hx hb d_Re_append_33 (by decide) ?_
  refine lv_iload_n (pc := 3) hx hb d_Re_append_3 rfl (lv_at hl 0 rfl) ?_
  refine lv_if_lt (pc := 4) (tgt := 36) hx hb d_Re_append_4 (by decide) (fun c1 => absurd c1 (by decide)) (fun c1 => ?_)
  refine lv_aload_n (pc := 7) hx hb d_Re_append_7 rfl (lv_at hl 1 rfl) ?_
  refine k_get (pc := 8) X hK hP 0 rfl rfl i_Re 0 (by decide) wm_194 rfl rfl d_Re_append_8 ?_
  refine lv_aload_n (pc := 11) hx hb d_Re_append_11 rfl (lv_at hl 1 rfl) ?_
  refine k_get (pc := 12) X hK hP 0 rfl rfl i_Re 1 (by decide) wm_196 rfl rfl d_Re_append_12 ?_
  refine lv_iload_n (pc := 15) hx hb d_Re_append_15 rfl (lv_at hl 2 rfl) ?_
  refine lv_iload_n (pc := 16) hx hb d_Re_append_16 rfl (lv_at hl 0 rfl) ?_
  refine lv_ishr (pc := 17) hx hb d_Re_append_17 ?_
  refine lv_i2b (pc := 18) hx hb d_Re_append_18 rfl ?_
  refine k_bst (pc := 19) hx hb hK hP hD hS 1 1 rfl rfl (1) rfl (by decide) (by decide) d_Re_append_19 (fun H locs hP hD hS => ?_)
  have hP : va_P D classes (cat [[(a0, .inr (8, [.ref a1, .int 1, .int ((-1)), .int ((-1)), .ref a2, .int 0, .int 0, .int 0, .int 0, .int 0, .ref a3, .int 0]))], [(a1, .inl (kA 1, 2000, .inl (upd (upd f0 0 (vp_nar .byte ((v1 >>> (24 &&& 31)).toInt8.toInt32))) 1 (vp_nar .byte ((v1 >>> (16 &&& 31)).toInt8.toInt32)))))]]) H := hP
  have hD : va_D A (cat [[(a0, .inr (8, [.ref a1, .int 1, .int ((-1)), .int ((-1)), .ref a2, .int 0, .int 0, .int 0, .int 0, .int 0, .ref a3, .int 0]))], [(a1, .inl (kA 1, 2000, .inl (upd (upd f0 0 (vp_nar .byte ((v1 >>> (24 &&& 31)).toInt8.toInt32))) 1 (vp_nar .byte ((v1 >>> (16 &&& 31)).toInt8.toInt32)))))]]) := hD
  refine lv_aload_n (pc := 20) hx hb d_Re_append_20 rfl (lv_at hl 1 rfl) ?_
  refine lv_dup (pc := 21) hx hb d_Re_append_21 rfl ?_
  refine k_get (pc := 22) X hK hP 0 rfl rfl i_Re 1 (by decide) wm_196 rfl rfl d_Re_append_22 ?_
  refine lv_iconst (pc := 25) (v := 1) hx hb d_Re_append_25 (by decide) ?_
  refine lv_iadd (pc := 26) hx hb d_Re_append_26 ?_
  refine k_cst (v := 2) (by decide) ?_
  refine k_put (pc := 27) X hK hP hD hS 0 rfl rfl i_Re t_Re t_Re_ok n_Re 1 (by decide) wm_196 rfl (Or.inl rfl) rfl rfl (Nat.le_of_ble_eq_true rfl) d_Re_append_27 (fun H locs hP hD hS => ?_)
  have hP : va_P D classes (cat [[(a0, .inr (8, [.ref a1, .int 2, .int ((-1)), .int ((-1)), .ref a2, .int 0, .int 0, .int 0, .int 0, .int 0, .ref a3, .int 0]))], [(a1, .inl (kA 1, 2000, .inl (upd (upd f0 0 (vp_nar .byte ((v1 >>> (24 &&& 31)).toInt8.toInt32))) 1 (vp_nar .byte ((v1 >>> (16 &&& 31)).toInt8.toInt32)))))]]) H := hP
  have hD : va_D A (cat [[(a0, .inr (8, [.ref a1, .int 2, .int ((-1)), .int ((-1)), .ref a2, .int 0, .int 0, .int 0, .int 0, .int 0, .ref a3, .int 0]))], [(a1, .inl (kA 1, 2000, .inl (upd (upd f0 0 (vp_nar .byte ((v1 >>> (24 &&& 31)).toInt8.toInt32))) 1 (vp_nar .byte ((v1 >>> (16 &&& 31)).toInt8.toInt32)))))]]) := hD
  refine lv_iinc (pc := 30) (v := 8) (lv' := [(2, .int 8), (0, .ref a0), (1, .int v1)]) hx hb d_Re_append_30 hl (k := 0) rfl (by decide) (by decide) rfl (fun ls hl => ?_)
  refine lv_goto (pc := 33) (tgt := 3) hx hb d_Re_append_33 (by decide) ?_
  refine lv_iload_n (pc := 3) hx hb d_Re_append_3 rfl (lv_at hl 0 rfl) ?_
  refine lv_if_lt (pc := 4) (tgt := 36) hx hb d_Re_append_4 (by decide) (fun c1 => absurd c1 (by decide)) (fun c1 => ?_)
  refine lv_aload_n (pc := 7) hx hb d_Re_append_7 rfl (lv_at hl 1 rfl) ?_
  refine k_get (pc := 8) X hK hP 0 rfl rfl i_Re 0 (by decide) wm_194 rfl rfl d_Re_append_8 ?_
  refine lv_aload_n (pc := 11) hx hb d_Re_append_11 rfl (lv_at hl 1 rfl) ?_
  refine k_get (pc := 12) X hK hP 0 rfl rfl i_Re 1 (by decide) wm_196 rfl rfl d_Re_append_12 ?_
  refine lv_iload_n (pc := 15) hx hb d_Re_append_15 rfl (lv_at hl 2 rfl) ?_
  refine lv_iload_n (pc := 16) hx hb d_Re_append_16 rfl (lv_at hl 0 rfl) ?_
  refine lv_ishr (pc := 17) hx hb d_Re_append_17 ?_
  refine lv_i2b (pc := 18) hx hb d_Re_append_18 rfl ?_
  refine k_bst (pc := 19) hx hb hK hP hD hS 1 1 rfl rfl (2) rfl (by decide) (by decide) d_Re_append_19 (fun H locs hP hD hS => ?_)
  have hP : va_P D classes (cat [[(a0, .inr (8, [.ref a1, .int 2, .int ((-1)), .int ((-1)), .ref a2, .int 0, .int 0, .int 0, .int 0, .int 0, .ref a3, .int 0]))], [(a1, .inl (kA 1, 2000, .inl (upd (upd (upd f0 0 (vp_nar .byte ((v1 >>> (24 &&& 31)).toInt8.toInt32))) 1 (vp_nar .byte ((v1 >>> (16 &&& 31)).toInt8.toInt32))) 2 (vp_nar .byte ((v1 >>> (8 &&& 31)).toInt8.toInt32)))))]]) H := hP
  have hD : va_D A (cat [[(a0, .inr (8, [.ref a1, .int 2, .int ((-1)), .int ((-1)), .ref a2, .int 0, .int 0, .int 0, .int 0, .int 0, .ref a3, .int 0]))], [(a1, .inl (kA 1, 2000, .inl (upd (upd (upd f0 0 (vp_nar .byte ((v1 >>> (24 &&& 31)).toInt8.toInt32))) 1 (vp_nar .byte ((v1 >>> (16 &&& 31)).toInt8.toInt32))) 2 (vp_nar .byte ((v1 >>> (8 &&& 31)).toInt8.toInt32)))))]]) := hD
  refine lv_aload_n (pc := 20) hx hb d_Re_append_20 rfl (lv_at hl 1 rfl) ?_
  refine lv_dup (pc := 21) hx hb d_Re_append_21 rfl ?_
  refine k_get (pc := 22) X hK hP 0 rfl rfl i_Re 1 (by decide) wm_196 rfl rfl d_Re_append_22 ?_
  refine lv_iconst (pc := 25) (v := 1) hx hb d_Re_append_25 (by decide) ?_
  refine lv_iadd (pc := 26) hx hb d_Re_append_26 ?_
  refine k_cst (v := 3) (by decide) ?_
  refine k_put (pc := 27) X hK hP hD hS 0 rfl rfl i_Re t_Re t_Re_ok n_Re 1 (by decide) wm_196 rfl (Or.inl rfl) rfl rfl (Nat.le_of_ble_eq_true rfl) d_Re_append_27 (fun H locs hP hD hS => ?_)
  have hP : va_P D classes (cat [[(a0, .inr (8, [.ref a1, .int 3, .int ((-1)), .int ((-1)), .ref a2, .int 0, .int 0, .int 0, .int 0, .int 0, .ref a3, .int 0]))], [(a1, .inl (kA 1, 2000, .inl (upd (upd (upd f0 0 (vp_nar .byte ((v1 >>> (24 &&& 31)).toInt8.toInt32))) 1 (vp_nar .byte ((v1 >>> (16 &&& 31)).toInt8.toInt32))) 2 (vp_nar .byte ((v1 >>> (8 &&& 31)).toInt8.toInt32)))))]]) H := hP
  have hD : va_D A (cat [[(a0, .inr (8, [.ref a1, .int 3, .int ((-1)), .int ((-1)), .ref a2, .int 0, .int 0, .int 0, .int 0, .int 0, .ref a3, .int 0]))], [(a1, .inl (kA 1, 2000, .inl (upd (upd (upd f0 0 (vp_nar .byte ((v1 >>> (24 &&& 31)).toInt8.toInt32))) 1 (vp_nar .byte ((v1 >>> (16 &&& 31)).toInt8.toInt32))) 2 (vp_nar .byte ((v1 >>> (8 &&& 31)).toInt8.toInt32)))))]]) := hD
  refine lv_iinc (pc := 30) (v := 0) (lv' := [(2, .int 0), (0, .ref a0), (1, .int v1)]) hx hb d_Re_append_30 hl (k := 0) rfl (by decide) (by decide) rfl (fun ls hl => ?_)
  refine lv_goto (pc := 33) (tgt := 3) hx hb d_Re_append_33 (by decide) ?_
  refine lv_iload_n (pc := 3) hx hb d_Re_append_3 rfl (lv_at hl 0 rfl) ?_
  refine lv_if_lt (pc := 4) (tgt := 36) hx hb d_Re_append_4 (by decide) (fun c1 => absurd c1 (by decide)) (fun c1 => ?_)
  refine lv_aload_n (pc := 7) hx hb d_Re_append_7 rfl (lv_at hl 1 rfl) ?_
  refine k_get (pc := 8) X hK hP 0 rfl rfl i_Re 0 (by decide) wm_194 rfl rfl d_Re_append_8 ?_
  refine lv_aload_n (pc := 11) hx hb d_Re_append_11 rfl (lv_at hl 1 rfl) ?_
  refine k_get (pc := 12) X hK hP 0 rfl rfl i_Re 1 (by decide) wm_196 rfl rfl d_Re_append_12 ?_
  refine lv_iload_n (pc := 15) hx hb d_Re_append_15 rfl (lv_at hl 2 rfl) ?_
  refine lv_iload_n (pc := 16) hx hb d_Re_append_16 rfl (lv_at hl 0 rfl) ?_
  refine lv_ishr (pc := 17) hx hb d_Re_append_17 ?_
  refine lv_i2b (pc := 18) hx hb d_Re_append_18 rfl ?_
  refine k_bst (pc := 19) hx hb hK hP hD hS 1 1 rfl rfl (3) rfl (by decide) (by decide) d_Re_append_19 (fun H locs hP hD hS => ?_)
  have hP : va_P D classes (cat [[(a0, .inr (8, [.ref a1, .int 3, .int ((-1)), .int ((-1)), .ref a2, .int 0, .int 0, .int 0, .int 0, .int 0, .ref a3, .int 0]))], [(a1, .inl (kA 1, 2000, .inl (upd (upd (upd (upd f0 0 (vp_nar .byte ((v1 >>> (24 &&& 31)).toInt8.toInt32))) 1 (vp_nar .byte ((v1 >>> (16 &&& 31)).toInt8.toInt32))) 2 (vp_nar .byte ((v1 >>> (8 &&& 31)).toInt8.toInt32))) 3 (vp_nar .byte ((v1 >>> (0 &&& 31)).toInt8.toInt32)))))]]) H := hP
  have hD : va_D A (cat [[(a0, .inr (8, [.ref a1, .int 3, .int ((-1)), .int ((-1)), .ref a2, .int 0, .int 0, .int 0, .int 0, .int 0, .ref a3, .int 0]))], [(a1, .inl (kA 1, 2000, .inl (upd (upd (upd (upd f0 0 (vp_nar .byte ((v1 >>> (24 &&& 31)).toInt8.toInt32))) 1 (vp_nar .byte ((v1 >>> (16 &&& 31)).toInt8.toInt32))) 2 (vp_nar .byte ((v1 >>> (8 &&& 31)).toInt8.toInt32))) 3 (vp_nar .byte ((v1 >>> (0 &&& 31)).toInt8.toInt32)))))]]) := hD
  refine lv_aload_n (pc := 20) hx hb d_Re_append_20 rfl (lv_at hl 1 rfl) ?_
  refine lv_dup (pc := 21) hx hb d_Re_append_21 rfl ?_
  refine k_get (pc := 22) X hK hP 0 rfl rfl i_Re 1 (by decide) wm_196 rfl rfl d_Re_append_22 ?_
  refine lv_iconst (pc := 25) (v := 1) hx hb d_Re_append_25 (by decide) ?_
  refine lv_iadd (pc := 26) hx hb d_Re_append_26 ?_
  refine k_cst (v := 4) (by decide) ?_
  refine k_put (pc := 27) X hK hP hD hS 0 rfl rfl i_Re t_Re t_Re_ok n_Re 1 (by decide) wm_196 rfl (Or.inl rfl) rfl rfl (Nat.le_of_ble_eq_true rfl) d_Re_append_27 (fun H locs hP hD hS => ?_)
  have hP : va_P D classes (cat [[(a0, .inr (8, [.ref a1, .int 4, .int ((-1)), .int ((-1)), .ref a2, .int 0, .int 0, .int 0, .int 0, .int 0, .ref a3, .int 0]))], [(a1, .inl (kA 1, 2000, .inl (upd (upd (upd (upd f0 0 (vp_nar .byte ((v1 >>> (24 &&& 31)).toInt8.toInt32))) 1 (vp_nar .byte ((v1 >>> (16 &&& 31)).toInt8.toInt32))) 2 (vp_nar .byte ((v1 >>> (8 &&& 31)).toInt8.toInt32))) 3 (vp_nar .byte ((v1 >>> (0 &&& 31)).toInt8.toInt32)))))]]) H := hP
  have hD : va_D A (cat [[(a0, .inr (8, [.ref a1, .int 4, .int ((-1)), .int ((-1)), .ref a2, .int 0, .int 0, .int 0, .int 0, .int 0, .ref a3, .int 0]))], [(a1, .inl (kA 1, 2000, .inl (upd (upd (upd (upd f0 0 (vp_nar .byte ((v1 >>> (24 &&& 31)).toInt8.toInt32))) 1 (vp_nar .byte ((v1 >>> (16 &&& 31)).toInt8.toInt32))) 2 (vp_nar .byte ((v1 >>> (8 &&& 31)).toInt8.toInt32))) 3 (vp_nar .byte ((v1 >>> (0 &&& 31)).toInt8.toInt32)))))]]) := hD
  refine lv_iinc (pc := 30) (v := (-8)) (lv' := [(2, .int ((-8))), (0, .ref a0), (1, .int v1)]) hx hb d_Re_append_30 hl (k := 0) rfl (by decide) (by decide) rfl (fun ls hl => ?_)
  refine lv_goto (pc := 33) (tgt := 3) hx hb d_Re_append_33 (by decide) ?_
  refine lv_iload_n (pc := 3) hx hb d_Re_append_3 rfl (lv_at hl 0 rfl) ?_
  refine lv_if_lt (pc := 4) (tgt := 36) hx hb d_Re_append_4 (by decide) (fun c1 => ?_) (fun c1 => absurd (by decide) c1)
  refine W.widen (k := 0) (n := 0) (Nat.le_of_ble_eq_true rfl) (Nat.le_of_ble_eq_true rfl) ?_
  exact W.vret hx hb hr (fun t ht hW => ⟨⟨(), rfl, trivial, by rw [ht]; exact hP, va_K.moved hW.alike hK, hD⟩, hS.F ht⟩) hS.2.2 d_Re_append_36
set_option maxRecDepth 100000 in
set_option maxHeartbeats 4000000 in
/-- DrawingHouse$Reader.append(I)V -/
theorem c_Re_append_z2 (l : Launch) (D : va_G) (kA : Nat → ClassId) (a0 : Nat) (v2 : Int32) (a1 : Nat) (a2 : Nat) (a3 : Nat) (f0 : Nat → Int32) : Cv l y_Re_append z_Re_append { frames := 0, cells := 0, slots := 0, locals := 0 } D classes (TY kA) [.ref a0, .int v2] [[(a0, .inr (8, [.ref a1, .int 4, .int ((-1)), .int ((-1)), .ref a2, .int 0, .int 0, .int 0, .int 0, .int 0, .ref a3, .int 0]))], [(a1, .inl (kA 1, 2000, .inl f0))]] (fun _ : Unit => True) (fun u => [[(a0, .inr (8, [.ref a1, .int 8, .int ((-1)), .int ((-1)), .ref a2, .int 0, .int 0, .int 0, .int 0, .int 0, .ref a3, .int 0]))], [(a1, .inl (kA 1, 2000, .inl (upd (upd (upd (upd f0 4 (vp_nar .byte ((v2 >>> (24 &&& 31)).toInt8.toInt32))) 5 (vp_nar .byte ((v2 >>> (16 &&& 31)).toInt8.toInt32))) 6 (vp_nar .byte ((v2 >>> (8 &&& 31)).toInt8.toInt32))) 7 (vp_nar .byte ((v2 >>> (0 &&& 31)).toInt8.toInt32)))))]]) 0 0 := by
  intro sz
  refine k_met (cc := b_Re_append) (maxL := 3) (ret := none) (by decide) rfl (Nat.le_of_ble_eq_true rfl) (fun p e s m below meth c ls X hl hB => ?_)
  obtain ⟨hsz, hP, hK, hD0, hN⟩ := hB
  subst hsz
  have hD := hD0.self (sz := s.heap.size)
  generalize hAe : va_A (cat [[(a0, .inr (8, [.ref a1, .int 4, .int ((-1)), .int ((-1)), .ref a2, .int 0, .int 0, .int 0, .int 0, .int 0, .ref a3, .int 0]))], [(a1, .inl (kA 1, 2000, .inl f0))]]) s.heap.size = A at hD ⊢
  have hA : ∀ q : Nat, s.heap.size ≤ q → A q := fun q h => by rw [← hAe]; exact Or.inr h
  have hS : va_S A s.heap s.heap [] := va_S.rf
  obtain ⟨hx, hb, hml, hown, hts, hr, hlk, hnm⟩ := id X
  have hl : lv_has ls 3 [(0, .ref a0), (1, .int v2)] := hl
  have hP : va_P D classes (cat [[(a0, .inr (8, [.ref a1, .int 4, .int ((-1)), .int ((-1)), .ref a2, .int 0, .int 0, .int 0, .int 0, .int 0, .ref a3, .int 0]))], [(a1, .inl (kA 1, 2000, .inl f0))]]) s.heap := hP
  have hK : va_K D classes (TY kA) s := hK
  refine lv_bipush (pc := 0) (v := 24) hx hb d_Re_append_0 (by decide) ?_
  refine lv_istore_n (pc := 2) (lv' := [(2, .int 24), (0, .ref a0), (1, .int v2)]) hx hb d_Re_append_2 rfl hl (by decide) rfl (fun ls hl => ?_)
  refine lv_iload_n (pc := 3) hx hb d_Re_append_3 rfl (lv_at hl 0 rfl) ?_
  refine lv_if_lt (pc := 4) (tgt := 36) hx hb d_Re_append_4 (by decide) (fun c1 => absurd c1 (by decide)) (fun c1 => ?_)
  refine lv_aload_n (pc := 7) hx hb d_Re_append_7 rfl (lv_at hl 1 rfl) ?_
  refine k_get (pc := 8) X hK hP 0 rfl rfl i_Re 0 (by decide) wm_194 rfl rfl d_Re_append_8 ?_
  refine lv_aload_n (pc := 11) hx hb d_Re_append_11 rfl (lv_at hl 1 rfl) ?_
  refine k_get (pc := 12) X hK hP 0 rfl rfl i_Re 1 (by decide) wm_196 rfl rfl d_Re_append_12 ?_
  refine lv_iload_n (pc := 15) hx hb d_Re_append_15 rfl (lv_at hl 2 rfl) ?_
  refine lv_iload_n (pc := 16) hx hb d_Re_append_16 rfl (lv_at hl 0 rfl) ?_
  refine lv_ishr (pc := 17) hx hb d_Re_append_17 ?_
  refine lv_i2b (pc := 18) hx hb d_Re_append_18 rfl ?_
  refine k_bst (pc := 19) hx hb hK hP hD hS 1 1 rfl rfl (4) rfl (by decide) (by decide) d_Re_append_19 (fun H locs hP hD hS => ?_)
  have hP : va_P D classes (cat [[(a0, .inr (8, [.ref a1, .int 4, .int ((-1)), .int ((-1)), .ref a2, .int 0, .int 0, .int 0, .int 0, .int 0, .ref a3, .int 0]))], [(a1, .inl (kA 1, 2000, .inl (upd f0 4 (vp_nar .byte ((v2 >>> (24 &&& 31)).toInt8.toInt32)))))]]) H := hP
  have hD : va_D A (cat [[(a0, .inr (8, [.ref a1, .int 4, .int ((-1)), .int ((-1)), .ref a2, .int 0, .int 0, .int 0, .int 0, .int 0, .ref a3, .int 0]))], [(a1, .inl (kA 1, 2000, .inl (upd f0 4 (vp_nar .byte ((v2 >>> (24 &&& 31)).toInt8.toInt32)))))]]) := hD
  refine lv_aload_n (pc := 20) hx hb d_Re_append_20 rfl (lv_at hl 1 rfl) ?_
  refine lv_dup (pc := 21) hx hb d_Re_append_21 rfl ?_
  refine k_get (pc := 22) X hK hP 0 rfl rfl i_Re 1 (by decide) wm_196 rfl rfl d_Re_append_22 ?_
  refine lv_iconst (pc := 25) (v := 1) hx hb d_Re_append_25 (by decide) ?_
  refine lv_iadd (pc := 26) hx hb d_Re_append_26 ?_
  refine k_cst (v := 5) (by decide) ?_
  refine k_put (pc := 27) X hK hP hD hS 0 rfl rfl i_Re t_Re t_Re_ok n_Re 1 (by decide) wm_196 rfl (Or.inl rfl) rfl rfl (Nat.le_of_ble_eq_true rfl) d_Re_append_27 (fun H locs hP hD hS => ?_)
  have hP : va_P D classes (cat [[(a0, .inr (8, [.ref a1, .int 5, .int ((-1)), .int ((-1)), .ref a2, .int 0, .int 0, .int 0, .int 0, .int 0, .ref a3, .int 0]))], [(a1, .inl (kA 1, 2000, .inl (upd f0 4 (vp_nar .byte ((v2 >>> (24 &&& 31)).toInt8.toInt32)))))]]) H := hP
  have hD : va_D A (cat [[(a0, .inr (8, [.ref a1, .int 5, .int ((-1)), .int ((-1)), .ref a2, .int 0, .int 0, .int 0, .int 0, .int 0, .ref a3, .int 0]))], [(a1, .inl (kA 1, 2000, .inl (upd f0 4 (vp_nar .byte ((v2 >>> (24 &&& 31)).toInt8.toInt32)))))]]) := hD
  refine lv_iinc (pc := 30) (v := 16) (lv' := [(2, .int 16), (0, .ref a0), (1, .int v2)]) hx hb d_Re_append_30 hl (k := 0) rfl (by decide) (by decide) rfl (fun ls hl => ?_)
  refine lv_goto (pc := 33) (tgt := 3) hx hb d_Re_append_33 (by decide) ?_
  refine lv_iload_n (pc := 3) hx hb d_Re_append_3 rfl (lv_at hl 0 rfl) ?_
  refine lv_if_lt (pc := 4) (tgt := 36) hx hb d_Re_append_4 (by decide) (fun c1 => absurd c1 (by decide)) (fun c1 => ?_)
  refine lv_aload_n (pc := 7) hx hb d_Re_append_7 rfl (lv_at hl 1 rfl) ?_
  refine k_get (pc := 8) X hK hP 0 rfl rfl i_Re 0 (by decide) wm_194 rfl rfl d_Re_append_8 ?_
  refine lv_aload_n (pc := 11) hx hb d_Re_append_11 rfl (lv_at hl 1 rfl) ?_
  refine k_get (pc := 12) X hK hP 0 rfl rfl i_Re 1 (by decide) wm_196 rfl rfl d_Re_append_12 ?_
  refine lv_iload_n (pc := 15) hx hb d_Re_append_15 rfl (lv_at hl 2 rfl) ?_
  refine lv_iload_n (pc := 16) hx hb d_Re_append_16 rfl (lv_at hl 0 rfl) ?_
  refine lv_ishr (pc := 17) hx hb d_Re_append_17 ?_
  refine lv_i2b (pc := 18) hx hb d_Re_append_18 rfl ?_
  refine k_bst (pc := 19) hx hb hK hP hD hS 1 1 rfl rfl (5) rfl (by decide) (by decide) d_Re_append_19 (fun H locs hP hD hS => ?_)
  have hP : va_P D classes (cat [[(a0, .inr (8, [.ref a1, .int 5, .int ((-1)), .int ((-1)), .ref a2, .int 0, .int 0, .int 0, .int 0, .int 0, .ref a3, .int 0]))], [(a1, .inl (kA 1, 2000, .inl (upd (upd f0 4 (vp_nar .byte ((v2 >>> (24 &&& 31)).toInt8.toInt32))) 5 (vp_nar .byte ((v2 >>> (16 &&& 31)).toInt8.toInt32)))))]]) H := hP
  have hD : va_D A (cat [[(a0, .inr (8, [.ref a1, .int 5, .int ((-1)), .int ((-1)), .ref a2, .int 0, .int 0, .int 0, .int 0, .int 0, .ref a3, .int 0]))], [(a1, .inl (kA 1, 2000, .inl (upd (upd f0 4 (vp_nar .byte ((v2 >>> (24 &&& 31)).toInt8.toInt32))) 5 (vp_nar .byte ((v2 >>> (16 &&& 31)).toInt8.toInt32)))))]]) := hD
  refine lv_aload_n (pc := 20) hx hb d_Re_append_20 rfl (lv_at hl 1 rfl) ?_
  refine lv_dup (pc := 21) hx hb d_Re_append_21 rfl ?_
  refine k_get (pc := 22) X hK hP 0 rfl rfl i_Re 1 (by decide) wm_196 rfl rfl d_Re_append_22 ?_
  refine lv_iconst (pc := 25) (v := 1) hx hb d_Re_append_25 (by decide) ?_
  refine lv_iadd (pc := 26) hx hb d_Re_append_26 ?_
  refine k_cst (v := 6) (by decide) ?_
  refine k_put (pc := 27) X hK hP hD hS 0 rfl rfl i_Re t_Re t_Re_ok n_Re 1 (by decide) wm_196 rfl (Or.inl rfl) rfl rfl (Nat.le_of_ble_eq_true rfl) d_Re_append_27 (fun H locs hP hD hS => ?_)
  have hP : va_P D classes (cat [[(a0, .inr (8, [.ref a1, .int 6, .int ((-1)), .int ((-1)), .ref a2, .int 0, .int 0, .int 0, .int 0, .int 0, .ref a3, .int 0]))], [(a1, .inl (kA 1, 2000, .inl (upd (upd f0 4 (vp_nar .byte ((v2 >>> (24 &&& 31)).toInt8.toInt32))) 5 (vp_nar .byte ((v2 >>> (16 &&& 31)).toInt8.toInt32)))))]]) H := hP
  have hD : va_D A (cat [[(a0, .inr (8, [.ref a1, .int 6, .int ((-1)), .int ((-1)), .ref a2, .int 0, .int 0, .int 0, .int 0, .int 0, .ref a3, .int 0]))], [(a1, .inl (kA 1, 2000, .inl (upd (upd f0 4 (vp_nar .byte ((v2 >>> (24 &&& 31)).toInt8.toInt32))) 5 (vp_nar .byte ((v2 >>> (16 &&& 31)).toInt8.toInt32)))))]]) := hD
  refine lv_iinc (pc := 30) (v := 8) (lv' := [(2, .int 8), (0, .ref a0), (1, .int v2)]) hx hb d_Re_append_30 hl (k := 0) rfl (by decide) (by decide) rfl (fun ls hl => ?_)
  refine lv_goto (pc := 33) (tgt := 3) hx hb d_Re_append_33 (by decide) ?_
  refine lv_iload_n (pc := 3) hx hb d_Re_append_3 rfl (lv_at hl 0 rfl) ?_
  refine lv_if_lt (pc := 4) (tgt := 36) hx hb d_Re_append_4 (by decide) (fun c1 => absurd c1 (by decide)) (fun c1 => ?_)
  refine lv_aload_n (pc := 7) hx hb d_Re_append_7 rfl (lv_at hl 1 rfl) ?_
  refine k_get (pc := 8) X hK hP 0 rfl rfl i_Re 0 (by decide) wm_194 rfl rfl d_Re_append_8 ?_
  refine lv_aload_n (pc := 11) hx hb d_Re_append_11 rfl (lv_at hl 1 rfl) ?_
  refine k_get (pc := 12) X hK hP 0 rfl rfl i_Re 1 (by decide) wm_196 rfl rfl d_Re_append_12 ?_
  refine lv_iload_n (pc := 15) hx hb d_Re_append_15 rfl (lv_at hl 2 rfl) ?_
  refine lv_iload_n (pc := 16) hx hb d_Re_append_16 rfl (lv_at hl 0 rfl) ?_
  refine lv_ishr (pc := 17) hx hb d_Re_append_17 ?_
  refine lv_i2b (pc := 18) hx hb d_Re_append_18 rfl ?_
  refine k_bst (pc := 19) hx hb hK hP hD hS 1 1 rfl rfl (6) rfl (by decide) (by decide) d_Re_append_19 (fun H locs hP hD hS => ?_)
  have hP : va_P D classes (cat [[(a0, .inr (8, [.ref a1, .int 6, .int ((-1)), .int ((-1)), .ref a2, .int 0, .int 0, .int 0, .int 0, .int 0, .ref a3, .int 0]))], [(a1, .inl (kA 1, 2000, .inl (upd (upd (upd f0 4 (vp_nar .byte ((v2 >>> (24 &&& 31)).toInt8.toInt32))) 5 (vp_nar .byte ((v2 >>> (16 &&& 31)).toInt8.toInt32))) 6 (vp_nar .byte ((v2 >>> (8 &&& 31)).toInt8.toInt32)))))]]) H := hP
  have hD : va_D A (cat [[(a0, .inr (8, [.ref a1, .int 6, .int ((-1)), .int ((-1)), .ref a2, .int 0, .int 0, .int 0, .int 0, .int 0, .ref a3, .int 0]))], [(a1, .inl (kA 1, 2000, .inl (upd (upd (upd f0 4 (vp_nar .byte ((v2 >>> (24 &&& 31)).toInt8.toInt32))) 5 (vp_nar .byte ((v2 >>> (16 &&& 31)).toInt8.toInt32))) 6 (vp_nar .byte ((v2 >>> (8 &&& 31)).toInt8.toInt32)))))]]) := hD
  refine lv_aload_n (pc := 20) hx hb d_Re_append_20 rfl (lv_at hl 1 rfl) ?_
  refine lv_dup (pc := 21) hx hb d_Re_append_21 rfl ?_
  refine k_get (pc := 22) X hK hP 0 rfl rfl i_Re 1 (by decide) wm_196 rfl rfl d_Re_append_22 ?_
  refine lv_iconst (pc := 25) (v := 1) hx hb d_Re_append_25 (by decide) ?_
  refine lv_iadd (pc := 26) hx hb d_Re_append_26 ?_
  refine k_cst (v := 7) (by decide) ?_
  refine k_put (pc := 27) X hK hP hD hS 0 rfl rfl i_Re t_Re t_Re_ok n_Re 1 (by decide) wm_196 rfl (Or.inl rfl) rfl rfl (Nat.le_of_ble_eq_true rfl) d_Re_append_27 (fun H locs hP hD hS => ?_)
  have hP : va_P D classes (cat [[(a0, .inr (8, [.ref a1, .int 7, .int ((-1)), .int ((-1)), .ref a2, .int 0, .int 0, .int 0, .int 0, .int 0, .ref a3, .int 0]))], [(a1, .inl (kA 1, 2000, .inl (upd (upd (upd f0 4 (vp_nar .byte ((v2 >>> (24 &&& 31)).toInt8.toInt32))) 5 (vp_nar .byte ((v2 >>> (16 &&& 31)).toInt8.toInt32))) 6 (vp_nar .byte ((v2 >>> (8 &&& 31)).toInt8.toInt32)))))]]) H := hP
  have hD : va_D A (cat [[(a0, .inr (8, [.ref a1, .int 7, .int ((-1)), .int ((-1)), .ref a2, .int 0, .int 0, .int 0, .int 0, .int 0, .ref a3, .int 0]))], [(a1, .inl (kA 1, 2000, .inl (upd (upd (upd f0 4 (vp_nar .byte ((v2 >>> (24 &&& 31)).toInt8.toInt32))) 5 (vp_nar .byte ((v2 >>> (16 &&& 31)).toInt8.toInt32))) 6 (vp_nar .byte ((v2 >>> (8 &&& 31)).toInt8.toInt32)))))]]) := hD
  refine lv_iinc (pc := 30) (v := 0) (lv' := [(2, .int 0), (0, .ref a0), (1, .int v2)]) hx hb d_Re_append_30 hl (k := 0) rfl (by decide) (by decide) rfl (fun ls hl => ?_)
  refine lv_goto (pc := 33) (tgt := 3) hx hb d_Re_append_33 (by decide) ?_
  refine lv_iload_n (pc := 3) hx hb d_Re_append_3 rfl (lv_at hl 0 rfl) ?_
  refine lv_if_lt (pc := 4) (tgt := 36) hx hb d_Re_append_4 (by decide) (fun c1 => absurd c1 (by decide)) (fun c1 => ?_)
  refine lv_aload_n (pc := 7) hx hb d_Re_append_7 rfl (lv_at hl 1 rfl) ?_
  refine k_get (pc := 8) X hK hP 0 rfl rfl i_Re 0 (by decide) wm_194 rfl rfl d_Re_append_8 ?_
  refine lv_aload_n (pc := 11) hx hb d_Re_append_11 rfl (lv_at hl 1 rfl) ?_
  refine k_get (pc := 12) X hK hP 0 rfl rfl i_Re 1 (by decide) wm_196 rfl rfl d_Re_append_12 ?_
  refine lv_iload_n (pc := 15) hx hb d_Re_append_15 rfl (lv_at hl 2 rfl) ?_
  refine lv_iload_n (pc := 16) hx hb d_Re_append_16 rfl (lv_at hl 0 rfl) ?_
  refine lv_ishr (pc := 17) hx hb d_Re_append_17 ?_
  refine lv_i2b (pc := 18) hx hb d_Re_append_18 rfl ?_
  refine k_bst (pc := 19) hx hb hK hP hD hS 1 1 rfl rfl (7) rfl (by decide) (by decide) d_Re_append_19 (fun H locs hP hD hS => ?_)
  have hP : va_P D classes (cat [[(a0, .inr (8, [.ref a1, .int 7, .int ((-1)), .int ((-1)), .ref a2, .int 0, .int 0, .int 0, .int 0, .int 0, .ref a3, .int 0]))], [(a1, .inl (kA 1, 2000, .inl (upd (upd (upd (upd f0 4 (vp_nar .byte ((v2 >>> (24 &&& 31)).toInt8.toInt32))) 5 (vp_nar .byte ((v2 >>> (16 &&& 31)).toInt8.toInt32))) 6 (vp_nar .byte ((v2 >>> (8 &&& 31)).toInt8.toInt32))) 7 (vp_nar .byte ((v2 >>> (0 &&& 31)).toInt8.toInt32)))))]]) H := hP
  have hD : va_D A (cat [[(a0, .inr (8, [.ref a1, .int 7, .int ((-1)), .int ((-1)), .ref a2, .int 0, .int 0, .int 0, .int 0, .int 0, .ref a3, .int 0]))], [(a1, .inl (kA 1, 2000, .inl (upd (upd (upd (upd f0 4 (vp_nar .byte ((v2 >>> (24 &&& 31)).toInt8.toInt32))) 5 (vp_nar .byte ((v2 >>> (16 &&& 31)).toInt8.toInt32))) 6 (vp_nar .byte ((v2 >>> (8 &&& 31)).toInt8.toInt32))) 7 (vp_nar .byte ((v2 >>> (0 &&& 31)).toInt8.toInt32)))))]]) := hD
  refine lv_aload_n (pc := 20) hx hb d_Re_append_20 rfl (lv_at hl 1 rfl) ?_
  refine lv_dup (pc := 21) hx hb d_Re_append_21 rfl ?_
  refine k_get (pc := 22) X hK hP 0 rfl rfl i_Re 1 (by decide) wm_196 rfl rfl d_Re_append_22 ?_
  refine lv_iconst (pc := 25) (v := 1) hx hb d_Re_append_25 (by decide) ?_
  refine lv_iadd (pc := 26) hx hb d_Re_append_26 ?_
  refine k_cst (v := 8) (by decide) ?_
  refine k_put (pc := 27) X hK hP hD hS 0 rfl rfl i_Re t_Re t_Re_ok n_Re 1 (by decide) wm_196 rfl (Or.inl rfl) rfl rfl (Nat.le_of_ble_eq_true rfl) d_Re_append_27 (fun H locs hP hD hS => ?_)
  have hP : va_P D classes (cat [[(a0, .inr (8, [.ref a1, .int 8, .int ((-1)), .int ((-1)), .ref a2, .int 0, .int 0, .int 0, .int 0, .int 0, .ref a3, .int 0]))], [(a1, .inl (kA 1, 2000, .inl (upd (upd (upd (upd f0 4 (vp_nar .byte ((v2 >>> (24 &&& 31)).toInt8.toInt32))) 5 (vp_nar .byte ((v2 >>> (16 &&& 31)).toInt8.toInt32))) 6 (vp_nar .byte ((v2 >>> (8 &&& 31)).toInt8.toInt32))) 7 (vp_nar .byte ((v2 >>> (0 &&& 31)).toInt8.toInt32)))))]]) H := hP
  have hD : va_D A (cat [[(a0, .inr (8, [.ref a1, .int 8, .int ((-1)), .int ((-1)), .ref a2, .int 0, .int 0, .int 0, .int 0, .int 0, .ref a3, .int 0]))], [(a1, .inl (kA 1, 2000, .inl (upd (upd (upd (upd f0 4 (vp_nar .byte ((v2 >>> (24 &&& 31)).toInt8.toInt32))) 5 (vp_nar .byte ((v2 >>> (16 &&& 31)).toInt8.toInt32))) 6 (vp_nar .byte ((v2 >>> (8 &&& 31)).toInt8.toInt32))) 7 (vp_nar .byte ((v2 >>> (0 &&& 31)).toInt8.toInt32)))))]]) := hD
  refine lv_iinc (pc := 30) (v := (-8)) (lv' := [(2, .int ((-8))), (0, .ref a0), (1, .int v2)]) hx hb d_Re_append_30 hl (k := 0) rfl (by decide) (by decide) rfl (fun ls hl => ?_)
  refine lv_goto (pc := 33) (tgt := 3) hx hb d_Re_append_33 (by decide) ?_
  refine lv_iload_n (pc := 3) hx hb d_Re_append_3 rfl (lv_at hl 0 rfl) ?_
  refine lv_if_lt (pc := 4) (tgt := 36) hx hb d_Re_append_4 (by decide) (fun c1 => ?_) (fun c1 => absurd (by decide) c1)
  refine W.widen (k := 0) (n := 0) (Nat.le_of_ble_eq_true rfl) (Nat.le_of_ble_eq_true rfl) ?_
  exact W.vret hx hb hr (fun t ht hW => ⟨⟨(), rfl, trivial, by rw [ht]; exact hP, va_K.moved hW.alike hK, hD⟩, hS.F ht⟩) hS.2.2 d_Re_append_36
set_option maxRecDepth 100000 in
set_option maxHeartbeats 4000000 in
/-- DrawingHouse$Reader.append(I)V -/
theorem c_Re_append_z3 (l : Launch) (D : va_G) (kA : Nat → ClassId) (a0 : Nat) (v3 : Int32) (a1 : Nat) (a2 : Nat) (a3 : Nat) (f0 : Nat → Int32) : Cv l y_Re_append z_Re_append { frames := 0, cells := 0, slots := 0, locals := 0 } D classes (TY kA) [.ref a0, .int v3] [[(a0, .inr (8, [.ref a1, .int 8, .int ((-1)), .int ((-1)), .ref a2, .int 0, .int 0, .int 0, .int 0, .int 0, .ref a3, .int 0]))], [(a1, .inl (kA 1, 2000, .inl f0))]] (fun _ : Unit => True) (fun u => [[(a0, .inr (8, [.ref a1, .int 12, .int ((-1)), .int ((-1)), .ref a2, .int 0, .int 0, .int 0, .int 0, .int 0, .ref a3, .int 0]))], [(a1, .inl (kA 1, 2000, .inl (upd (upd (upd (upd f0 8 (vp_nar .byte ((v3 >>> (24 &&& 31)).toInt8.toInt32))) 9 (vp_nar .byte ((v3 >>> (16 &&& 31)).toInt8.toInt32))) 10 (vp_nar .byte ((v3 >>> (8 &&& 31)).toInt8.toInt32))) 11 (vp_nar .byte ((v3 >>> (0 &&& 31)).toInt8.toInt32)))))]]) 0 0 := by
  intro sz
  refine k_met (cc := b_Re_append) (maxL := 3) (ret := none) (by decide) rfl (Nat.le_of_ble_eq_true rfl) (fun p e s m below meth c ls X hl hB => ?_)
  obtain ⟨hsz, hP, hK, hD0, hN⟩ := hB
  subst hsz
  have hD := hD0.self (sz := s.heap.size)
  generalize hAe : va_A (cat [[(a0, .inr (8, [.ref a1, .int 8, .int ((-1)), .int ((-1)), .ref a2, .int 0, .int 0, .int 0, .int 0, .int 0, .ref a3, .int 0]))], [(a1, .inl (kA 1, 2000, .inl f0))]]) s.heap.size = A at hD ⊢
  have hA : ∀ q : Nat, s.heap.size ≤ q → A q := fun q h => by rw [← hAe]; exact Or.inr h
  have hS : va_S A s.heap s.heap [] := va_S.rf
  obtain ⟨hx, hb, hml, hown, hts, hr, hlk, hnm⟩ := id X
  have hl : lv_has ls 3 [(0, .ref a0), (1, .int v3)] := hl
  have hP : va_P D classes (cat [[(a0, .inr (8, [.ref a1, .int 8, .int ((-1)), .int ((-1)), .ref a2, .int 0, .int 0, .int 0, .int 0, .int 0, .ref a3, .int 0]))], [(a1, .inl (kA 1, 2000, .inl f0))]]) s.heap := hP
  have hK : va_K D classes (TY kA) s := hK
  refine lv_bipush (pc := 0) (v := 24) hx hb d_Re_append_0 (by decide) ?_
  refine lv_istore_n (pc := 2) (lv' := [(2, .int 24), (0, .ref a0), (1, .int v3)]) hx hb d_Re_append_2 rfl hl (by decide) rfl (fun ls hl => ?_)
  refine lv_iload_n (pc := 3) hx hb d_Re_append_3 rfl (lv_at hl 0 rfl) ?_
  refine lv_if_lt (pc := 4) (tgt := 36) hx hb d_Re_append_4 (by decide) (fun c1 => absurd c1 (by decide)) (fun c1 => ?_)
  refine lv_aload_n (pc := 7) hx hb d_Re_append_7 rfl (lv_at hl 1 rfl) ?_
  refine k_get (pc := 8) X hK hP 0 rfl rfl i_Re 0 (by decide) wm_194 rfl rfl d_Re_append_8 ?_
  refine lv_aload_n (pc := 11) hx hb d_Re_append_11 rfl (lv_at hl 1 rfl) ?_
  refine k_get (pc := 12) X hK hP 0 rfl rfl i_Re 1 (by decide) wm_196 rfl rfl d_Re_append_12 ?_
  refine lv_iload_n (pc := 15) hx hb d_Re_append_15 rfl (lv_at hl 2 rfl) ?_
  refine lv_iload_n (pc := 16) hx hb d_Re_append_16 rfl (lv_at hl 0 rfl) ?_
  refine lv_ishr (pc := 17) hx hb d_Re_append_17 ?_
  refine lv_i2b (pc := 18) hx hb d_Re_append_18 rfl ?_
  refine k_bst (pc := 19) hx hb hK hP hD hS 1 1 rfl rfl (8) rfl (by decide) (by decide) d_Re_append_19 (fun H locs hP hD hS => ?_)
  have hP : va_P D classes (cat [[(a0, .inr (8, [.ref a1, .int 8, .int ((-1)), .int ((-1)), .ref a2, .int 0, .int 0, .int 0, .int 0, .int 0, .ref a3, .int 0]))], [(a1, .inl (kA 1, 2000, .inl (upd f0 8 (vp_nar .byte ((v3 >>> (24 &&& 31)).toInt8.toInt32)))))]]) H := hP
  have hD : va_D A (cat [[(a0, .inr (8, [.ref a1, .int 8, .int ((-1)), .int ((-1)), .ref a2, .int 0, .int 0, .int 0, .int 0, .int 0, .ref a3, .int 0]))], [(a1, .inl (kA 1, 2000, .inl (upd f0 8 (vp_nar .byte ((v3 >>> (24 &&& 31)).toInt8.toInt32)))))]]) := hD
  refine lv_aload_n (pc := 20) hx hb d_Re_append_20 rfl (lv_at hl 1 rfl) ?_
  refine lv_dup (pc := 21) hx hb d_Re_append_21 rfl ?_
  refine k_get (pc := 22) X hK hP 0 rfl rfl i_Re 1 (by decide) wm_196 rfl rfl d_Re_append_22 ?_
  refine lv_iconst (pc := 25) (v := 1) hx hb d_Re_append_25 (by decide) ?_
  refine lv_iadd (pc := 26) hx hb d_Re_append_26 ?_
  refine k_cst (v := 9) (by decide) ?_
  refine k_put (pc := 27) X hK hP hD hS 0 rfl rfl i_Re t_Re t_Re_ok n_Re 1 (by decide) wm_196 rfl (Or.inl rfl) rfl rfl (Nat.le_of_ble_eq_true rfl) d_Re_append_27 (fun H locs hP hD hS => ?_)
  have hP : va_P D classes (cat [[(a0, .inr (8, [.ref a1, .int 9, .int ((-1)), .int ((-1)), .ref a2, .int 0, .int 0, .int 0, .int 0, .int 0, .ref a3, .int 0]))], [(a1, .inl (kA 1, 2000, .inl (upd f0 8 (vp_nar .byte ((v3 >>> (24 &&& 31)).toInt8.toInt32)))))]]) H := hP
  have hD : va_D A (cat [[(a0, .inr (8, [.ref a1, .int 9, .int ((-1)), .int ((-1)), .ref a2, .int 0, .int 0, .int 0, .int 0, .int 0, .ref a3, .int 0]))], [(a1, .inl (kA 1, 2000, .inl (upd f0 8 (vp_nar .byte ((v3 >>> (24 &&& 31)).toInt8.toInt32)))))]]) := hD
  refine lv_iinc (pc := 30) (v := 16) (lv' := [(2, .int 16), (0, .ref a0), (1, .int v3)]) hx hb d_Re_append_30 hl (k := 0) rfl (by decide) (by decide) rfl (fun ls hl => ?_)
  refine lv_goto (pc := 33) (tgt := 3) hx hb d_Re_append_33 (by decide) ?_
  refine lv_iload_n (pc := 3) hx hb d_Re_append_3 rfl (lv_at hl 0 rfl) ?_
  refine lv_if_lt (pc := 4) (tgt := 36) hx hb d_Re_append_4 (by decide) (fun c1 => absurd c1 (by decide)) (fun c1 => ?_)
  refine lv_aload_n (pc := 7) hx hb d_Re_append_7 rfl (lv_at hl 1 rfl) ?_
  refine k_get (pc := 8) X hK hP 0 rfl rfl i_Re 0 (by decide) wm_194 rfl rfl d_Re_append_8 ?_
  refine lv_aload_n (pc := 11) hx hb d_Re_append_11 rfl (lv_at hl 1 rfl) ?_
  refine k_get (pc := 12) X hK hP 0 rfl rfl i_Re 1 (by decide) wm_196 rfl rfl d_Re_append_12 ?_
  refine lv_iload_n (pc := 15) hx hb d_Re_append_15 rfl (lv_at hl 2 rfl) ?_
  refine lv_iload_n (pc := 16) hx hb d_Re_append_16 rfl (lv_at hl 0 rfl) ?_
  refine lv_ishr (pc := 17) hx hb d_Re_append_17 ?_
  refine lv_i2b (pc := 18) hx hb d_Re_append_18 rfl ?_
  refine k_bst (pc := 19) hx hb hK hP hD hS 1 1 rfl rfl (9) rfl (by decide) (by decide) d_Re_append_19 (fun H locs hP hD hS => ?_)
  have hP : va_P D classes (cat [[(a0, .inr (8, [.ref a1, .int 9, .int ((-1)), .int ((-1)), .ref a2, .int 0, .int 0, .int 0, .int 0, .int 0, .ref a3, .int 0]))], [(a1, .inl (kA 1, 2000, .inl (upd (upd f0 8 (vp_nar .byte ((v3 >>> (24 &&& 31)).toInt8.toInt32))) 9 (vp_nar .byte ((v3 >>> (16 &&& 31)).toInt8.toInt32)))))]]) H := hP
  have hD : va_D A (cat [[(a0, .inr (8, [.ref a1, .int 9, .int ((-1)), .int ((-1)), .ref a2, .int 0, .int 0, .int 0, .int 0, .int 0, .ref a3, .int 0]))], [(a1, .inl (kA 1, 2000, .inl (upd (upd f0 8 (vp_nar .byte ((v3 >>> (24 &&& 31)).toInt8.toInt32))) 9 (vp_nar .byte ((v3 >>> (16 &&& 31)).toInt8.toInt32)))))]]) := hD
  refine lv_aload_n (pc := 20) hx hb d_Re_append_20 rfl (lv_at hl 1 rfl) ?_
  refine lv_dup (pc := 21) hx hb d_Re_append_21 rfl ?_
  refine k_get (pc := 22) X hK hP 0 rfl rfl i_Re 1 (by decide) wm_196 rfl rfl d_Re_append_22 ?_
  refine lv_iconst (pc := 25) (v := 1) hx hb d_Re_append_25 (by decide) ?_
  refine lv_iadd (pc := 26) hx hb d_Re_append_26 ?_
  refine k_cst (v := 10) (by decide) ?_
  refine k_put (pc := 27) X hK hP hD hS 0 rfl rfl i_Re t_Re t_Re_ok n_Re 1 (by decide) wm_196 rfl (Or.inl rfl) rfl rfl (Nat.le_of_ble_eq_true rfl) d_Re_append_27 (fun H locs hP hD hS => ?_)
  have hP : va_P D classes (cat [[(a0, .inr (8, [.ref a1, .int 10, .int ((-1)), .int ((-1)), .ref a2, .int 0, .int 0, .int 0, .int 0, .int 0, .ref a3, .int 0]))], [(a1, .inl (kA 1, 2000, .inl (upd (upd f0 8 (vp_nar .byte ((v3 >>> (24 &&& 31)).toInt8.toInt32))) 9 (vp_nar .byte ((v3 >>> (16 &&& 31)).toInt8.toInt32)))))]]) H := hP
  have hD : va_D A (cat [[(a0, .inr (8, [.ref a1, .int 10, .int ((-1)), .int ((-1)), .ref a2, .int 0, .int 0, .int 0, .int 0, .int 0, .ref a3, .int 0]))], [(a1, .inl (kA 1, 2000, .inl (upd (upd f0 8 (vp_nar .byte ((v3 >>> (24 &&& 31)).toInt8.toInt32))) 9 (vp_nar .byte ((v3 >>> (16 &&& 31)).toInt8.toInt32)))))]]) := hD
  refine lv_iinc (pc := 30) (v := 8) (lv' := [(2, .int 8), (0, .ref a0), (1, .int v3)]) hx hb d_Re_append_30 hl (k := 0) rfl (by decide) (by decide) rfl (fun ls hl => ?_)
  refine lv_goto (pc := 33) (tgt := 3) hx hb d_Re_append_33 (by decide) ?_
  refine lv_iload_n (pc := 3) hx hb d_Re_append_3 rfl (lv_at hl 0 rfl) ?_
  refine lv_if_lt (pc := 4) (tgt := 36) hx hb d_Re_append_4 (by decide) (fun c1 => absurd c1 (by decide)) (fun c1 => ?_)
  refine lv_aload_n (pc := 7) hx hb d_Re_append_7 rfl (lv_at hl 1 rfl) ?_
  refine k_get (pc := 8) X hK hP 0 rfl rfl i_Re 0 (by decide) wm_194 rfl rfl d_Re_append_8 ?_
  refine lv_aload_n (pc := 11) hx hb d_Re_append_11 rfl (lv_at hl 1 rfl) ?_
  refine k_get (pc := 12) X hK hP 0 rfl rfl i_Re 1 (by decide) wm_196 rfl rfl d_Re_append_12 ?_
  refine lv_iload_n (pc := 15) hx hb d_Re_append_15 rfl (lv_at hl 2 rfl) ?_
  refine lv_iload_n (pc := 16) hx hb d_Re_append_16 rfl (lv_at hl 0 rfl) ?_
  refine lv_ishr (pc := 17) hx hb d_Re_append_17 ?_
  refine lv_i2b (pc := 18) hx hb d_Re_append_18 rfl ?_
  refine k_bst (pc := 19) hx hb hK hP hD hS 1 1 rfl rfl (10) rfl (by decide) (by decide) d_Re_append_19 (fun H locs hP hD hS => ?_)
  have hP : va_P D classes (cat [[(a0, .inr (8, [.ref a1, .int 10, .int ((-1)), .int ((-1)), .ref a2, .int 0, .int 0, .int 0, .int 0, .int 0, .ref a3, .int 0]))], [(a1, .inl (kA 1, 2000, .inl (upd (upd (upd f0 8 (vp_nar .byte ((v3 >>> (24 &&& 31)).toInt8.toInt32))) 9 (vp_nar .byte ((v3 >>> (16 &&& 31)).toInt8.toInt32))) 10 (vp_nar .byte ((v3 >>> (8 &&& 31)).toInt8.toInt32)))))]]) H := hP
  have hD : va_D A (cat [[(a0, .inr (8, [.ref a1, .int 10, .int ((-1)), .int ((-1)), .ref a2, .int 0, .int 0, .int 0, .int 0, .int 0, .ref a3, .int 0]))], [(a1, .inl (kA 1, 2000, .inl (upd (upd (upd f0 8 (vp_nar .byte ((v3 >>> (24 &&& 31)).toInt8.toInt32))) 9 (vp_nar .byte ((v3 >>> (16 &&& 31)).toInt8.toInt32))) 10 (vp_nar .byte ((v3 >>> (8 &&& 31)).toInt8.toInt32)))))]]) := hD
  refine lv_aload_n (pc := 20) hx hb d_Re_append_20 rfl (lv_at hl 1 rfl) ?_
  refine lv_dup (pc := 21) hx hb d_Re_append_21 rfl ?_
  refine k_get (pc := 22) X hK hP 0 rfl rfl i_Re 1 (by decide) wm_196 rfl rfl d_Re_append_22 ?_
  refine lv_iconst (pc := 25) (v := 1) hx hb d_Re_append_25 (by decide) ?_
  refine lv_iadd (pc := 26) hx hb d_Re_append_26 ?_
  refine k_cst (v := 11) (by decide) ?_
  refine k_put (pc := 27) X hK hP hD hS 0 rfl rfl i_Re t_Re t_Re_ok n_Re 1 (by decide) wm_196 rfl (Or.inl rfl) rfl rfl (Nat.le_of_ble_eq_true rfl) d_Re_append_27 (fun H locs hP hD hS => ?_)
  have hP : va_P D classes (cat [[(a0, .inr (8, [.ref a1, .int 11, .int ((-1)), .int ((-1)), .ref a2, .int 0, .int 0, .int 0, .int 0, .int 0, .ref a3, .int 0]))], [(a1, .inl (kA 1, 2000, .inl (upd (upd (upd f0 8 (vp_nar .byte ((v3 >>> (24 &&& 31)).toInt8.toInt32))) 9 (vp_nar .byte ((v3 >>> (16 &&& 31)).toInt8.toInt32))) 10 (vp_nar .byte ((v3 >>> (8 &&& 31)).toInt8.toInt32)))))]]) H := hP
  have hD : va_D A (cat [[(a0, .inr (8, [.ref a1, .int 11, .int ((-1)), .int ((-1)), .ref a2, .int 0, .int 0, .int 0, .int 0, .int 0, .ref a3, .int 0]))], [(a1, .inl (kA 1, 2000, .inl (upd (upd (upd f0 8 (vp_nar .byte ((v3 >>> (24 &&& 31)).toInt8.toInt32))) 9 (vp_nar .byte ((v3 >>> (16 &&& 31)).toInt8.toInt32))) 10 (vp_nar .byte ((v3 >>> (8 &&& 31)).toInt8.toInt32)))))]]) := hD
  refine lv_iinc (pc := 30) (v := 0) (lv' := [(2, .int 0), (0, .ref a0), (1, .int v3)]) hx hb d_Re_append_30 hl (k := 0) rfl (by decide) (by decide) rfl (fun ls hl => ?_)
  refine lv_goto (pc := 33) (tgt := 3) hx hb d_Re_append_33 (by decide) ?_
  refine lv_iload_n (pc := 3) hx hb d_Re_append_3 rfl (lv_at hl 0 rfl) ?_
  refine lv_if_lt (pc := 4) (tgt := 36) hx hb d_Re_append_4 (by decide) (fun c1 => absurd c1 (by decide)) (fun c1 => ?_)
  refine lv_aload_n (pc := 7) hx hb d_Re_append_7 rfl (lv_at hl 1 rfl) ?_
  refine k_get (pc := 8) X hK hP 0 rfl rfl i_Re 0 (by decide) wm_194 rfl rfl d_Re_append_8 ?_
  refine lv_aload_n (pc := 11) hx hb d_Re_append_11 rfl (lv_at hl 1 rfl) ?_
  refine k_get (pc := 12) X hK hP 0 rfl rfl i_Re 1 (by decide) wm_196 rfl rfl d_Re_append_12 ?_
  refine lv_iload_n (pc := 15) hx hb d_Re_append_15 rfl (lv_at hl 2 rfl) ?_
  refine lv_iload_n (pc := 16) hx hb d_Re_append_16 rfl (lv_at hl 0 rfl) ?_
  refine lv_ishr (pc := 17) hx hb d_Re_append_17 ?_
  refine lv_i2b (pc := 18) hx hb d_Re_append_18 rfl ?_
  refine k_bst (pc := 19) hx hb hK hP hD hS 1 1 rfl rfl (11) rfl (by decide) (by decide) d_Re_append_19 (fun H locs hP hD hS => ?_)
  have hP : va_P D classes (cat [[(a0, .inr (8, [.ref a1, .int 11, .int ((-1)), .int ((-1)), .ref a2, .int 0, .int 0, .int 0, .int 0, .int 0, .ref a3, .int 0]))], [(a1, .inl (kA 1, 2000, .inl (upd (upd (upd (upd f0 8 (vp_nar .byte ((v3 >>> (24 &&& 31)).toInt8.toInt32))) 9 (vp_nar .byte ((v3 >>> (16 &&& 31)).toInt8.toInt32))) 10 (vp_nar .byte ((v3 >>> (8 &&& 31)).toInt8.toInt32))) 11 (vp_nar .byte ((v3 >>> (0 &&& 31)).toInt8.toInt32)))))]]) H := hP
  have hD : va_D A (cat [[(a0, .inr (8, [.ref a1, .int 11, .int ((-1)), .int ((-1)), .ref a2, .int 0, .int 0, .int 0, .int 0, .int 0, .ref a3, .int 0]))], [(a1, .inl (kA 1, 2000, .inl (upd (upd (upd (upd f0 8 (vp_nar .byte ((v3 >>> (24 &&& 31)).toInt8.toInt32))) 9 (vp_nar .byte ((v3 >>> (16 &&& 31)).toInt8.toInt32))) 10 (vp_nar .byte ((v3 >>> (8 &&& 31)).toInt8.toInt32))) 11 (vp_nar .byte ((v3 >>> (0 &&& 31)).toInt8.toInt32)))))]]) := hD
  refine lv_aload_n (pc := 20) hx hb d_Re_append_20 rfl (lv_at hl 1 rfl) ?_
  refine lv_dup (pc := 21) hx hb d_Re_append_21 rfl ?_
  refine k_get (pc := 22) X hK hP 0 rfl rfl i_Re 1 (by decide) wm_196 rfl rfl d_Re_append_22 ?_
  refine lv_iconst (pc := 25) (v := 1) hx hb d_Re_append_25 (by decide) ?_
  refine lv_iadd (pc := 26) hx hb d_Re_append_26 ?_
  refine k_cst (v := 12) (by decide) ?_
  refine k_put (pc := 27) X hK hP hD hS 0 rfl rfl i_Re t_Re t_Re_ok n_Re 1 (by decide) wm_196 rfl (Or.inl rfl) rfl rfl (Nat.le_of_ble_eq_true rfl) d_Re_append_27 (fun H locs hP hD hS => ?_)
  have hP : va_P D classes (cat [[(a0, .inr (8, [.ref a1, .int 12, .int ((-1)), .int ((-1)), .ref a2, .int 0, .int 0, .int 0, .int 0, .int 0, .ref a3, .int 0]))], [(a1, .inl (kA 1, 2000, .inl (upd (upd (upd (upd f0 8 (vp_nar .byte ((v3 >>> (24 &&& 31)).toInt8.toInt32))) 9 (vp_nar .byte ((v3 >>> (16 &&& 31)).toInt8.toInt32))) 10 (vp_nar .byte ((v3 >>> (8 &&& 31)).toInt8.toInt32))) 11 (vp_nar .byte ((v3 >>> (0 &&& 31)).toInt8.toInt32)))))]]) H := hP
  have hD : va_D A (cat [[(a0, .inr (8, [.ref a1, .int 12, .int ((-1)), .int ((-1)), .ref a2, .int 0, .int 0, .int 0, .int 0, .int 0, .ref a3, .int 0]))], [(a1, .inl (kA 1, 2000, .inl (upd (upd (upd (upd f0 8 (vp_nar .byte ((v3 >>> (24 &&& 31)).toInt8.toInt32))) 9 (vp_nar .byte ((v3 >>> (16 &&& 31)).toInt8.toInt32))) 10 (vp_nar .byte ((v3 >>> (8 &&& 31)).toInt8.toInt32))) 11 (vp_nar .byte ((v3 >>> (0 &&& 31)).toInt8.toInt32)))))]]) := hD
  refine lv_iinc (pc := 30) (v := (-8)) (lv' := [(2, .int ((-8))), (0, .ref a0), (1, .int v3)]) hx hb d_Re_append_30 hl (k := 0) rfl (by decide) (by decide) rfl (fun ls hl => ?_)
  refine lv_goto (pc := 33) (tgt := 3) hx hb d_Re_append_33 (by decide) ?_
  refine lv_iload_n (pc := 3) hx hb d_Re_append_3 rfl (lv_at hl 0 rfl) ?_
  refine lv_if_lt (pc := 4) (tgt := 36) hx hb d_Re_append_4 (by decide) (fun c1 => ?_) (fun c1 => absurd (by decide) c1)
  refine W.widen (k := 0) (n := 0) (Nat.le_of_ble_eq_true rfl) (Nat.le_of_ble_eq_true rfl) ?_
  exact W.vret hx hb hr (fun t ht hW => ⟨⟨(), rfl, trivial, by rw [ht]; exact hP, va_K.moved hW.alike hK, hD⟩, hS.F ht⟩) hS.2.2 d_Re_append_36
set_option maxRecDepth 100000 in
set_option maxHeartbeats 4000000 in
/-- DrawingHouse$Reader.append(I)V -/
theorem c_Re_append_z4 (l : Launch) (D : va_G) (kA : Nat → ClassId) (a0 : Nat) (v4 : Int32) (a1 : Nat) (a2 : Nat) (a3 : Nat) (f0 : Nat → Int32) : Cv l y_Re_append z_Re_append { frames := 0, cells := 0, slots := 0, locals := 0 } D classes (TY kA) [.ref a0, .int v4] [[(a0, .inr (8, [.ref a1, .int 12, .int ((-1)), .int ((-1)), .ref a2, .int 0, .int 0, .int 0, .int 0, .int 0, .ref a3, .int 0]))], [(a1, .inl (kA 1, 2000, .inl f0))]] (fun _ : Unit => True) (fun u => [[(a0, .inr (8, [.ref a1, .int 16, .int ((-1)), .int ((-1)), .ref a2, .int 0, .int 0, .int 0, .int 0, .int 0, .ref a3, .int 0]))], [(a1, .inl (kA 1, 2000, .inl (upd (upd (upd (upd f0 12 (vp_nar .byte ((v4 >>> (24 &&& 31)).toInt8.toInt32))) 13 (vp_nar .byte ((v4 >>> (16 &&& 31)).toInt8.toInt32))) 14 (vp_nar .byte ((v4 >>> (8 &&& 31)).toInt8.toInt32))) 15 (vp_nar .byte ((v4 >>> (0 &&& 31)).toInt8.toInt32)))))]]) 0 0 := by
  intro sz
  refine k_met (cc := b_Re_append) (maxL := 3) (ret := none) (by decide) rfl (Nat.le_of_ble_eq_true rfl) (fun p e s m below meth c ls X hl hB => ?_)
  obtain ⟨hsz, hP, hK, hD0, hN⟩ := hB
  subst hsz
  have hD := hD0.self (sz := s.heap.size)
  generalize hAe : va_A (cat [[(a0, .inr (8, [.ref a1, .int 12, .int ((-1)), .int ((-1)), .ref a2, .int 0, .int 0, .int 0, .int 0, .int 0, .ref a3, .int 0]))], [(a1, .inl (kA 1, 2000, .inl f0))]]) s.heap.size = A at hD ⊢
  have hA : ∀ q : Nat, s.heap.size ≤ q → A q := fun q h => by rw [← hAe]; exact Or.inr h
  have hS : va_S A s.heap s.heap [] := va_S.rf
  obtain ⟨hx, hb, hml, hown, hts, hr, hlk, hnm⟩ := id X
  have hl : lv_has ls 3 [(0, .ref a0), (1, .int v4)] := hl
  have hP : va_P D classes (cat [[(a0, .inr (8, [.ref a1, .int 12, .int ((-1)), .int ((-1)), .ref a2, .int 0, .int 0, .int 0, .int 0, .int 0, .ref a3, .int 0]))], [(a1, .inl (kA 1, 2000, .inl f0))]]) s.heap := hP
  have hK : va_K D classes (TY kA) s := hK
  refine lv_bipush (pc := 0) (v := 24) hx hb d_Re_append_0 (by decide) ?_
  refine lv_istore_n (pc := 2) (lv' := [(2, .int 24), (0, .ref a0), (1, .int v4)]) hx hb d_Re_append_2 rfl hl (by decide) rfl (fun ls hl => ?_)
  refine lv_iload_n (pc := 3) hx hb d_Re_append_3 rfl (lv_at hl 0 rfl) ?_
  refine lv_if_lt (pc := 4) (tgt := 36) hx hb d_Re_append_4 (by decide) (fun c1 => absurd c1 (by decide)) (fun c1 => ?_)
  refine lv_aload_n (pc := 7) hx hb d_Re_append_7 rfl (lv_at hl 1 rfl) ?_
  refine k_get (pc := 8) X hK hP 0 rfl rfl i_Re 0 (by decide) wm_194 rfl rfl d_Re_append_8 ?_
  refine lv_aload_n (pc := 11) hx hb d_Re_append_11 rfl (lv_at hl 1 rfl) ?_
  refine k_get (pc := 12) X hK hP 0 rfl rfl i_Re 1 (by decide) wm_196 rfl rfl d_Re_append_12 ?_
  refine lv_iload_n (pc := 15) hx hb d_Re_append_15 rfl (lv_at hl 2 rfl) ?_
  refine lv_iload_n (pc := 16) hx hb d_Re_append_16 rfl (lv_at hl 0 rfl) ?_
  refine lv_ishr (pc := 17) hx hb d_Re_append_17 ?_
  refine lv_i2b (pc := 18) hx hb d_Re_append_18 rfl ?_
  refine k_bst (pc := 19) hx hb hK hP hD hS 1 1 rfl rfl (12) rfl (by decide) (by decide) d_Re_append_19 (fun H locs hP hD hS => ?_)
  have hP : va_P D classes (cat [[(a0, .inr (8, [.ref a1, .int 12, .int ((-1)), .int ((-1)), .ref a2, .int 0, .int 0, .int 0, .int 0, .int 0, .ref a3, .int 0]))], [(a1, .inl (kA 1, 2000, .inl (upd f0 12 (vp_nar .byte ((v4 >>> (24 &&& 31)).toInt8.toInt32)))))]]) H := hP
  have hD : va_D A (cat [[(a0, .inr (8, [.ref a1, .int 12, .int ((-1)), .int ((-1)), .ref a2, .int 0, .int 0, .int 0, .int 0, .int 0, .ref a3, .int 0]))], [(a1, .inl (kA 1, 2000, .inl (upd f0 12 (vp_nar .byte ((v4 >>> (24 &&& 31)).toInt8.toInt32)))))]]) := hD
  refine lv_aload_n (pc := 20) hx hb d_Re_append_20 rfl (lv_at hl 1 rfl) ?_
  refine lv_dup (pc := 21) hx hb d_Re_append_21 rfl ?_
  refine k_get (pc := 22) X hK hP 0 rfl rfl i_Re 1 (by decide) wm_196 rfl rfl d_Re_append_22 ?_
  refine lv_iconst (pc := 25) (v := 1) hx hb d_Re_append_25 (by decide) ?_
  refine lv_iadd (pc := 26) hx hb d_Re_append_26 ?_
  refine k_cst (v := 13) (by decide) ?_
  refine k_put (pc := 27) X hK hP hD hS 0 rfl rfl i_Re t_Re t_Re_ok n_Re 1 (by decide) wm_196 rfl (Or.inl rfl) rfl rfl (Nat.le_of_ble_eq_true rfl) d_Re_append_27 (fun H locs hP hD hS => ?_)
  have hP : va_P D classes (cat [[(a0, .inr (8, [.ref a1, .int 13, .int ((-1)), .int ((-1)), .ref a2, .int 0, .int 0, .int 0, .int 0, .int 0, .ref a3, .int 0]))], [(a1, .inl (kA 1, 2000, .inl (upd f0 12 (vp_nar .byte ((v4 >>> (24 &&& 31)).toInt8.toInt32)))))]]) H := hP
  have hD : va_D A (cat [[(a0, .inr (8, [.ref a1, .int 13, .int ((-1)), .int ((-1)), .ref a2, .int 0, .int 0, .int 0, .int 0, .int 0, .ref a3, .int 0]))], [(a1, .inl (kA 1, 2000, .inl (upd f0 12 (vp_nar .byte ((v4 >>> (24 &&& 31)).toInt8.toInt32)))))]]) := hD
  refine lv_iinc (pc := 30) (v := 16) (lv' := [(2, .int 16), (0, .ref a0), (1, .int v4)]) hx hb d_Re_append_30 hl (k := 0) rfl (by decide) (by decide) rfl (fun ls hl => ?_)
  refine lv_goto (pc := 33) (tgt := 3) hx hb d_Re_append_33 (by decide) ?_
  refine lv_iload_n (pc := 3) hx hb d_Re_append_3 rfl (lv_at hl 0 rfl) ?_
  refine lv_if_lt (pc := 4) (tgt := 36) hx hb d_Re_append_4 (by decide) (fun c1 => absurd c1 (by decide)) (fun c1 => ?_)
  refine lv_aload_n (pc := 7) hx hb d_Re_append_7 rfl (lv_at hl 1 rfl) ?_
  refine k_get (pc := 8) X hK hP 0 rfl rfl i_Re 0 (by decide) wm_194 rfl rfl d_Re_append_8 ?_
  refine lv_aload_n (pc := 11) hx hb d_Re_append_11 rfl (lv_at hl 1 rfl) ?_
  refine k_get (pc := 12) X hK hP 0 rfl rfl i_Re 1 (by decide) wm_196 rfl rfl d_Re_append_12 ?_
  refine lv_iload_n (pc := 15) hx hb d_Re_append_15 rfl (lv_at hl 2 rfl) ?_
  refine lv_iload_n (pc := 16) hx hb d_Re_append_16 rfl (lv_at hl 0 rfl) ?_
  refine lv_ishr (pc := 17) hx hb d_Re_append_17 ?_
  refine lv_i2b (pc := 18) hx hb d_Re_append_18 rfl ?_
  refine k_bst (pc := 19) hx hb hK hP hD hS 1 1 rfl rfl (13) rfl (by decide) (by decide) d_Re_append_19 (fun H locs hP hD hS => ?_)
  have hP : va_P D classes (cat [[(a0, .inr (8, [.ref a1, .int 13, .int ((-1)), .int ((-1)), .ref a2, .int 0, .int 0, .int 0, .int 0, .int 0, .ref a3, .int 0]))], [(a1, .inl (kA 1, 2000, .inl (upd (upd f0 12 (vp_nar .byte ((v4 >>> (24 &&& 31)).toInt8.toInt32))) 13 (vp_nar .byte ((v4 >>> (16 &&& 31)).toInt8.toInt32)))))]]) H := hP
  have hD : va_D A (cat [[(a0, .inr (8, [.ref a1, .int 13, .int ((-1)), .int ((-1)), .ref a2, .int 0, .int 0, .int 0, .int 0, .int 0, .ref a3, .int 0]))], [(a1, .inl (kA 1, 2000, .inl (upd (upd f0 12 (vp_nar .byte ((v4 >>> (24 &&& 31)).toInt8.toInt32))) 13 (vp_nar .byte ((v4 >>> (16 &&& 31)).toInt8.toInt32)))))]]) := hD
  refine lv_aload_n (pc := 20) hx hb d_Re_append_20 rfl (lv_at hl 1 rfl) ?_
  refine lv_dup (pc := 21) hx hb d_Re_append_21 rfl ?_
  refine k_get (pc := 22) X hK hP 0 rfl rfl i_Re 1 (by decide) wm_196 rfl rfl d_Re_append_22 ?_
  refine lv_iconst (pc := 25) (v := 1) hx hb d_Re_append_25 (by decide) ?_
  refine lv_iadd (pc := 26) hx hb d_Re_append_26 ?_
  refine k_cst (v := 14) (by decide) ?_
  refine k_put (pc := 27) X hK hP hD hS 0 rfl rfl i_Re t_Re t_Re_ok n_Re 1 (by decide) wm_196 rfl (Or.inl rfl) rfl rfl (Nat.le_of_ble_eq_true rfl) d_Re_append_27 (fun H locs hP hD hS => ?_)
  have hP : va_P D classes (cat [[(a0, .inr (8, [.ref a1, .int 14, .int ((-1)), .int ((-1)), .ref a2, .int 0, .int 0, .int 0, .int 0, .int 0, .ref a3, .int 0]))], [(a1, .inl (kA 1, 2000, .inl (upd (upd f0 12 (vp_nar .byte ((v4 >>> (24 &&& 31)).toInt8.toInt32))) 13 (vp_nar .byte ((v4 >>> (16 &&& 31)).toInt8.toInt32)))))]]) H := hP
  have hD : va_D A (cat [[(a0, .inr (8, [.ref a1, .int 14, .int ((-1)), .int ((-1)), .ref a2, .int 0, .int 0, .int 0, .int 0, .int 0, .ref a3, .int 0]))], [(a1, .inl (kA 1, 2000, .inl (upd (upd f0 12 (vp_nar .byte ((v4 >>> (24 &&& 31)).toInt8.toInt32))) 13 (vp_nar .byte ((v4 >>> (16 &&& 31)).toInt8.toInt32)))))]]) := hD
  refine lv_iinc (pc := 30) (v := 8) (lv' := [(2, .int 8), (0, .ref a0), (1, .int v4)]) hx hb d_Re_append_30 hl (k := 0) rfl (by decide) (by decide) rfl (fun ls hl => ?_)
  refine lv_goto (pc := 33) (tgt := 3) hx hb d_Re_append_33 (by decide) ?_
  refine lv_iload_n (pc := 3) hx hb d_Re_append_3 rfl (lv_at hl 0 rfl) ?_
  refine lv_if_lt (pc := 4) (tgt := 36) hx hb d_Re_append_4 (by decide) (fun c1 => absurd c1 (by decide)) (fun c1 => ?_)
  refine lv_aload_n (pc := 7) hx hb d_Re_append_7 rfl (lv_at hl 1 rfl) ?_
  refine k_get (pc := 8) X hK hP 0 rfl rfl i_Re 0 (by decide) wm_194 rfl rfl d_Re_append_8 ?_
  refine lv_aload_n (pc := 11) hx hb d_Re_append_11 rfl (lv_at hl 1 rfl) ?_
  refine k_get (pc := 12) X hK hP 0 rfl rfl i_Re 1 (by decide) wm_196 rfl rfl d_Re_append_12 ?_
  refine lv_iload_n (pc := 15) hx hb d_Re_append_15 rfl (lv_at hl 2 rfl) ?_
  refine lv_iload_n (pc := 16) hx hb d_Re_append_16 rfl (lv_at hl 0 rfl) ?_
  refine lv_ishr (pc := 17) hx hb d_Re_append_17 ?_
  refine lv_i2b (pc := 18) hx hb d_Re_append_18 rfl ?_
  refine k_bst (pc := 19) hx hb hK hP hD hS 1 1 rfl rfl (14) rfl (by decide) (by decide) d_Re_append_19 (fun H locs hP hD hS => ?_)
  have hP : va_P D classes (cat [[(a0, .inr (8, [.ref a1, .int 14, .int ((-1)), .int ((-1)), .ref a2, .int 0, .int 0, .int 0, .int 0, .int 0, .ref a3, .int 0]))], [(a1, .inl (kA 1, 2000, .inl (upd (upd (upd f0 12 (vp_nar .byte ((v4 >>> (24 &&& 31)).toInt8.toInt32))) 13 (vp_nar .byte ((v4 >>> (16 &&& 31)).toInt8.toInt32))) 14 (vp_nar .byte ((v4 >>> (8 &&& 31)).toInt8.toInt32)))))]]) H := hP
  have hD : va_D A (cat [[(a0, .inr (8, [.ref a1, .int 14, .int ((-1)), .int ((-1)), .ref a2, .int 0, .int 0, .int 0, .int 0, .int 0, .ref a3, .int 0]))], [(a1, .inl (kA 1, 2000, .inl (upd (upd (upd f0 12 (vp_nar .byte ((v4 >>> (24 &&& 31)).toInt8.toInt32))) 13 (vp_nar .byte ((v4 >>> (16 &&& 31)).toInt8.toInt32))) 14 (vp_nar .byte ((v4 >>> (8 &&& 31)).toInt8.toInt32)))))]]) := hD
  refine lv_aload_n (pc := 20) hx hb d_Re_append_20 rfl (lv_at hl 1 rfl) ?_
  refine lv_dup (pc := 21) hx hb d_Re_append_21 rfl ?_
  refine k_get (pc := 22) X hK hP 0 rfl rfl i_Re 1 (by decide) wm_196 rfl rfl d_Re_append_22 ?_
  refine lv_iconst (pc := 25) (v := 1) hx hb d_Re_append_25 (by decide) ?_
  refine lv_iadd (pc := 26) hx hb d_Re_append_26 ?_
  refine k_cst (v := 15) (by decide) ?_
  refine k_put (pc := 27) X hK hP hD hS 0 rfl rfl i_Re t_Re t_Re_ok n_Re 1 (by decide) wm_196 rfl (Or.inl rfl) rfl rfl (Nat.le_of_ble_eq_true rfl) d_Re_append_27 (fun H locs hP hD hS => ?_)
  have hP : va_P D classes (cat [[(a0, .inr (8, [.ref a1, .int 15, .int ((-1)), .int ((-1)), .ref a2, .int 0, .int 0, .int 0, .int 0, .int 0, .ref a3, .int 0]))], [(a1, .inl (kA 1, 2000, .inl (upd (upd (upd f0 12 (vp_nar .byte ((v4 >>> (24 &&& 31)).toInt8.toInt32))) 13 (vp_nar .byte ((v4 >>> (16 &&& 31)).toInt8.toInt32))) 14 (vp_nar .byte ((v4 >>> (8 &&& 31)).toInt8.toInt32)))))]]) H := hP
  have hD : va_D A (cat [[(a0, .inr (8, [.ref a1, .int 15, .int ((-1)), .int ((-1)), .ref a2, .int 0, .int 0, .int 0, .int 0, .int 0, .ref a3, .int 0]))], [(a1, .inl (kA 1, 2000, .inl (upd (upd (upd f0 12 (vp_nar .byte ((v4 >>> (24 &&& 31)).toInt8.toInt32))) 13 (vp_nar .byte ((v4 >>> (16 &&& 31)).toInt8.toInt32))) 14 (vp_nar .byte ((v4 >>> (8 &&& 31)).toInt8.toInt32)))))]]) := hD
  refine lv_iinc (pc := 30) (v := 0) (lv' := [(2, .int 0), (0, .ref a0), (1, .int v4)]) hx hb d_Re_append_30 hl (k := 0) rfl (by decide) (by decide) rfl (fun ls hl => ?_)
  refine lv_goto (pc := 33) (tgt := 3) hx hb d_Re_append_33 (by decide) ?_
  refine lv_iload_n (pc := 3) hx hb d_Re_append_3 rfl (lv_at hl 0 rfl) ?_
  refine lv_if_lt (pc := 4) (tgt := 36) hx hb d_Re_append_4 (by decide) (fun c1 => absurd c1 (by decide)) (fun c1 => ?_)
  refine lv_aload_n (pc := 7) hx hb d_Re_append_7 rfl (lv_at hl 1 rfl) ?_
  refine k_get (pc := 8) X hK hP 0 rfl rfl i_Re 0 (by decide) wm_194 rfl rfl d_Re_append_8 ?_
  refine lv_aload_n (pc := 11) hx hb d_Re_append_11 rfl (lv_at hl 1 rfl) ?_
  refine k_get (pc := 12) X hK hP 0 rfl rfl i_Re 1 (by decide) wm_196 rfl rfl d_Re_append_12 ?_
  refine lv_iload_n (pc := 15) hx hb d_Re_append_15 rfl (lv_at hl 2 rfl) ?_
  refine lv_iload_n (pc := 16) hx hb d_Re_append_16 rfl (lv_at hl 0 rfl) ?_
  refine lv_ishr (pc := 17) hx hb d_Re_append_17 ?_
  refine lv_i2b (pc := 18) hx hb d_Re_append_18 rfl ?_
  refine k_bst (pc := 19) hx hb hK hP hD hS 1 1 rfl rfl (15) rfl (by decide) (by decide) d_Re_append_19 (fun H locs hP hD hS => ?_)
  have hP : va_P D classes (cat [[(a0, .inr (8, [.ref a1, .int 15, .int ((-1)), .int ((-1)), .ref a2, .int 0, .int 0, .int 0, .int 0, .int 0, .ref a3, .int 0]))], [(a1, .inl (kA 1, 2000, .inl (upd (upd (upd (upd f0 12 (vp_nar .byte ((v4 >>> (24 &&& 31)).toInt8.toInt32))) 13 (vp_nar .byte ((v4 >>> (16 &&& 31)).toInt8.toInt32))) 14 (vp_nar .byte ((v4 >>> (8 &&& 31)).toInt8.toInt32))) 15 (vp_nar .byte ((v4 >>> (0 &&& 31)).toInt8.toInt32)))))]]) H := hP
  have hD : va_D A (cat [[(a0, .inr (8, [.ref a1, .int 15, .int ((-1)), .int ((-1)), .ref a2, .int 0, .int 0, .int 0, .int 0, .int 0, .ref a3, .int 0]))], [(a1, .inl (kA 1, 2000, .inl (upd (upd (upd (upd f0 12 (vp_nar .byte ((v4 >>> (24 &&& 31)).toInt8.toInt32))) 13 (vp_nar .byte ((v4 >>> (16 &&& 31)).toInt8.toInt32))) 14 (vp_nar .byte ((v4 >>> (8 &&& 31)).toInt8.toInt32))) 15 (vp_nar .byte ((v4 >>> (0 &&& 31)).toInt8.toInt32)))))]]) := hD
  refine lv_aload_n (pc := 20) hx hb d_Re_append_20 rfl (lv_at hl 1 rfl) ?_
  refine lv_dup (pc := 21) hx hb d_Re_append_21 rfl ?_
  refine k_get (pc := 22) X hK hP 0 rfl rfl i_Re 1 (by decide) wm_196 rfl rfl d_Re_append_22 ?_
  refine lv_iconst (pc := 25) (v := 1) hx hb d_Re_append_25 (by decide) ?_
  refine lv_iadd (pc := 26) hx hb d_Re_append_26 ?_
  refine k_cst (v := 16) (by decide) ?_
  refine k_put (pc := 27) X hK hP hD hS 0 rfl rfl i_Re t_Re t_Re_ok n_Re 1 (by decide) wm_196 rfl (Or.inl rfl) rfl rfl (Nat.le_of_ble_eq_true rfl) d_Re_append_27 (fun H locs hP hD hS => ?_)
  have hP : va_P D classes (cat [[(a0, .inr (8, [.ref a1, .int 16, .int ((-1)), .int ((-1)), .ref a2, .int 0, .int 0, .int 0, .int 0, .int 0, .ref a3, .int 0]))], [(a1, .inl (kA 1, 2000, .inl (upd (upd (upd (upd f0 12 (vp_nar .byte ((v4 >>> (24 &&& 31)).toInt8.toInt32))) 13 (vp_nar .byte ((v4 >>> (16 &&& 31)).toInt8.toInt32))) 14 (vp_nar .byte ((v4 >>> (8 &&& 31)).toInt8.toInt32))) 15 (vp_nar .byte ((v4 >>> (0 &&& 31)).toInt8.toInt32)))))]]) H := hP
  have hD : va_D A (cat [[(a0, .inr (8, [.ref a1, .int 16, .int ((-1)), .int ((-1)), .ref a2, .int 0, .int 0, .int 0, .int 0, .int 0, .ref a3, .int 0]))], [(a1, .inl (kA 1, 2000, .inl (upd (upd (upd (upd f0 12 (vp_nar .byte ((v4 >>> (24 &&& 31)).toInt8.toInt32))) 13 (vp_nar .byte ((v4 >>> (16 &&& 31)).toInt8.toInt32))) 14 (vp_nar .byte ((v4 >>> (8 &&& 31)).toInt8.toInt32))) 15 (vp_nar .byte ((v4 >>> (0 &&& 31)).toInt8.toInt32)))))]]) := hD
  refine lv_iinc (pc := 30) (v := (-8)) (lv' := [(2, .int ((-8))), (0, .ref a0), (1, .int v4)]) hx hb d_Re_append_30 hl (k := 0) rfl (by decide) (by decide) rfl (fun ls hl => ?_)
  refine lv_goto (pc := 33) (tgt := 3) hx hb d_Re_append_33 (by decide) ?_
  refine lv_iload_n (pc := 3) hx hb d_Re_append_3 rfl (lv_at hl 0 rfl) ?_
  refine lv_if_lt (pc := 4) (tgt := 36) hx hb d_Re_append_4 (by decide) (fun c1 => ?_) (fun c1 => absurd (by decide) c1)
  refine W.widen (k := 0) (n := 0) (Nat.le_of_ble_eq_true rfl) (Nat.le_of_ble_eq_true rfl) ?_
  exact W.vret hx hb hr (fun t ht hW => ⟨⟨(), rfl, trivial, by rw [ht]; exact hP, va_K.moved hW.alike hK, hD⟩, hS.F ht⟩) hS.2.2 d_Re_append_36
set_option maxRecDepth 100000 in
set_option maxHeartbeats 4000000 in
/-- DrawingHouse$Reader.append(I)V -/
theorem c_Re_append_z5 (l : Launch) (D : va_G) (kA : Nat → ClassId) (a0 : Nat) (v5 : Int32) (a1 : Nat) (a2 : Nat) (a3 : Nat) (f0 : Nat → Int32) : Cv l y_Re_append z_Re_append { frames := 0, cells := 0, slots := 0, locals := 0 } D classes (TY kA) [.ref a0, .int v5] [[(a0, .inr (8, [.ref a1, .int 16, .int ((-1)), .int ((-1)), .ref a2, .int 0, .int 0, .int 0, .int 0, .int 0, .ref a3, .int 0]))], [(a1, .inl (kA 1, 2000, .inl f0))]] (fun _ : Unit => True) (fun u => [[(a0, .inr (8, [.ref a1, .int 20, .int ((-1)), .int ((-1)), .ref a2, .int 0, .int 0, .int 0, .int 0, .int 0, .ref a3, .int 0]))], [(a1, .inl (kA 1, 2000, .inl (upd (upd (upd (upd f0 16 (vp_nar .byte ((v5 >>> (24 &&& 31)).toInt8.toInt32))) 17 (vp_nar .byte ((v5 >>> (16 &&& 31)).toInt8.toInt32))) 18 (vp_nar .byte ((v5 >>> (8 &&& 31)).toInt8.toInt32))) 19 (vp_nar .byte ((v5 >>> (0 &&& 31)).toInt8.toInt32)))))]]) 0 0 := by
  intro sz
  refine k_met (cc := b_Re_append) (maxL := 3) (ret := none) (by decide) rfl (Nat.le_of_ble_eq_true rfl) (fun p e s m below meth c ls X hl hB => ?_)
  obtain ⟨hsz, hP, hK, hD0, hN⟩ := hB
  subst hsz
  have hD := hD0.self (sz := s.heap.size)
  generalize hAe : va_A (cat [[(a0, .inr (8, [.ref a1, .int 16, .int ((-1)), .int ((-1)), .ref a2, .int 0, .int 0, .int 0, .int 0, .int 0, .ref a3, .int 0]))], [(a1, .inl (kA 1, 2000, .inl f0))]]) s.heap.size = A at hD ⊢
  have hA : ∀ q : Nat, s.heap.size ≤ q → A q := fun q h => by rw [← hAe]; exact Or.inr h
  have hS : va_S A s.heap s.heap [] := va_S.rf
  obtain ⟨hx, hb, hml, hown, hts, hr, hlk, hnm⟩ := id X
  have hl : lv_has ls 3 [(0, .ref a0), (1, .int v5)] := hl
  have hP : va_P D classes (cat [[(a0, .inr (8, [.ref a1, .int 16, .int ((-1)), .int ((-1)), .ref a2, .int 0, .int 0, .int 0, .int 0, .int 0, .ref a3, .int 0]))], [(a1, .inl (kA 1, 2000, .inl f0))]]) s.heap := hP
  have hK : va_K D classes (TY kA) s := hK
  refine lv_bipush (pc := 0) (v := 24) hx hb d_Re_append_0 (by decide) ?_
  refine lv_istore_n (pc := 2) (lv' := [(2, .int 24), (0, .ref a0), (1, .int v5)]) hx hb d_Re_append_2 rfl hl (by decide) rfl (fun ls hl => ?_)
  refine lv_iload_n (pc := 3) hx hb d_Re_append_3 rfl (lv_at hl 0 rfl) ?_
  refine lv_if_lt (pc := 4) (tgt := 36) hx hb d_Re_append_4 (by decide) (fun c1 => absurd c1 (by decide)) (fun c1 => ?_)
  refine lv_aload_n (pc := 7) hx hb d_Re_append_7 rfl (lv_at hl 1 rfl) ?_
  refine k_get (pc := 8) X hK hP 0 rfl rfl i_Re 0 (by decide) wm_194 rfl rfl d_Re_append_8 ?_
  refine lv_aload_n (pc := 11) hx hb d_Re_append_11 rfl (lv_at hl 1 rfl) ?_
  refine k_get (pc := 12) X hK hP 0 rfl rfl i_Re 1 (by decide) wm_196 rfl rfl d_Re_append_12 ?_
  refine lv_iload_n (pc := 15) hx hb d_Re_append_15 rfl (lv_at hl 2 rfl) ?_
  refine lv_iload_n (pc := 16) hx hb d_Re_append_16 rfl (lv_at hl 0 rfl) ?_
  refine lv_ishr (pc := 17) hx hb d_Re_append_17 ?_
  refine lv_i2b (pc := 18) hx hb d_Re_append_18 rfl ?_
  refine k_bst (pc := 19) hx hb hK hP hD hS 1 1 rfl rfl (16) rfl (by decide) (by decide) d_Re_append_19 (fun H locs hP hD hS => ?_)
  have hP : va_P D classes (cat [[(a0, .inr (8, [.ref a1, .int 16, .int ((-1)), .int ((-1)), .ref a2, .int 0, .int 0, .int 0, .int 0, .int 0, .ref a3, .int 0]))], [(a1, .inl (kA 1, 2000, .inl (upd f0 16 (vp_nar .byte ((v5 >>> (24 &&& 31)).toInt8.toInt32)))))]]) H := hP
  have hD : va_D A (cat [[(a0, .inr (8, [.ref a1, .int 16, .int ((-1)), .int ((-1)), .ref a2, .int 0, .int 0, .int 0, .int 0, .int 0, .ref a3, .int 0]))], [(a1, .inl (kA 1, 2000, .inl (upd f0 16 (vp_nar .byte ((v5 >>> (24 &&& 31)).toInt8.toInt32)))))]]) := hD
  refine lv_aload_n (pc := 20) hx hb d_Re_append_20 rfl (lv_at hl 1 rfl) ?_
  refine lv_dup (pc := 21) hx hb d_Re_append_21 rfl ?_
  refine k_get (pc := 22) X hK hP 0 rfl rfl i_Re 1 (by decide) wm_196 rfl rfl d_Re_append_22 ?_
  refine lv_iconst (pc := 25) (v := 1) hx hb d_Re_append_25 (by decide) ?_
  refine lv_iadd (pc := 26) hx hb d_Re_append_26 ?_
  refine k_cst (v := 17) (by decide) ?_
  refine k_put (pc := 27) X hK hP hD hS 0 rfl rfl i_Re t_Re t_Re_ok n_Re 1 (by decide) wm_196 rfl (Or.inl rfl) rfl rfl (Nat.le_of_ble_eq_true rfl) d_Re_append_27 (fun H locs hP hD hS => ?_)
  have hP : va_P D classes (cat [[(a0, .inr (8, [.ref a1, .int 17, .int ((-1)), .int ((-1)), .ref a2, .int 0, .int 0, .int 0, .int 0, .int 0, .ref a3, .int 0]))], [(a1, .inl (kA 1, 2000, .inl (upd f0 16 (vp_nar .byte ((v5 >>> (24 &&& 31)).toInt8.toInt32)))))]]) H := hP
  have hD : va_D A (cat [[(a0, .inr (8, [.ref a1, .int 17, .int ((-1)), .int ((-1)), .ref a2, .int 0, .int 0, .int 0, .int 0, .int 0, .ref a3, .int 0]))], [(a1, .inl (kA 1, 2000, .inl (upd f0 16 (vp_nar .byte ((v5 >>> (24 &&& 31)).toInt8.toInt32)))))]]) := hD
  refine lv_iinc (pc := 30) (v := 16) (lv' := [(2, .int 16), (0, .ref a0), (1, .int v5)]) hx hb d_Re_append_30 hl (k := 0) rfl (by decide) (by decide) rfl (fun ls hl => ?_)
  refine lv_goto (pc := 33) (tgt := 3) hx hb d_Re_append_33 (by decide) ?_
  refine lv_iload_n (pc := 3) hx hb d_Re_append_3 rfl (lv_at hl 0 rfl) ?_
  refine lv_if_lt (pc := 4) (tgt := 36) hx hb d_Re_append_4 (by decide) (fun c1 => absurd c1 (by decide)) (fun c1 => ?_)
  refine lv_aload_n (pc := 7) hx hb d_Re_append_7 rfl (lv_at hl 1 rfl) ?_
  refine k_get (pc := 8) X hK hP 0 rfl rfl i_Re 0 (by decide) wm_194 rfl rfl d_Re_append_8 ?_
  refine lv_aload_n (pc := 11) hx hb d_Re_append_11 rfl (lv_at hl 1 rfl) ?_
  refine k_get (pc := 12) X hK hP 0 rfl rfl i_Re 1 (by decide) wm_196 rfl rfl d_Re_append_12 ?_
  refine lv_iload_n (pc := 15) hx hb d_Re_append_15 rfl (lv_at hl 2 rfl) ?_
  refine lv_iload_n (pc := 16) hx hb d_Re_append_16 rfl (lv_at hl 0 rfl) ?_
  refine lv_ishr (pc := 17) hx hb d_Re_append_17 ?_
  refine lv_i2b (pc := 18) hx hb d_Re_append_18 rfl ?_
  refine k_bst (pc := 19) hx hb hK hP hD hS 1 1 rfl rfl (17) rfl (by decide) (by decide) d_Re_append_19 (fun H locs hP hD hS => ?_)
  have hP : va_P D classes (cat [[(a0, .inr (8, [.ref a1, .int 17, .int ((-1)), .int ((-1)), .ref a2, .int 0, .int 0, .int 0, .int 0, .int 0, .ref a3, .int 0]))], [(a1, .inl (kA 1, 2000, .inl (upd (upd f0 16 (vp_nar .byte ((v5 >>> (24 &&& 31)).toInt8.toInt32))) 17 (vp_nar .byte ((v5 >>> (16 &&& 31)).toInt8.toInt32)))))]]) H := hP
  have hD : va_D A (cat [[(a0, .inr (8, [.ref a1, .int 17, .int ((-1)), .int ((-1)), .ref a2, .int 0, .int 0, .int 0, .int 0, .int 0, .ref a3, .int 0]))], [(a1, .inl (kA 1, 2000, .inl (upd (upd f0 16 (vp_nar .byte ((v5 >>> (24 &&& 31)).toInt8.toInt32))) 17 (vp_nar .byte ((v5 >>> (16 &&& 31)).toInt8.toInt32)))))]]) := hD
  refine lv_aload_n (pc := 20) hx hb d_Re_append_20 rfl (lv_at hl 1 rfl) ?_
  refine lv_dup (pc := 21) hx hb d_Re_append_21 rfl ?_
  refine k_get (pc := 22) X hK hP 0 rfl rfl i_Re 1 (by decide) wm_196 rfl rfl d_Re_append_22 ?_
  refine lv_iconst (pc := 25) (v := 1) hx hb d_Re_append_25 (by decide) ?_
  refine lv_iadd (pc := 26) hx hb d_Re_append_26 ?_
  refine k_cst (v := 18) (by decide) ?_
  refine k_put (pc := 27) X hK hP hD hS 0 rfl rfl i_Re t_Re t_Re_ok n_Re 1 (by decide) wm_196 rfl (Or.inl rfl) rfl rfl (Nat.le_of_ble_eq_true rfl) d_Re_append_27 (fun H locs hP hD hS => ?_)
  have hP : va_P D classes (cat [[(a0, .inr (8, [.ref a1, .int 18, .int ((-1)), .int ((-1)), .ref a2, .int 0, .int 0, .int 0, .int 0, .int 0, .ref a3, .int 0]))], [(a1, .inl (kA 1, 2000, .inl (upd (upd f0 16 (vp_nar .byte ((v5 >>> (24 &&& 31)).toInt8.toInt32))) 17 (vp_nar .byte ((v5 >>> (16 &&& 31)).toInt8.toInt32)))))]]) H := hP
  have hD : va_D A (cat [[(a0, .inr (8, [.ref a1, .int 18, .int ((-1)), .int ((-1)), .ref a2, .int 0, .int 0, .int 0, .int 0, .int 0, .ref a3, .int 0]))], [(a1, .inl (kA 1, 2000, .inl (upd (upd f0 16 (vp_nar .byte ((v5 >>> (24 &&& 31)).toInt8.toInt32))) 17 (vp_nar .byte ((v5 >>> (16 &&& 31)).toInt8.toInt32)))))]]) := hD
  refine lv_iinc (pc := 30) (v := 8) (lv' := [(2, .int 8), (0, .ref a0), (1, .int v5)]) hx hb d_Re_append_30 hl (k := 0) rfl (by decide) (by decide) rfl (fun ls hl => ?_)
  refine lv_goto (pc := 33) (tgt := 3) hx hb d_Re_append_33 (by decide) ?_
  refine lv_iload_n (pc := 3) hx hb d_Re_append_3 rfl (lv_at hl 0 rfl) ?_
  refine lv_if_lt (pc := 4) (tgt := 36) hx hb d_Re_append_4 (by decide) (fun c1 => absurd c1 (by decide)) (fun c1 => ?_)
  refine lv_aload_n (pc := 7) hx hb d_Re_append_7 rfl (lv_at hl 1 rfl) ?_
  refine k_get (pc := 8) X hK hP 0 rfl rfl i_Re 0 (by decide) wm_194 rfl rfl d_Re_append_8 ?_
  refine lv_aload_n (pc := 11) hx hb d_Re_append_11 rfl (lv_at hl 1 rfl) ?_
  refine k_get (pc := 12) X hK hP 0 rfl rfl i_Re 1 (by decide) wm_196 rfl rfl d_Re_append_12 ?_
  refine lv_iload_n (pc := 15) hx hb d_Re_append_15 rfl (lv_at hl 2 rfl) ?_
  refine lv_iload_n (pc := 16) hx hb d_Re_append_16 rfl (lv_at hl 0 rfl) ?_
  refine lv_ishr (pc := 17) hx hb d_Re_append_17 ?_
  refine lv_i2b (pc := 18) hx hb d_Re_append_18 rfl ?_
  refine k_bst (pc := 19) hx hb hK hP hD hS 1 1 rfl rfl (18) rfl (by decide) (by decide) d_Re_append_19 (fun H locs hP hD hS => ?_)
  have hP : va_P D classes (cat [[(a0, .inr (8, [.ref a1, .int 18, .int ((-1)), .int ((-1)), .ref a2, .int 0, .int 0, .int 0, .int 0, .int 0, .ref a3, .int 0]))], [(a1, .inl (kA 1, 2000, .inl (upd (upd (upd f0 16 (vp_nar .byte ((v5 >>> (24 &&& 31)).toInt8.toInt32))) 17 (vp_nar .byte ((v5 >>> (16 &&& 31)).toInt8.toInt32))) 18 (vp_nar .byte ((v5 >>> (8 &&& 31)).toInt8.toInt32)))))]]) H := hP
  have hD : va_D A (cat [[(a0, .inr (8, [.ref a1, .int 18, .int ((-1)), .int ((-1)), .ref a2, .int 0, .int 0, .int 0, .int 0, .int 0, .ref a3, .int 0]))], [(a1, .inl (kA 1, 2000, .inl (upd (upd (upd f0 16 (vp_nar .byte ((v5 >>> (24 &&& 31)).toInt8.toInt32))) 17 (vp_nar .byte ((v5 >>> (16 &&& 31)).toInt8.toInt32))) 18 (vp_nar .byte ((v5 >>> (8 &&& 31)).toInt8.toInt32)))))]]) := hD
  refine lv_aload_n (pc := 20) hx hb d_Re_append_20 rfl (lv_at hl 1 rfl) ?_
  refine lv_dup (pc := 21) hx hb d_Re_append_21 rfl ?_
  refine k_get (pc := 22) X hK hP 0 rfl rfl i_Re 1 (by decide) wm_196 rfl rfl d_Re_append_22 ?_
  refine lv_iconst (pc := 25) (v := 1) hx hb d_Re_append_25 (by decide) ?_
  refine lv_iadd (pc := 26) hx hb d_Re_append_26 ?_
  refine k_cst (v := 19) (by decide) ?_
  refine k_put (pc := 27) X hK hP hD hS 0 rfl rfl i_Re t_Re t_Re_ok n_Re 1 (by decide) wm_196 rfl (Or.inl rfl) rfl rfl (Nat.le_of_ble_eq_true rfl) d_Re_append_27 (fun H locs hP hD hS => ?_)
  have hP : va_P D classes (cat [[(a0, .inr (8, [.ref a1, .int 19, .int ((-1)), .int ((-1)), .ref a2, .int 0, .int 0, .int 0, .int 0, .int 0, .ref a3, .int 0]))], [(a1, .inl (kA 1, 2000, .inl (upd (upd (upd f0 16 (vp_nar .byte ((v5 >>> (24 &&& 31)).toInt8.toInt32))) 17 (vp_nar .byte ((v5 >>> (16 &&& 31)).toInt8.toInt32))) 18 (vp_nar .byte ((v5 >>> (8 &&& 31)).toInt8.toInt32)))))]]) H := hP
  have hD : va_D A (cat [[(a0, .inr (8, [.ref a1, .int 19, .int ((-1)), .int ((-1)), .ref a2, .int 0, .int 0, .int 0, .int 0, .int 0, .ref a3, .int 0]))], [(a1, .inl (kA 1, 2000, .inl (upd (upd (upd f0 16 (vp_nar .byte ((v5 >>> (24 &&& 31)).toInt8.toInt32))) 17 (vp_nar .byte ((v5 >>> (16 &&& 31)).toInt8.toInt32))) 18 (vp_nar .byte ((v5 >>> (8 &&& 31)).toInt8.toInt32)))))]]) := hD
  refine lv_iinc (pc := 30) (v := 0) (lv' := [(2, .int 0), (0, .ref a0), (1, .int v5)]) hx hb d_Re_append_30 hl (k := 0) rfl (by decide) (by decide) rfl (fun ls hl => ?_)
  refine lv_goto (pc := 33) (tgt := 3) hx hb d_Re_append_33 (by decide) ?_
  refine lv_iload_n (pc := 3) hx hb d_Re_append_3 rfl (lv_at hl 0 rfl) ?_
  refine lv_if_lt (pc := 4) (tgt := 36) hx hb d_Re_append_4 (by decide) (fun c1 => absurd c1 (by decide)) (fun c1 => ?_)
  refine lv_aload_n (pc := 7) hx hb d_Re_append_7 rfl (lv_at hl 1 rfl) ?_
  refine k_get (pc := 8) X hK hP 0 rfl rfl i_Re 0 (by decide) wm_194 rfl rfl d_Re_append_8 ?_
  refine lv_aload_n (pc := 11) hx hb d_Re_append_11 rfl (lv_at hl 1 rfl) ?_
  refine k_get (pc := 12) X hK hP 0 rfl rfl i_Re 1 (by decide) wm_196 rfl rfl d_Re_append_12 ?_
  refine lv_iload_n (pc := 15) hx hb d_Re_append_15 rfl (lv_at hl 2 rfl) ?_
  refine lv_iload_n (pc := 16) hx hb d_Re_append_16 rfl (lv_at hl 0 rfl) ?_
  refine lv_ishr (pc := 17) hx hb d_Re_append_17 ?_
  refine lv_i2b (pc := 18) hx hb d_Re_append_18 rfl ?_
  refine k_bst (pc := 19) hx hb hK hP hD hS 1 1 rfl rfl (19) rfl (by decide) (by decide) d_Re_append_19 (fun H locs hP hD hS => ?_)
  have hP : va_P D classes (cat [[(a0, .inr (8, [.ref a1, .int 19, .int ((-1)), .int ((-1)), .ref a2, .int 0, .int 0, .int 0, .int 0, .int 0, .ref a3, .int 0]))], [(a1, .inl (kA 1, 2000, .inl (upd (upd (upd (upd f0 16 (vp_nar .byte ((v5 >>> (24 &&& 31)).toInt8.toInt32))) 17 (vp_nar .byte ((v5 >>> (16 &&& 31)).toInt8.toInt32))) 18 (vp_nar .byte ((v5 >>> (8 &&& 31)).toInt8.toInt32))) 19 (vp_nar .byte ((v5 >>> (0 &&& 31)).toInt8.toInt32)))))]]) H := hP
  have hD : va_D A (cat [[(a0, .inr (8, [.ref a1, .int 19, .int ((-1)), .int ((-1)), .ref a2, .int 0, .int 0, .int 0, .int 0, .int 0, .ref a3, .int 0]))], [(a1, .inl (kA 1, 2000, .inl (upd (upd (upd (upd f0 16 (vp_nar .byte ((v5 >>> (24 &&& 31)).toInt8.toInt32))) 17 (vp_nar .byte ((v5 >>> (16 &&& 31)).toInt8.toInt32))) 18 (vp_nar .byte ((v5 >>> (8 &&& 31)).toInt8.toInt32))) 19 (vp_nar .byte ((v5 >>> (0 &&& 31)).toInt8.toInt32)))))]]) := hD
  refine lv_aload_n (pc := 20) hx hb d_Re_append_20 rfl (lv_at hl 1 rfl) ?_
  refine lv_dup (pc := 21) hx hb d_Re_append_21 rfl ?_
  refine k_get (pc := 22) X hK hP 0 rfl rfl i_Re 1 (by decide) wm_196 rfl rfl d_Re_append_22 ?_
  refine lv_iconst (pc := 25) (v := 1) hx hb d_Re_append_25 (by decide) ?_
  refine lv_iadd (pc := 26) hx hb d_Re_append_26 ?_
  refine k_cst (v := 20) (by decide) ?_
  refine k_put (pc := 27) X hK hP hD hS 0 rfl rfl i_Re t_Re t_Re_ok n_Re 1 (by decide) wm_196 rfl (Or.inl rfl) rfl rfl (Nat.le_of_ble_eq_true rfl) d_Re_append_27 (fun H locs hP hD hS => ?_)
  have hP : va_P D classes (cat [[(a0, .inr (8, [.ref a1, .int 20, .int ((-1)), .int ((-1)), .ref a2, .int 0, .int 0, .int 0, .int 0, .int 0, .ref a3, .int 0]))], [(a1, .inl (kA 1, 2000, .inl (upd (upd (upd (upd f0 16 (vp_nar .byte ((v5 >>> (24 &&& 31)).toInt8.toInt32))) 17 (vp_nar .byte ((v5 >>> (16 &&& 31)).toInt8.toInt32))) 18 (vp_nar .byte ((v5 >>> (8 &&& 31)).toInt8.toInt32))) 19 (vp_nar .byte ((v5 >>> (0 &&& 31)).toInt8.toInt32)))))]]) H := hP
  have hD : va_D A (cat [[(a0, .inr (8, [.ref a1, .int 20, .int ((-1)), .int ((-1)), .ref a2, .int 0, .int 0, .int 0, .int 0, .int 0, .ref a3, .int 0]))], [(a1, .inl (kA 1, 2000, .inl (upd (upd (upd (upd f0 16 (vp_nar .byte ((v5 >>> (24 &&& 31)).toInt8.toInt32))) 17 (vp_nar .byte ((v5 >>> (16 &&& 31)).toInt8.toInt32))) 18 (vp_nar .byte ((v5 >>> (8 &&& 31)).toInt8.toInt32))) 19 (vp_nar .byte ((v5 >>> (0 &&& 31)).toInt8.toInt32)))))]]) := hD
  refine lv_iinc (pc := 30) (v := (-8)) (lv' := [(2, .int ((-8))), (0, .ref a0), (1, .int v5)]) hx hb d_Re_append_30 hl (k := 0) rfl (by decide) (by decide) rfl (fun ls hl => ?_)
  refine lv_goto (pc := 33) (tgt := 3) hx hb d_Re_append_33 (by decide) ?_
  refine lv_iload_n (pc := 3) hx hb d_Re_append_3 rfl (lv_at hl 0 rfl) ?_
  refine lv_if_lt (pc := 4) (tgt := 36) hx hb d_Re_append_4 (by decide) (fun c1 => ?_) (fun c1 => absurd (by decide) c1)
  refine W.widen (k := 0) (n := 0) (Nat.le_of_ble_eq_true rfl) (Nat.le_of_ble_eq_true rfl) ?_
  exact W.vret hx hb hr (fun t ht hW => ⟨⟨(), rfl, trivial, by rw [ht]; exact hP, va_K.moved hW.alike hK, hD⟩, hS.F ht⟩) hS.2.2 d_Re_append_36
set_option maxRecDepth 100000 in
set_option maxHeartbeats 4000000 in
/-- DrawingHouse.feed(IIIII)I -/
theorem c_Ho_feed_z1 (l : Launch) (D : va_G) (kA : Nat → ClassId) (a0 : Nat) (v1 : Int32) (v2 : Int32) (v3 : Int32) (v4 : Int32) (v5 : Int32) (a1 : Nat) (a2 : Nat) (a3 : Nat) (a4 : Nat) (a5 : Nat) (a6 : Nat) (a7 : Nat) (a8 : Nat) (a9 : Nat) (a10 : Nat) (a11 : Nat) (a12 : Nat) (a13 : Nat) (f0 : Nat → Int32) : Ci l y_Ho_feed z_Ho_feed { frames := 1, cells := 0, slots := 0, locals := 22 } D classes (TY kA) [.ref a0, .int v1, .int v2, .int v3, .int v4, .int v5] [[(a0, .inr (12, [.ref a1, .ref a2, .ref a3, .ref a4, .ref a5, .ref a6, .ref a7, .int 0, .int ((-1)), .ref a8, .ref a9, .int 0, .int 0, .ref a10, .int 0, .int 0, .null, .null, .null, .null, .null]))], [(a5, .inr (8, [.ref a11, .int 0, .int ((-1)), .int ((-1)), .ref a12, .int 0, .int 0, .int 0, .int 0, .int 0, .ref a13, .int 0]))], [(a11, .inl (kA 1, 2000, .inl f0))]] (fun r (_ : List va_W) => r = 20) (fun u => u) 0 0 := by
  intro sz
  refine k_met (cc := b_Ho_feed) (maxL := 6) (ret := (some .int)) (by decide) rfl (Nat.le_of_ble_eq_true rfl) (fun p e s m below meth c ls X hl hB => ?_)
  obtain ⟨hsz, hP, hK, hD0, hN⟩ := hB
  subst hsz
  have hD := hD0.self (sz := s.heap.size)
  generalize hAe : va_A (cat [[(a0, .inr (12, [.ref a1, .ref a2, .ref a3, .ref a4, .ref a5, .ref a6, .ref a7, .int 0, .int ((-1)), .ref a8, .ref a9, .int 0, .int 0, .ref a10, .int 0, .int 0, .null, .null, .null, .null, .null]))], [(a5, .inr (8, [.ref a11, .int 0, .int ((-1)), .int ((-1)), .ref a12, .int 0, .int 0, .int 0, .int 0, .int 0, .ref a13, .int 0]))], [(a11, .inl (kA 1, 2000, .inl f0))]]) s.heap.size = A at hD ⊢
  have hA : ∀ q : Nat, s.heap.size ≤ q → A q := fun q h => by rw [← hAe]; exact Or.inr h
  have hS : va_S A s.heap s.heap [] := va_S.rf
  obtain ⟨hx, hb, hml, hown, hts, hr, hlk, hnm⟩ := id X
  have hl : lv_has ls 6 [(0, .ref a0), (1, .int v1), (2, .int v2), (3, .int v3), (4, .int v4), (5, .int v5)] := hl
  have hP : va_P D classes (cat [[(a0, .inr (12, [.ref a1, .ref a2, .ref a3, .ref a4, .ref a5, .ref a6, .ref a7, .int 0, .int ((-1)), .ref a8, .ref a9, .int 0, .int 0, .ref a10, .int 0, .int 0, .null, .null, .null, .null, .null]))], [(a5, .inr (8, [.ref a11, .int 0, .int ((-1)), .int ((-1)), .ref a12, .int 0, .int 0, .int 0, .int 0, .int 0, .ref a13, .int 0]))], [(a11, .inl (kA 1, 2000, .inl f0))]]) s.heap := hP
  have hK : va_K D classes (TY kA) s := hK
  refine lv_aload_n (pc := 0) hx hb d_Ho_feed_0 rfl (lv_at hl 0 rfl) ?_
  refine k_get (pc := 1) X hK hP 0 rfl rfl i_Ho 4 (by decide) wm_559 rfl rfl d_Ho_feed_1 ?_
  refine k_get (pc := 4) X hK hP 1 rfl rfl i_Re 1 (by decide) wm_197 rfl rfl d_Ho_feed_4 ?_
  refine lv_bipush (pc := 7) (v := 20) hx hb d_Ho_feed_7 (by decide) ?_
  refine lv_iadd (pc := 9) hx hb d_Ho_feed_9 ?_
  refine k_cst (v := 20) (by decide) ?_
  refine lv_sipush (pc := 10) (v := 2000) hx hb d_Ho_feed_10 (by decide) ?_
  refine lv_icmp_le (pc := 13) (tgt := 18) hx hb d_Ho_feed_13 (by decide) (fun _ => ?_) (fun c1 => absurd (by decide) c1)
  refine lv_aload_n (pc := 18) hx hb d_Ho_feed_18 rfl (lv_at hl 0 rfl) ?_
  refine k_get (pc := 19) X hK hP 0 rfl rfl i_Ho 4 (by decide) wm_559 rfl rfl d_Ho_feed_19 ?_
  refine lv_iload_n (pc := 22) hx hb d_Ho_feed_22 rfl (lv_at hl 1 rfl) ?_
  refine k_goV (gr := [[(a0, .inr (12, [.ref a1, .ref a2, .ref a3, .ref a4, .ref a5, .ref a6, .ref a7, .int 0, .int ((-1)), .ref a8, .ref a9, .int 0, .int 0, .ref a10, .int 0, .int 0, .null, .null, .null, .null, .null]))]]) (k_rV (pc := 23) (As := [.int v1]) (rest := []) X (c_Re_append_z1 l D kA a5 v1 a11 a12 a13 f0 s.heap.size) rfl wm_626 wm_2 wm_623 wm_624 wm_625 1 (by decide +kernel) ⟨Nat.le_of_ble_eq_true rfl, Nat.le_of_ble_eq_true rfl⟩ rfl rfl (va_recv hK hP (ci := 8) (q0 := 1) rfl rfl) (k_pre hN hK hP hD [1, 2] [0] 3 rfl (by decide) rfl) rfl hl.1 rfl (Nat.le_of_ble_eq_true rfl) d_Ho_feed_23 ⟨Nat.le_of_ble_eq_true rfl, Nat.le_of_ble_eq_true rfl⟩) hP hD hS hA [1, 2] [0] 3 rfl (by decide) rfl rfl (fun u1 H locs hu1 hP hD hS => ?_)
  have hP : va_P D classes (cat [[(a0, .inr (12, [.ref a1, .ref a2, .ref a3, .ref a4, .ref a5, .ref a6, .ref a7, .int 0, .int ((-1)), .ref a8, .ref a9, .int 0, .int 0, .ref a10, .int 0, .int 0, .null, .null, .null, .null, .null]))], [(a5, .inr (8, [.ref a11, .int 4, .int ((-1)), .int ((-1)), .ref a12, .int 0, .int 0, .int 0, .int 0, .int 0, .ref a13, .int 0]))], [(a11, .inl (kA 1, 2000, .inl (upd (upd (upd (upd f0 0 (vp_nar .byte ((v1 >>> (24 &&& 31)).toInt8.toInt32))) 1 (vp_nar .byte ((v1 >>> (16 &&& 31)).toInt8.toInt32))) 2 (vp_nar .byte ((v1 >>> (8 &&& 31)).toInt8.toInt32))) 3 (vp_nar .byte ((v1 >>> (0 &&& 31)).toInt8.toInt32)))))]]) H := hP
  have hD : va_D A (cat [[(a0, .inr (12, [.ref a1, .ref a2, .ref a3, .ref a4, .ref a5, .ref a6, .ref a7, .int 0, .int ((-1)), .ref a8, .ref a9, .int 0, .int 0, .ref a10, .int 0, .int 0, .null, .null, .null, .null, .null]))], [(a5, .inr (8, [.ref a11, .int 4, .int ((-1)), .int ((-1)), .ref a12, .int 0, .int 0, .int 0, .int 0, .int 0, .ref a13, .int 0]))], [(a11, .inl (kA 1, 2000, .inl (upd (upd (upd (upd f0 0 (vp_nar .byte ((v1 >>> (24 &&& 31)).toInt8.toInt32))) 1 (vp_nar .byte ((v1 >>> (16 &&& 31)).toInt8.toInt32))) 2 (vp_nar .byte ((v1 >>> (8 &&& 31)).toInt8.toInt32))) 3 (vp_nar .byte ((v1 >>> (0 &&& 31)).toInt8.toInt32)))))]]) := hD
  refine lv_aload_n (pc := 26) hx hb d_Ho_feed_26 rfl (lv_at hl 0 rfl) ?_
  refine k_get (pc := 27) X hK hP 0 rfl rfl i_Ho 4 (by decide) wm_559 rfl rfl d_Ho_feed_27 ?_
  refine lv_iload_n (pc := 30) hx hb d_Ho_feed_30 rfl (lv_at hl 2 rfl) ?_
  refine k_goV (gr := [[(a0, .inr (12, [.ref a1, .ref a2, .ref a3, .ref a4, .ref a5, .ref a6, .ref a7, .int 0, .int ((-1)), .ref a8, .ref a9, .int 0, .int 0, .ref a10, .int 0, .int 0, .null, .null, .null, .null, .null]))]]) (k_rV (pc := 31) (As := [.int v2]) (rest := []) X (c_Re_append_z2 l D kA a5 v2 a11 a12 a13 (upd (upd (upd (upd f0 0 (vp_nar .byte ((v1 >>> (24 &&& 31)).toInt8.toInt32))) 1 (vp_nar .byte ((v1 >>> (16 &&& 31)).toInt8.toInt32))) 2 (vp_nar .byte ((v1 >>> (8 &&& 31)).toInt8.toInt32))) 3 (vp_nar .byte ((v1 >>> (0 &&& 31)).toInt8.toInt32))) H.size) rfl wm_626 wm_2 wm_623 wm_624 wm_625 1 (by decide +kernel) ⟨Nat.le_of_ble_eq_true rfl, Nat.le_of_ble_eq_true rfl⟩ rfl rfl (va_recv hK hP (ci := 8) (q0 := 1) rfl rfl) (k_pre hN hK hP hD [1, 2] [0] 3 rfl (by decide) rfl) rfl hl.1 rfl (Nat.le_of_ble_eq_true rfl) d_Ho_feed_31 ⟨Nat.le_of_ble_eq_true rfl, Nat.le_of_ble_eq_true rfl⟩) hP hD hS hA [1, 2] [0] 3 rfl (by decide) rfl rfl (fun u2 H locs hu2 hP hD hS => ?_)
  have hP : va_P D classes (cat [[(a0, .inr (12, [.ref a1, .ref a2, .ref a3, .ref a4, .ref a5, .ref a6, .ref a7, .int 0, .int ((-1)), .ref a8, .ref a9, .int 0, .int 0, .ref a10, .int 0, .int 0, .null, .null, .null, .null, .null]))], [(a5, .inr (8, [.ref a11, .int 8, .int ((-1)), .int ((-1)), .ref a12, .int 0, .int 0, .int 0, .int 0, .int 0, .ref a13, .int 0]))], [(a11, .inl (kA 1, 2000, .inl (upd (upd (upd (upd (upd (upd (upd (upd f0 0 (vp_nar .byte ((v1 >>> (24 &&& 31)).toInt8.toInt32))) 1 (vp_nar .byte ((v1 >>> (16 &&& 31)).toInt8.toInt32))) 2 (vp_nar .byte ((v1 >>> (8 &&& 31)).toInt8.toInt32))) 3 (vp_nar .byte ((v1 >>> (0 &&& 31)).toInt8.toInt32))) 4 (vp_nar .byte ((v2 >>> (24 &&& 31)).toInt8.toInt32))) 5 (vp_nar .byte ((v2 >>> (16 &&& 31)).toInt8.toInt32))) 6 (vp_nar .byte ((v2 >>> (8 &&& 31)).toInt8.toInt32))) 7 (vp_nar .byte ((v2 >>> (0 &&& 31)).toInt8.toInt32)))))]]) H := hP
  have hD : va_D A (cat [[(a0, .inr (12, [.ref a1, .ref a2, .ref a3, .ref a4, .ref a5, .ref a6, .ref a7, .int 0, .int ((-1)), .ref a8, .ref a9, .int 0, .int 0, .ref a10, .int 0, .int 0, .null, .null, .null, .null, .null]))], [(a5, .inr (8, [.ref a11, .int 8, .int ((-1)), .int ((-1)), .ref a12, .int 0, .int 0, .int 0, .int 0, .int 0, .ref a13, .int 0]))], [(a11, .inl (kA 1, 2000, .inl (upd (upd (upd (upd (upd (upd (upd (upd f0 0 (vp_nar .byte ((v1 >>> (24 &&& 31)).toInt8.toInt32))) 1 (vp_nar .byte ((v1 >>> (16 &&& 31)).toInt8.toInt32))) 2 (vp_nar .byte ((v1 >>> (8 &&& 31)).toInt8.toInt32))) 3 (vp_nar .byte ((v1 >>> (0 &&& 31)).toInt8.toInt32))) 4 (vp_nar .byte ((v2 >>> (24 &&& 31)).toInt8.toInt32))) 5 (vp_nar .byte ((v2 >>> (16 &&& 31)).toInt8.toInt32))) 6 (vp_nar .byte ((v2 >>> (8 &&& 31)).toInt8.toInt32))) 7 (vp_nar .byte ((v2 >>> (0 &&& 31)).toInt8.toInt32)))))]]) := hD
  refine lv_aload_n (pc := 34) hx hb d_Ho_feed_34 rfl (lv_at hl 0 rfl) ?_
  refine k_get (pc := 35) X hK hP 0 rfl rfl i_Ho 4 (by decide) wm_559 rfl rfl d_Ho_feed_35 ?_
  refine lv_iload_n (pc := 38) hx hb d_Ho_feed_38 rfl (lv_at hl 3 rfl) ?_
  refine k_goV (gr := [[(a0, .inr (12, [.ref a1, .ref a2, .ref a3, .ref a4, .ref a5, .ref a6, .ref a7, .int 0, .int ((-1)), .ref a8, .ref a9, .int 0, .int 0, .ref a10, .int 0, .int 0, .null, .null, .null, .null, .null]))]]) (k_rV (pc := 39) (As := [.int v3]) (rest := []) X (c_Re_append_z3 l D kA a5 v3 a11 a12 a13 (upd (upd (upd (upd (upd (upd (upd (upd f0 0 (vp_nar .byte ((v1 >>> (24 &&& 31)).toInt8.toInt32))) 1 (vp_nar .byte ((v1 >>> (16 &&& 31)).toInt8.toInt32))) 2 (vp_nar .byte ((v1 >>> (8 &&& 31)).toInt8.toInt32))) 3 (vp_nar .byte ((v1 >>> (0 &&& 31)).toInt8.toInt32))) 4 (vp_nar .byte ((v2 >>> (24 &&& 31)).toInt8.toInt32))) 5 (vp_nar .byte ((v2 >>> (16 &&& 31)).toInt8.toInt32))) 6 (vp_nar .byte ((v2 >>> (8 &&& 31)).toInt8.toInt32))) 7 (vp_nar .byte ((v2 >>> (0 &&& 31)).toInt8.toInt32))) H.size) rfl wm_626 wm_2 wm_623 wm_624 wm_625 1 (by decide +kernel) ⟨Nat.le_of_ble_eq_true rfl, Nat.le_of_ble_eq_true rfl⟩ rfl rfl (va_recv hK hP (ci := 8) (q0 := 1) rfl rfl) (k_pre hN hK hP hD [1, 2] [0] 3 rfl (by decide) rfl) rfl hl.1 rfl (Nat.le_of_ble_eq_true rfl) d_Ho_feed_39 ⟨Nat.le_of_ble_eq_true rfl, Nat.le_of_ble_eq_true rfl⟩) hP hD hS hA [1, 2] [0] 3 rfl (by decide) rfl rfl (fun u3 H locs hu3 hP hD hS => ?_)
  have hP : va_P D classes (cat [[(a0, .inr (12, [.ref a1, .ref a2, .ref a3, .ref a4, .ref a5, .ref a6, .ref a7, .int 0, .int ((-1)), .ref a8, .ref a9, .int 0, .int 0, .ref a10, .int 0, .int 0, .null, .null, .null, .null, .null]))], [(a5, .inr (8, [.ref a11, .int 12, .int ((-1)), .int ((-1)), .ref a12, .int 0, .int 0, .int 0, .int 0, .int 0, .ref a13, .int 0]))], [(a11, .inl (kA 1, 2000, .inl (upd (upd (upd (upd (upd (upd (upd (upd (upd (upd (upd (upd f0 0 (vp_nar .byte ((v1 >>> (24 &&& 31)).toInt8.toInt32))) 1 (vp_nar .byte ((v1 >>> (16 &&& 31)).toInt8.toInt32))) 2 (vp_nar .byte ((v1 >>> (8 &&& 31)).toInt8.toInt32))) 3 (vp_nar .byte ((v1 >>> (0 &&& 31)).toInt8.toInt32))) 4 (vp_nar .byte ((v2 >>> (24 &&& 31)).toInt8.toInt32))) 5 (vp_nar .byte ((v2 >>> (16 &&& 31)).toInt8.toInt32))) 6 (vp_nar .byte ((v2 >>> (8 &&& 31)).toInt8.toInt32))) 7 (vp_nar .byte ((v2 >>> (0 &&& 31)).toInt8.toInt32))) 8 (vp_nar .byte ((v3 >>> (24 &&& 31)).toInt8.toInt32))) 9 (vp_nar .byte ((v3 >>> (16 &&& 31)).toInt8.toInt32))) 10 (vp_nar .byte ((v3 >>> (8 &&& 31)).toInt8.toInt32))) 11 (vp_nar .byte ((v3 >>> (0 &&& 31)).toInt8.toInt32)))))]]) H := hP
  have hD : va_D A (cat [[(a0, .inr (12, [.ref a1, .ref a2, .ref a3, .ref a4, .ref a5, .ref a6, .ref a7, .int 0, .int ((-1)), .ref a8, .ref a9, .int 0, .int 0, .ref a10, .int 0, .int 0, .null, .null, .null, .null, .null]))], [(a5, .inr (8, [.ref a11, .int 12, .int ((-1)), .int ((-1)), .ref a12, .int 0, .int 0, .int 0, .int 0, .int 0, .ref a13, .int 0]))], [(a11, .inl (kA 1, 2000, .inl (upd (upd (upd (upd (upd (upd (upd (upd (upd (upd (upd (upd f0 0 (vp_nar .byte ((v1 >>> (24 &&& 31)).toInt8.toInt32))) 1 (vp_nar .byte ((v1 >>> (16 &&& 31)).toInt8.toInt32))) 2 (vp_nar .byte ((v1 >>> (8 &&& 31)).toInt8.toInt32))) 3 (vp_nar .byte ((v1 >>> (0 &&& 31)).toInt8.toInt32))) 4 (vp_nar .byte ((v2 >>> (24 &&& 31)).toInt8.toInt32))) 5 (vp_nar .byte ((v2 >>> (16 &&& 31)).toInt8.toInt32))) 6 (vp_nar .byte ((v2 >>> (8 &&& 31)).toInt8.toInt32))) 7 (vp_nar .byte ((v2 >>> (0 &&& 31)).toInt8.toInt32))) 8 (vp_nar .byte ((v3 >>> (24 &&& 31)).toInt8.toInt32))) 9 (vp_nar .byte ((v3 >>> (16 &&& 31)).toInt8.toInt32))) 10 (vp_nar .byte ((v3 >>> (8 &&& 31)).toInt8.toInt32))) 11 (vp_nar .byte ((v3 >>> (0 &&& 31)).toInt8.toInt32)))))]]) := hD
  refine lv_aload_n (pc := 42) hx hb d_Ho_feed_42 rfl (lv_at hl 0 rfl) ?_
  refine k_get (pc := 43) X hK hP 0 rfl rfl i_Ho 4 (by decide) wm_559 rfl rfl d_Ho_feed_43 ?_
  refine lv_iload (pc := 46) hx hb d_Ho_feed_46 (lv_at hl 4 rfl) ?_
  refine k_goV (gr := [[(a0, .inr (12, [.ref a1, .ref a2, .ref a3, .ref a4, .ref a5, .ref a6, .ref a7, .int 0, .int ((-1)), .ref a8, .ref a9, .int 0, .int 0, .ref a10, .int 0, .int 0, .null, .null, .null, .null, .null]))]]) (k_rV (pc := 48) (As := [.int v4]) (rest := []) X (c_Re_append_z4 l D kA a5 v4 a11 a12 a13 (upd (upd (upd (upd (upd (upd (upd (upd (upd (upd (upd (upd f0 0 (vp_nar .byte ((v1 >>> (24 &&& 31)).toInt8.toInt32))) 1 (vp_nar .byte ((v1 >>> (16 &&& 31)).toInt8.toInt32))) 2 (vp_nar .byte ((v1 >>> (8 &&& 31)).toInt8.toInt32))) 3 (vp_nar .byte ((v1 >>> (0 &&& 31)).toInt8.toInt32))) 4 (vp_nar .byte ((v2 >>> (24 &&& 31)).toInt8.toInt32))) 5 (vp_nar .byte ((v2 >>> (16 &&& 31)).toInt8.toInt32))) 6 (vp_nar .byte ((v2 >>> (8 &&& 31)).toInt8.toInt32))) 7 (vp_nar .byte ((v2 >>> (0 &&& 31)).toInt8.toInt32))) 8 (vp_nar .byte ((v3 >>> (24 &&& 31)).toInt8.toInt32))) 9 (vp_nar .byte ((v3 >>> (16 &&& 31)).toInt8.toInt32))) 10 (vp_nar .byte ((v3 >>> (8 &&& 31)).toInt8.toInt32))) 11 (vp_nar .byte ((v3 >>> (0 &&& 31)).toInt8.toInt32))) H.size) rfl wm_626 wm_2 wm_623 wm_624 wm_625 1 (by decide +kernel) ⟨Nat.le_of_ble_eq_true rfl, Nat.le_of_ble_eq_true rfl⟩ rfl rfl (va_recv hK hP (ci := 8) (q0 := 1) rfl rfl) (k_pre hN hK hP hD [1, 2] [0] 3 rfl (by decide) rfl) rfl hl.1 rfl (Nat.le_of_ble_eq_true rfl) d_Ho_feed_48 ⟨Nat.le_of_ble_eq_true rfl, Nat.le_of_ble_eq_true rfl⟩) hP hD hS hA [1, 2] [0] 3 rfl (by decide) rfl rfl (fun u4 H locs hu4 hP hD hS => ?_)
  have hP : va_P D classes (cat [[(a0, .inr (12, [.ref a1, .ref a2, .ref a3, .ref a4, .ref a5, .ref a6, .ref a7, .int 0, .int ((-1)), .ref a8, .ref a9, .int 0, .int 0, .ref a10, .int 0, .int 0, .null, .null, .null, .null, .null]))], [(a5, .inr (8, [.ref a11, .int 16, .int ((-1)), .int ((-1)), .ref a12, .int 0, .int 0, .int 0, .int 0, .int 0, .ref a13, .int 0]))], [(a11, .inl (kA 1, 2000, .inl (upd (upd (upd (upd (upd (upd (upd (upd (upd (upd (upd (upd (upd (upd (upd (upd f0 0 (vp_nar .byte ((v1 >>> (24 &&& 31)).toInt8.toInt32))) 1 (vp_nar .byte ((v1 >>> (16 &&& 31)).toInt8.toInt32))) 2 (vp_nar .byte ((v1 >>> (8 &&& 31)).toInt8.toInt32))) 3 (vp_nar .byte ((v1 >>> (0 &&& 31)).toInt8.toInt32))) 4 (vp_nar .byte ((v2 >>> (24 &&& 31)).toInt8.toInt32))) 5 (vp_nar .byte ((v2 >>> (16 &&& 31)).toInt8.toInt32))) 6 (vp_nar .byte ((v2 >>> (8 &&& 31)).toInt8.toInt32))) 7 (vp_nar .byte ((v2 >>> (0 &&& 31)).toInt8.toInt32))) 8 (vp_nar .byte ((v3 >>> (24 &&& 31)).toInt8.toInt32))) 9 (vp_nar .byte ((v3 >>> (16 &&& 31)).toInt8.toInt32))) 10 (vp_nar .byte ((v3 >>> (8 &&& 31)).toInt8.toInt32))) 11 (vp_nar .byte ((v3 >>> (0 &&& 31)).toInt8.toInt32))) 12 (vp_nar .byte ((v4 >>> (24 &&& 31)).toInt8.toInt32))) 13 (vp_nar .byte ((v4 >>> (16 &&& 31)).toInt8.toInt32))) 14 (vp_nar .byte ((v4 >>> (8 &&& 31)).toInt8.toInt32))) 15 (vp_nar .byte ((v4 >>> (0 &&& 31)).toInt8.toInt32)))))]]) H := hP
  have hD : va_D A (cat [[(a0, .inr (12, [.ref a1, .ref a2, .ref a3, .ref a4, .ref a5, .ref a6, .ref a7, .int 0, .int ((-1)), .ref a8, .ref a9, .int 0, .int 0, .ref a10, .int 0, .int 0, .null, .null, .null, .null, .null]))], [(a5, .inr (8, [.ref a11, .int 16, .int ((-1)), .int ((-1)), .ref a12, .int 0, .int 0, .int 0, .int 0, .int 0, .ref a13, .int 0]))], [(a11, .inl (kA 1, 2000, .inl (upd (upd (upd (upd (upd (upd (upd (upd (upd (upd (upd (upd (upd (upd (upd (upd f0 0 (vp_nar .byte ((v1 >>> (24 &&& 31)).toInt8.toInt32))) 1 (vp_nar .byte ((v1 >>> (16 &&& 31)).toInt8.toInt32))) 2 (vp_nar .byte ((v1 >>> (8 &&& 31)).toInt8.toInt32))) 3 (vp_nar .byte ((v1 >>> (0 &&& 31)).toInt8.toInt32))) 4 (vp_nar .byte ((v2 >>> (24 &&& 31)).toInt8.toInt32))) 5 (vp_nar .byte ((v2 >>> (16 &&& 31)).toInt8.toInt32))) 6 (vp_nar .byte ((v2 >>> (8 &&& 31)).toInt8.toInt32))) 7 (vp_nar .byte ((v2 >>> (0 &&& 31)).toInt8.toInt32))) 8 (vp_nar .byte ((v3 >>> (24 &&& 31)).toInt8.toInt32))) 9 (vp_nar .byte ((v3 >>> (16 &&& 31)).toInt8.toInt32))) 10 (vp_nar .byte ((v3 >>> (8 &&& 31)).toInt8.toInt32))) 11 (vp_nar .byte ((v3 >>> (0 &&& 31)).toInt8.toInt32))) 12 (vp_nar .byte ((v4 >>> (24 &&& 31)).toInt8.toInt32))) 13 (vp_nar .byte ((v4 >>> (16 &&& 31)).toInt8.toInt32))) 14 (vp_nar .byte ((v4 >>> (8 &&& 31)).toInt8.toInt32))) 15 (vp_nar .byte ((v4 >>> (0 &&& 31)).toInt8.toInt32)))))]]) := hD
  refine lv_aload_n (pc := 51) hx hb d_Ho_feed_51 rfl (lv_at hl 0 rfl) ?_
  refine k_get (pc := 52) X hK hP 0 rfl rfl i_Ho 4 (by decide) wm_559 rfl rfl d_Ho_feed_52 ?_
  refine lv_iload (pc := 55) hx hb d_Ho_feed_55 (lv_at hl 5 rfl) ?_
  refine k_goV (gr := [[(a0, .inr (12, [.ref a1, .ref a2, .ref a3, .ref a4, .ref a5, .ref a6, .ref a7, .int 0, .int ((-1)), .ref a8, .ref a9, .int 0, .int 0, .ref a10, .int 0, .int 0, .null, .null, .null, .null, .null]))]]) (k_rV (pc := 57) (As := [.int v5]) (rest := []) X (c_Re_append_z5 l D kA a5 v5 a11 a12 a13 (upd (upd (upd (upd (upd (upd (upd (upd (upd (upd (upd (upd (upd (upd (upd (upd f0 0 (vp_nar .byte ((v1 >>> (24 &&& 31)).toInt8.toInt32))) 1 (vp_nar .byte ((v1 >>> (16 &&& 31)).toInt8.toInt32))) 2 (vp_nar .byte ((v1 >>> (8 &&& 31)).toInt8.toInt32))) 3 (vp_nar .byte ((v1 >>> (0 &&& 31)).toInt8.toInt32))) 4 (vp_nar .byte ((v2 >>> (24 &&& 31)).toInt8.toInt32))) 5 (vp_nar .byte ((v2 >>> (16 &&& 31)).toInt8.toInt32))) 6 (vp_nar .byte ((v2 >>> (8 &&& 31)).toInt8.toInt32))) 7 (vp_nar .byte ((v2 >>> (0 &&& 31)).toInt8.toInt32))) 8 (vp_nar .byte ((v3 >>> (24 &&& 31)).toInt8.toInt32))) 9 (vp_nar .byte ((v3 >>> (16 &&& 31)).toInt8.toInt32))) 10 (vp_nar .byte ((v3 >>> (8 &&& 31)).toInt8.toInt32))) 11 (vp_nar .byte ((v3 >>> (0 &&& 31)).toInt8.toInt32))) 12 (vp_nar .byte ((v4 >>> (24 &&& 31)).toInt8.toInt32))) 13 (vp_nar .byte ((v4 >>> (16 &&& 31)).toInt8.toInt32))) 14 (vp_nar .byte ((v4 >>> (8 &&& 31)).toInt8.toInt32))) 15 (vp_nar .byte ((v4 >>> (0 &&& 31)).toInt8.toInt32))) H.size) rfl wm_626 wm_2 wm_623 wm_624 wm_625 1 (by decide +kernel) ⟨Nat.le_of_ble_eq_true rfl, Nat.le_of_ble_eq_true rfl⟩ rfl rfl (va_recv hK hP (ci := 8) (q0 := 1) rfl rfl) (k_pre hN hK hP hD [1, 2] [0] 3 rfl (by decide) rfl) rfl hl.1 rfl (Nat.le_of_ble_eq_true rfl) d_Ho_feed_57 ⟨Nat.le_of_ble_eq_true rfl, Nat.le_of_ble_eq_true rfl⟩) hP hD hS hA [1, 2] [0] 3 rfl (by decide) rfl rfl (fun u5 H locs hu5 hP hD hS => ?_)
  have hP : va_P D classes (cat [[(a0, .inr (12, [.ref a1, .ref a2, .ref a3, .ref a4, .ref a5, .ref a6, .ref a7, .int 0, .int ((-1)), .ref a8, .ref a9, .int 0, .int 0, .ref a10, .int 0, .int 0, .null, .null, .null, .null, .null]))], [(a5, .inr (8, [.ref a11, .int 20, .int ((-1)), .int ((-1)), .ref a12, .int 0, .int 0, .int 0, .int 0, .int 0, .ref a13, .int 0]))], [(a11, .inl (kA 1, 2000, .inl (upd (upd (upd (upd (upd (upd (upd (upd (upd (upd (upd (upd (upd (upd (upd (upd (upd (upd (upd (upd f0 0 (vp_nar .byte ((v1 >>> (24 &&& 31)).toInt8.toInt32))) 1 (vp_nar .byte ((v1 >>> (16 &&& 31)).toInt8.toInt32))) 2 (vp_nar .byte ((v1 >>> (8 &&& 31)).toInt8.toInt32))) 3 (vp_nar .byte ((v1 >>> (0 &&& 31)).toInt8.toInt32))) 4 (vp_nar .byte ((v2 >>> (24 &&& 31)).toInt8.toInt32))) 5 (vp_nar .byte ((v2 >>> (16 &&& 31)).toInt8.toInt32))) 6 (vp_nar .byte ((v2 >>> (8 &&& 31)).toInt8.toInt32))) 7 (vp_nar .byte ((v2 >>> (0 &&& 31)).toInt8.toInt32))) 8 (vp_nar .byte ((v3 >>> (24 &&& 31)).toInt8.toInt32))) 9 (vp_nar .byte ((v3 >>> (16 &&& 31)).toInt8.toInt32))) 10 (vp_nar .byte ((v3 >>> (8 &&& 31)).toInt8.toInt32))) 11 (vp_nar .byte ((v3 >>> (0 &&& 31)).toInt8.toInt32))) 12 (vp_nar .byte ((v4 >>> (24 &&& 31)).toInt8.toInt32))) 13 (vp_nar .byte ((v4 >>> (16 &&& 31)).toInt8.toInt32))) 14 (vp_nar .byte ((v4 >>> (8 &&& 31)).toInt8.toInt32))) 15 (vp_nar .byte ((v4 >>> (0 &&& 31)).toInt8.toInt32))) 16 (vp_nar .byte ((v5 >>> (24 &&& 31)).toInt8.toInt32))) 17 (vp_nar .byte ((v5 >>> (16 &&& 31)).toInt8.toInt32))) 18 (vp_nar .byte ((v5 >>> (8 &&& 31)).toInt8.toInt32))) 19 (vp_nar .byte ((v5 >>> (0 &&& 31)).toInt8.toInt32)))))]]) H := hP
  have hD : va_D A (cat [[(a0, .inr (12, [.ref a1, .ref a2, .ref a3, .ref a4, .ref a5, .ref a6, .ref a7, .int 0, .int ((-1)), .ref a8, .ref a9, .int 0, .int 0, .ref a10, .int 0, .int 0, .null, .null, .null, .null, .null]))], [(a5, .inr (8, [.ref a11, .int 20, .int ((-1)), .int ((-1)), .ref a12, .int 0, .int 0, .int 0, .int 0, .int 0, .ref a13, .int 0]))], [(a11, .inl (kA 1, 2000, .inl (upd (upd (upd (upd (upd (upd (upd (upd (upd (upd (upd (upd (upd (upd (upd (upd (upd (upd (upd (upd f0 0 (vp_nar .byte ((v1 >>> (24 &&& 31)).toInt8.toInt32))) 1 (vp_nar .byte ((v1 >>> (16 &&& 31)).toInt8.toInt32))) 2 (vp_nar .byte ((v1 >>> (8 &&& 31)).toInt8.toInt32))) 3 (vp_nar .byte ((v1 >>> (0 &&& 31)).toInt8.toInt32))) 4 (vp_nar .byte ((v2 >>> (24 &&& 31)).toInt8.toInt32))) 5 (vp_nar .byte ((v2 >>> (16 &&& 31)).toInt8.toInt32))) 6 (vp_nar .byte ((v2 >>> (8 &&& 31)).toInt8.toInt32))) 7 (vp_nar .byte ((v2 >>> (0 &&& 31)).toInt8.toInt32))) 8 (vp_nar .byte ((v3 >>> (24 &&& 31)).toInt8.toInt32))) 9 (vp_nar .byte ((v3 >>> (16 &&& 31)).toInt8.toInt32))) 10 (vp_nar .byte ((v3 >>> (8 &&& 31)).toInt8.toInt32))) 11 (vp_nar .byte ((v3 >>> (0 &&& 31)).toInt8.toInt32))) 12 (vp_nar .byte ((v4 >>> (24 &&& 31)).toInt8.toInt32))) 13 (vp_nar .byte ((v4 >>> (16 &&& 31)).toInt8.toInt32))) 14 (vp_nar .byte ((v4 >>> (8 &&& 31)).toInt8.toInt32))) 15 (vp_nar .byte ((v4 >>> (0 &&& 31)).toInt8.toInt32))) 16 (vp_nar .byte ((v5 >>> (24 &&& 31)).toInt8.toInt32))) 17 (vp_nar .byte ((v5 >>> (16 &&& 31)).toInt8.toInt32))) 18 (vp_nar .byte ((v5 >>> (8 &&& 31)).toInt8.toInt32))) 19 (vp_nar .byte ((v5 >>> (0 &&& 31)).toInt8.toInt32)))))]]) := hD
  refine lv_aload_n (pc := 60) hx hb d_Ho_feed_60 rfl (lv_at hl 0 rfl) ?_
  refine k_get (pc := 61) X hK hP 0 rfl rfl i_Ho 4 (by decide) wm_559 rfl rfl d_Ho_feed_61 ?_
  refine k_get (pc := 64) X hK hP 1 rfl rfl i_Re 1 (by decide) wm_197 rfl rfl d_Ho_feed_64 ?_
  refine W.widen (k := 0) (n := 0) (Nat.le_of_ble_eq_true rfl) (Nat.le_of_ble_eq_true rfl) ?_
  exact W.iret (v := 20) hx hb hr (fun t ht hW => ⟨⟨20, [[(a0, .inr (12, [.ref a1, .ref a2, .ref a3, .ref a4, .ref a5, .ref a6, .ref a7, .int 0, .int ((-1)), .ref a8, .ref a9, .int 0, .int 0, .ref a10, .int 0, .int 0, .null, .null, .null, .null, .null]))], [(a5, .inr (8, [.ref a11, .int 20, .int ((-1)), .int ((-1)), .ref a12, .int 0, .int 0, .int 0, .int 0, .int 0, .ref a13, .int 0]))], [(a11, .inl (kA 1, 2000, .inl (upd (upd (upd (upd (upd (upd (upd (upd (upd (upd (upd (upd (upd (upd (upd (upd (upd (upd (upd (upd f0 0 (vp_nar .byte ((v1 >>> (24 &&& 31)).toInt8.toInt32))) 1 (vp_nar .byte ((v1 >>> (16 &&& 31)).toInt8.toInt32))) 2 (vp_nar .byte ((v1 >>> (8 &&& 31)).toInt8.toInt32))) 3 (vp_nar .byte ((v1 >>> (0 &&& 31)).toInt8.toInt32))) 4 (vp_nar .byte ((v2 >>> (24 &&& 31)).toInt8.toInt32))) 5 (vp_nar .byte ((v2 >>> (16 &&& 31)).toInt8.toInt32))) 6 (vp_nar .byte ((v2 >>> (8 &&& 31)).toInt8.toInt32))) 7 (vp_nar .byte ((v2 >>> (0 &&& 31)).toInt8.toInt32))) 8 (vp_nar .byte ((v3 >>> (24 &&& 31)).toInt8.toInt32))) 9 (vp_nar .byte ((v3 >>> (16 &&& 31)).toInt8.toInt32))) 10 (vp_nar .byte ((v3 >>> (8 &&& 31)).toInt8.toInt32))) 11 (vp_nar .byte ((v3 >>> (0 &&& 31)).toInt8.toInt32))) 12 (vp_nar .byte ((v4 >>> (24 &&& 31)).toInt8.toInt32))) 13 (vp_nar .byte ((v4 >>> (16 &&& 31)).toInt8.toInt32))) 14 (vp_nar .byte ((v4 >>> (8 &&& 31)).toInt8.toInt32))) 15 (vp_nar .byte ((v4 >>> (0 &&& 31)).toInt8.toInt32))) 16 (vp_nar .byte ((v5 >>> (24 &&& 31)).toInt8.toInt32))) 17 (vp_nar .byte ((v5 >>> (16 &&& 31)).toInt8.toInt32))) 18 (vp_nar .byte ((v5 >>> (8 &&& 31)).toInt8.toInt32))) 19 (vp_nar .byte ((v5 >>> (0 &&& 31)).toInt8.toInt32)))))]], rfl, rfl, by rw [ht]; exact hP, va_K.moved hW.alike hK, hD⟩, hS.F ht⟩) hS.2.2 d_Ho_feed_67
set_option maxRecDepth 100000 in
set_option maxHeartbeats 4000000 in
/-- DrawingHouseModel.feed(IIIII)I -/
theorem c_Mo_feed_z1 (l : Launch) (D : va_G) (kA : Nat → ClassId) (a0 : Nat) (v1 : Int32) (v2 : Int32) (v3 : Int32) (v4 : Int32) (v5 : Int32) (qm : Nat → Nat) (f0 : Nat → Int32) : Ci l y_Mo_feed z_Mo_feed { frames := 0, cells := 0, slots := 0, locals := 0 } D classes (TY kA) [.ref a0, .int v1, .int v2, .int v3, .int v4, .int v5] [[(a0, .inr (13, mF qm x0Mo y0Mo))], [(qm 1, .inl (kA 1, 2000, .inl f0))]] (fun r (_ : List va_W) => r = 20) (fun u => u) 0 0 := by
  intro sz
  refine k_met (cc := b_Mo_feed) (maxL := 8) (ret := (some .int)) (by decide) rfl (Nat.le_of_ble_eq_true rfl) (fun p e s m below meth c ls X hl hB => ?_)
  obtain ⟨hsz, hP, hK, hD0, hN⟩ := hB
  subst hsz
  have hD := hD0.self (sz := s.heap.size)
  generalize hAe : va_A (cat [[(a0, .inr (13, mF qm x0Mo y0Mo))], [(qm 1, .inl (kA 1, 2000, .inl f0))]]) s.heap.size = A at hD ⊢
  have hA : ∀ q : Nat, s.heap.size ≤ q → A q := fun q h => by rw [← hAe]; exact Or.inr h
  have hS : va_S A s.heap s.heap [] := va_S.rf
  obtain ⟨hx, hb, hml, hown, hts, hr, hlk, hnm⟩ := id X
  have hl : lv_has ls 8 [(0, .ref a0), (1, .int v1), (2, .int v2), (3, .int v3), (4, .int v4), (5, .int v5)] := hl
  have hP : va_P D classes (cat [[(a0, .inr (13, mF qm x0Mo y0Mo))], [(qm 1, .inl (kA 1, 2000, .inl f0))]]) s.heap := hP
  have hK : va_K D classes (TY kA) s := hK
  refine lv_aload_n (pc := 0) hx hb d_Mo_feed_0 rfl (lv_at hl 0 rfl) ?_
  refine k_get (pc := 1) (v := .int 0) X hK hP 0 rfl rfl i_Mo 0 (by decide) wm_2433 rfl rfl d_Mo_feed_1 ?_
  refine lv_bipush (pc := 4) (v := 20) hx hb d_Mo_feed_4 (by decide) ?_
  refine lv_iadd (pc := 6) hx hb d_Mo_feed_6 ?_
  refine k_cst (v := 20) (by decide) ?_
  refine lv_sipush (pc := 7) (v := 2000) hx hb d_Mo_feed_7 (by decide) ?_
  refine lv_icmp_le (pc := 10) (tgt := 15) hx hb d_Mo_feed_10 (by decide) (fun _ => ?_) (fun c1 => absurd (by decide) c1)
  refine lv_iconst (pc := 15) (v := 0) hx hb d_Mo_feed_15 (by decide) ?_
  refine lv_istore (pc := 16) (lv' := [(6, .int 0), (0, .ref a0), (1, .int v1), (2, .int v2), (3, .int v3), (4, .int v4), (5, .int v5)]) hx hb d_Mo_feed_16 hl (by decide) rfl (fun ls hl => ?_)
  refine lv_iload (pc := 18) hx hb d_Mo_feed_18 (lv_at hl 0 rfl) ?_
  refine lv_bipush (pc := 20) (v := 20) hx hb d_Mo_feed_20 (by decide) ?_
  refine lv_icmp_ge (pc := 22) (tgt := 112) hx hb d_Mo_feed_22 (by decide) (fun c1 => absurd c1 (by decide)) (fun _ => ?_)
  refine lv_iload (pc := 25) hx hb d_Mo_feed_25 (lv_at hl 0 rfl) ?_
  refine lv_iconst (pc := 27) (v := 4) hx hb d_Mo_feed_27 (by decide) ?_
  refine lv_icmp_ge (pc := 28) (tgt := 35) hx hb d_Mo_feed_28 (by decide) (fun c1 => absurd c1 (by decide)) (fun _ => ?_)
  refine lv_iload_n (pc := 31) hx hb d_Mo_feed_31 rfl (lv_at hl 2 rfl) ?_
  refine lv_goto (pc := 32) (tgt := 71) hx hb d_Mo_feed_32 (by decide) ?_
  refine lv_istore (pc := 71) (lv' := [(7, .int v1), (6, .int 0), (0, .ref a0), (1, .int v1), (2, .int v2), (3, .int v3), (4, .int v4), (5, .int v5)]) hx hb d_Mo_feed_71 hl (by decide) rfl (fun ls hl => ?_)
  refine lv_aload_n (pc := 73) hx hb d_Mo_feed_73 rfl (lv_at hl 2 rfl) ?_
  refine k_get (pc := 74) (v := .ref (qm 1)) X hK hP 0 rfl rfl i_Mo 1 (by decide) wm_2434 rfl rfl d_Mo_feed_74 ?_
  refine lv_aload_n (pc := 77) hx hb d_Mo_feed_77 rfl (lv_at hl 2 rfl) ?_
  refine k_get (pc := 78) (v := .int 0) X hK hP 0 rfl rfl i_Mo 0 (by decide) wm_2433 rfl rfl d_Mo_feed_78 ?_
  refine lv_iload (pc := 81) hx hb d_Mo_feed_81 (lv_at hl 0 rfl) ?_
  refine lv_bipush (pc := 83) (v := 24) hx hb d_Mo_feed_83 (by decide) ?_
  refine lv_bipush (pc := 85) (v := 8) hx hb d_Mo_feed_85 (by decide) ?_
  refine lv_iload (pc := 87) hx hb d_Mo_feed_87 (lv_at hl 1 rfl) ?_
  refine lv_iconst (pc := 89) (v := 3) hx hb d_Mo_feed_89 (by decide) ?_
  refine lv_iand (pc := 90) hx hb d_Mo_feed_90 ?_
  refine k_cst (v := 0) (by decide) ?_
  refine lv_imul (pc := 91) hx hb d_Mo_feed_91 ?_
  refine k_cst (v := 0) (by decide) ?_
  refine lv_isub (pc := 92) hx hb d_Mo_feed_92 ?_
  refine k_cst (v := 24) (by decide) ?_
  refine lv_ishr (pc := 93) hx hb d_Mo_feed_93 ?_
  refine lv_i2b (pc := 94) hx hb d_Mo_feed_94 rfl ?_
  refine k_bst (pc := 95) hx hb hK hP hD hS 1 1 rfl rfl (0) rfl (by decide) (by decide) d_Mo_feed_95 (fun H locs hP hD hS => ?_)
  have hP : va_P D classes (cat [[(a0, .inr (13, mF qm x0Mo y0Mo))], [(qm 1, .inl (kA 1, 2000, .inl (upd f0 0 (vp_nar .byte ((v1 >>> (24 &&& 31)).toInt8.toInt32)))))]]) H := hP
  have hD : va_D A (cat [[(a0, .inr (13, mF qm x0Mo y0Mo))], [(qm 1, .inl (kA 1, 2000, .inl (upd f0 0 (vp_nar .byte ((v1 >>> (24 &&& 31)).toInt8.toInt32)))))]]) := hD
  refine lv_aload_n (pc := 96) hx hb d_Mo_feed_96 rfl (lv_at hl 2 rfl) ?_
  refine lv_dup (pc := 97) hx hb d_Mo_feed_97 rfl ?_
  refine k_get (pc := 98) (v := .int 0) X hK hP 0 rfl rfl i_Mo 0 (by decide) wm_2433 rfl rfl d_Mo_feed_98 ?_
  refine lv_iconst (pc := 101) (v := 1) hx hb d_Mo_feed_101 (by decide) ?_
  refine lv_iadd (pc := 102) hx hb d_Mo_feed_102 ?_
  refine k_cst (v := 1) (by decide) ?_
  refine k_put (pc := 103) X hK hP hD hS 0 rfl rfl i_Mo t_Mo t_Mo_ok n_Mo 0 (by decide) wm_2433 rfl (Or.inl rfl) rfl rfl (Nat.le_of_ble_eq_true rfl) d_Mo_feed_103 (fun H locs hP hD hS => ?_)
  have hP : va_P D classes (cat [[(a0, .inr (13, mF qm (va_up x0Mo 0 1) y0Mo))], [(qm 1, .inl (kA 1, 2000, .inl (upd f0 0 (vp_nar .byte ((v1 >>> (24 &&& 31)).toInt8.toInt32)))))]]) H := hP
  have hD : va_D A (cat [[(a0, .inr (13, mF qm (va_up x0Mo 0 1) y0Mo))], [(qm 1, .inl (kA 1, 2000, .inl (upd f0 0 (vp_nar .byte ((v1 >>> (24 &&& 31)).toInt8.toInt32)))))]]) := hD
  refine lv_iinc (pc := 106) (v := 1) (lv' := [(6, .int 1), (7, .int v1), (0, .ref a0), (1, .int v1), (2, .int v2), (3, .int v3), (4, .int v4), (5, .int v5)]) hx hb d_Mo_feed_106 hl (k := 1) rfl (by decide) (by decide) rfl (fun ls hl => ?_)
  refine lv_goto (pc := 109) (tgt := 18) hx hb d_Mo_feed_109 (by decide) ?_
  refine lv_iload (pc := 18) hx hb d_Mo_feed_18 (lv_at hl 0 rfl) ?_
  refine lv_bipush (pc := 20) (v := 20) hx hb d_Mo_feed_20 (by decide) ?_
  refine lv_icmp_ge (pc := 22) (tgt := 112) hx hb d_Mo_feed_22 (by decide) (fun c1 => absurd c1 (by decide)) (fun _ => ?_)
  refine lv_iload (pc := 25) hx hb d_Mo_feed_25 (lv_at hl 0 rfl) ?_
  refine lv_iconst (pc := 27) (v := 4) hx hb d_Mo_feed_27 (by decide) ?_
  refine lv_icmp_ge (pc := 28) (tgt := 35) hx hb d_Mo_feed_28 (by decide) (fun c1 => absurd c1 (by decide)) (fun _ => ?_)
  refine lv_iload_n (pc := 31) hx hb d_Mo_feed_31 rfl (lv_at hl 3 rfl) ?_
  refine lv_goto (pc := 32) (tgt := 71) hx hb d_Mo_feed_32 (by decide) ?_
  refine lv_istore (pc := 71) (lv' := [(7, .int v1), (6, .int 1), (0, .ref a0), (1, .int v1), (2, .int v2), (3, .int v3), (4, .int v4), (5, .int v5)]) hx hb d_Mo_feed_71 hl (by decide) rfl (fun ls hl => ?_)
  refine lv_aload_n (pc := 73) hx hb d_Mo_feed_73 rfl (lv_at hl 2 rfl) ?_
  refine k_get (pc := 74) (v := .ref (qm 1)) X hK hP 0 rfl rfl i_Mo 1 (by decide) wm_2434 rfl rfl d_Mo_feed_74 ?_
  refine lv_aload_n (pc := 77) hx hb d_Mo_feed_77 rfl (lv_at hl 2 rfl) ?_
  refine k_get (pc := 78) (v := .int 1) X hK hP 0 rfl rfl i_Mo 0 (by decide) wm_2433 rfl rfl d_Mo_feed_78 ?_
  refine lv_iload (pc := 81) hx hb d_Mo_feed_81 (lv_at hl 0 rfl) ?_
  refine lv_bipush (pc := 83) (v := 24) hx hb d_Mo_feed_83 (by decide) ?_
  refine lv_bipush (pc := 85) (v := 8) hx hb d_Mo_feed_85 (by decide) ?_
  refine lv_iload (pc := 87) hx hb d_Mo_feed_87 (lv_at hl 1 rfl) ?_
  refine lv_iconst (pc := 89) (v := 3) hx hb d_Mo_feed_89 (by decide) ?_
  refine lv_iand (pc := 90) hx hb d_Mo_feed_90 ?_
  refine k_cst (v := 1) (by decide) ?_
  refine lv_imul (pc := 91) hx hb d_Mo_feed_91 ?_
  refine k_cst (v := 8) (by decide) ?_
  refine lv_isub (pc := 92) hx hb d_Mo_feed_92 ?_
  refine k_cst (v := 16) (by decide) ?_
  refine lv_ishr (pc := 93) hx hb d_Mo_feed_93 ?_
  refine lv_i2b (pc := 94) hx hb d_Mo_feed_94 rfl ?_
  refine k_bst (pc := 95) hx hb hK hP hD hS 1 1 rfl rfl (1) rfl (by decide) (by decide) d_Mo_feed_95 (fun H locs hP hD hS => ?_)
  have hP : va_P D classes (cat [[(a0, .inr (13, mF qm (va_up x0Mo 0 1) y0Mo))], [(qm 1, .inl (kA 1, 2000, .inl (upd (upd f0 0 (vp_nar .byte ((v1 >>> (24 &&& 31)).toInt8.toInt32))) 1 (vp_nar .byte ((v1 >>> (16 &&& 31)).toInt8.toInt32)))))]]) H := hP
  have hD : va_D A (cat [[(a0, .inr (13, mF qm (va_up x0Mo 0 1) y0Mo))], [(qm 1, .inl (kA 1, 2000, .inl (upd (upd f0 0 (vp_nar .byte ((v1 >>> (24 &&& 31)).toInt8.toInt32))) 1 (vp_nar .byte ((v1 >>> (16 &&& 31)).toInt8.toInt32)))))]]) := hD
  refine lv_aload_n (pc := 96) hx hb d_Mo_feed_96 rfl (lv_at hl 2 rfl) ?_
  refine lv_dup (pc := 97) hx hb d_Mo_feed_97 rfl ?_
  refine k_get (pc := 98) (v := .int 1) X hK hP 0 rfl rfl i_Mo 0 (by decide) wm_2433 rfl rfl d_Mo_feed_98 ?_
  refine lv_iconst (pc := 101) (v := 1) hx hb d_Mo_feed_101 (by decide) ?_
  refine lv_iadd (pc := 102) hx hb d_Mo_feed_102 ?_
  refine k_cst (v := 2) (by decide) ?_
  refine k_put (pc := 103) X hK hP hD hS 0 rfl rfl i_Mo t_Mo t_Mo_ok n_Mo 0 (by decide) wm_2433 rfl (Or.inl rfl) rfl rfl (Nat.le_of_ble_eq_true rfl) d_Mo_feed_103 (fun H locs hP hD hS => ?_)
  have hP : va_P D classes (cat [[(a0, .inr (13, mF qm (va_up x0Mo 0 2) y0Mo))], [(qm 1, .inl (kA 1, 2000, .inl (upd (upd f0 0 (vp_nar .byte ((v1 >>> (24 &&& 31)).toInt8.toInt32))) 1 (vp_nar .byte ((v1 >>> (16 &&& 31)).toInt8.toInt32)))))]]) H := hP
  have hD : va_D A (cat [[(a0, .inr (13, mF qm (va_up x0Mo 0 2) y0Mo))], [(qm 1, .inl (kA 1, 2000, .inl (upd (upd f0 0 (vp_nar .byte ((v1 >>> (24 &&& 31)).toInt8.toInt32))) 1 (vp_nar .byte ((v1 >>> (16 &&& 31)).toInt8.toInt32)))))]]) := hD
  refine lv_iinc (pc := 106) (v := 2) (lv' := [(6, .int 2), (7, .int v1), (0, .ref a0), (1, .int v1), (2, .int v2), (3, .int v3), (4, .int v4), (5, .int v5)]) hx hb d_Mo_feed_106 hl (k := 1) rfl (by decide) (by decide) rfl (fun ls hl => ?_)
  refine lv_goto (pc := 109) (tgt := 18) hx hb d_Mo_feed_109 (by decide) ?_
  refine lv_iload (pc := 18) hx hb d_Mo_feed_18 (lv_at hl 0 rfl) ?_
  refine lv_bipush (pc := 20) (v := 20) hx hb d_Mo_feed_20 (by decide) ?_
  refine lv_icmp_ge (pc := 22) (tgt := 112) hx hb d_Mo_feed_22 (by decide) (fun c1 => absurd c1 (by decide)) (fun _ => ?_)
  refine lv_iload (pc := 25) hx hb d_Mo_feed_25 (lv_at hl 0 rfl) ?_
  refine lv_iconst (pc := 27) (v := 4) hx hb d_Mo_feed_27 (by decide) ?_
  refine lv_icmp_ge (pc := 28) (tgt := 35) hx hb d_Mo_feed_28 (by decide) (fun c1 => absurd c1 (by decide)) (fun _ => ?_)
  refine lv_iload_n (pc := 31) hx hb d_Mo_feed_31 rfl (lv_at hl 3 rfl) ?_
  refine lv_goto (pc := 32) (tgt := 71) hx hb d_Mo_feed_32 (by decide) ?_
  refine lv_istore (pc := 71) (lv' := [(7, .int v1), (6, .int 2), (0, .ref a0), (1, .int v1), (2, .int v2), (3, .int v3), (4, .int v4), (5, .int v5)]) hx hb d_Mo_feed_71 hl (by decide) rfl (fun ls hl => ?_)
  refine lv_aload_n (pc := 73) hx hb d_Mo_feed_73 rfl (lv_at hl 2 rfl) ?_
  refine k_get (pc := 74) (v := .ref (qm 1)) X hK hP 0 rfl rfl i_Mo 1 (by decide) wm_2434 rfl rfl d_Mo_feed_74 ?_
  refine lv_aload_n (pc := 77) hx hb d_Mo_feed_77 rfl (lv_at hl 2 rfl) ?_
  refine k_get (pc := 78) (v := .int 2) X hK hP 0 rfl rfl i_Mo 0 (by decide) wm_2433 rfl rfl d_Mo_feed_78 ?_
  refine lv_iload (pc := 81) hx hb d_Mo_feed_81 (lv_at hl 0 rfl) ?_
  refine lv_bipush (pc := 83) (v := 24) hx hb d_Mo_feed_83 (by decide) ?_
  refine lv_bipush (pc := 85) (v := 8) hx hb d_Mo_feed_85 (by decide) ?_
  refine lv_iload (pc := 87) hx hb d_Mo_feed_87 (lv_at hl 1 rfl) ?_
  refine lv_iconst (pc := 89) (v := 3) hx hb d_Mo_feed_89 (by decide) ?_
  refine lv_iand (pc := 90) hx hb d_Mo_feed_90 ?_
  refine k_cst (v := 2) (by decide) ?_
  refine lv_imul (pc := 91) hx hb d_Mo_feed_91 ?_
  refine k_cst (v := 16) (by decide) ?_
  refine lv_isub (pc := 92) hx hb d_Mo_feed_92 ?_
  refine k_cst (v := 8) (by decide) ?_
  refine lv_ishr (pc := 93) hx hb d_Mo_feed_93 ?_
  refine lv_i2b (pc := 94) hx hb d_Mo_feed_94 rfl ?_
  refine k_bst (pc := 95) hx hb hK hP hD hS 1 1 rfl rfl (2) rfl (by decide) (by decide) d_Mo_feed_95 (fun H locs hP hD hS => ?_)
  have hP : va_P D classes (cat [[(a0, .inr (13, mF qm (va_up x0Mo 0 2) y0Mo))], [(qm 1, .inl (kA 1, 2000, .inl (upd (upd (upd f0 0 (vp_nar .byte ((v1 >>> (24 &&& 31)).toInt8.toInt32))) 1 (vp_nar .byte ((v1 >>> (16 &&& 31)).toInt8.toInt32))) 2 (vp_nar .byte ((v1 >>> (8 &&& 31)).toInt8.toInt32)))))]]) H := hP
  have hD : va_D A (cat [[(a0, .inr (13, mF qm (va_up x0Mo 0 2) y0Mo))], [(qm 1, .inl (kA 1, 2000, .inl (upd (upd (upd f0 0 (vp_nar .byte ((v1 >>> (24 &&& 31)).toInt8.toInt32))) 1 (vp_nar .byte ((v1 >>> (16 &&& 31)).toInt8.toInt32))) 2 (vp_nar .byte ((v1 >>> (8 &&& 31)).toInt8.toInt32)))))]]) := hD
  refine lv_aload_n (pc := 96) hx hb d_Mo_feed_96 rfl (lv_at hl 2 rfl) ?_
  refine lv_dup (pc := 97) hx hb d_Mo_feed_97 rfl ?_
  refine k_get (pc := 98) (v := .int 2) X hK hP 0 rfl rfl i_Mo 0 (by decide) wm_2433 rfl rfl d_Mo_feed_98 ?_
  refine lv_iconst (pc := 101) (v := 1) hx hb d_Mo_feed_101 (by decide) ?_
  refine lv_iadd (pc := 102) hx hb d_Mo_feed_102 ?_
  refine k_cst (v := 3) (by decide) ?_
  refine k_put (pc := 103) X hK hP hD hS 0 rfl rfl i_Mo t_Mo t_Mo_ok n_Mo 0 (by decide) wm_2433 rfl (Or.inl rfl) rfl rfl (Nat.le_of_ble_eq_true rfl) d_Mo_feed_103 (fun H locs hP hD hS => ?_)
  have hP : va_P D classes (cat [[(a0, .inr (13, mF qm (va_up x0Mo 0 3) y0Mo))], [(qm 1, .inl (kA 1, 2000, .inl (upd (upd (upd f0 0 (vp_nar .byte ((v1 >>> (24 &&& 31)).toInt8.toInt32))) 1 (vp_nar .byte ((v1 >>> (16 &&& 31)).toInt8.toInt32))) 2 (vp_nar .byte ((v1 >>> (8 &&& 31)).toInt8.toInt32)))))]]) H := hP
  have hD : va_D A (cat [[(a0, .inr (13, mF qm (va_up x0Mo 0 3) y0Mo))], [(qm 1, .inl (kA 1, 2000, .inl (upd (upd (upd f0 0 (vp_nar .byte ((v1 >>> (24 &&& 31)).toInt8.toInt32))) 1 (vp_nar .byte ((v1 >>> (16 &&& 31)).toInt8.toInt32))) 2 (vp_nar .byte ((v1 >>> (8 &&& 31)).toInt8.toInt32)))))]]) := hD
  refine lv_iinc (pc := 106) (v := 3) (lv' := [(6, .int 3), (7, .int v1), (0, .ref a0), (1, .int v1), (2, .int v2), (3, .int v3), (4, .int v4), (5, .int v5)]) hx hb d_Mo_feed_106 hl (k := 1) rfl (by decide) (by decide) rfl (fun ls hl => ?_)
  refine lv_goto (pc := 109) (tgt := 18) hx hb d_Mo_feed_109 (by decide) ?_
  refine lv_iload (pc := 18) hx hb d_Mo_feed_18 (lv_at hl 0 rfl) ?_
  refine lv_bipush (pc := 20) (v := 20) hx hb d_Mo_feed_20 (by decide) ?_
  refine lv_icmp_ge (pc := 22) (tgt := 112) hx hb d_Mo_feed_22 (by decide) (fun c1 => absurd c1 (by decide)) (fun _ => ?_)
  refine lv_iload (pc := 25) hx hb d_Mo_feed_25 (lv_at hl 0 rfl) ?_
  refine lv_iconst (pc := 27) (v := 4) hx hb d_Mo_feed_27 (by decide) ?_
  refine lv_icmp_ge (pc := 28) (tgt := 35) hx hb d_Mo_feed_28 (by decide) (fun c1 => absurd c1 (by decide)) (fun _ => ?_)
  refine lv_iload_n (pc := 31) hx hb d_Mo_feed_31 rfl (lv_at hl 3 rfl) ?_
  refine lv_goto (pc := 32) (tgt := 71) hx hb d_Mo_feed_32 (by decide) ?_
  refine lv_istore (pc := 71) (lv' := [(7, .int v1), (6, .int 3), (0, .ref a0), (1, .int v1), (2, .int v2), (3, .int v3), (4, .int v4), (5, .int v5)]) hx hb d_Mo_feed_71 hl (by decide) rfl (fun ls hl => ?_)
  refine lv_aload_n (pc := 73) hx hb d_Mo_feed_73 rfl (lv_at hl 2 rfl) ?_
  refine k_get (pc := 74) (v := .ref (qm 1)) X hK hP 0 rfl rfl i_Mo 1 (by decide) wm_2434 rfl rfl d_Mo_feed_74 ?_
  refine lv_aload_n (pc := 77) hx hb d_Mo_feed_77 rfl (lv_at hl 2 rfl) ?_
  refine k_get (pc := 78) (v := .int 3) X hK hP 0 rfl rfl i_Mo 0 (by decide) wm_2433 rfl rfl d_Mo_feed_78 ?_
  refine lv_iload (pc := 81) hx hb d_Mo_feed_81 (lv_at hl 0 rfl) ?_
  refine lv_bipush (pc := 83) (v := 24) hx hb d_Mo_feed_83 (by decide) ?_
  refine lv_bipush (pc := 85) (v := 8) hx hb d_Mo_feed_85 (by decide) ?_
  refine lv_iload (pc := 87) hx hb d_Mo_feed_87 (lv_at hl 1 rfl) ?_
  refine lv_iconst (pc := 89) (v := 3) hx hb d_Mo_feed_89 (by decide) ?_
  refine lv_iand (pc := 90) hx hb d_Mo_feed_90 ?_
  refine k_cst (v := 3) (by decide) ?_
  refine lv_imul (pc := 91) hx hb d_Mo_feed_91 ?_
  refine k_cst (v := 24) (by decide) ?_
  refine lv_isub (pc := 92) hx hb d_Mo_feed_92 ?_
  refine k_cst (v := 0) (by decide) ?_
  refine lv_ishr (pc := 93) hx hb d_Mo_feed_93 ?_
  refine lv_i2b (pc := 94) hx hb d_Mo_feed_94 rfl ?_
  refine k_bst (pc := 95) hx hb hK hP hD hS 1 1 rfl rfl (3) rfl (by decide) (by decide) d_Mo_feed_95 (fun H locs hP hD hS => ?_)
  have hP : va_P D classes (cat [[(a0, .inr (13, mF qm (va_up x0Mo 0 3) y0Mo))], [(qm 1, .inl (kA 1, 2000, .inl (upd (upd (upd (upd f0 0 (vp_nar .byte ((v1 >>> (24 &&& 31)).toInt8.toInt32))) 1 (vp_nar .byte ((v1 >>> (16 &&& 31)).toInt8.toInt32))) 2 (vp_nar .byte ((v1 >>> (8 &&& 31)).toInt8.toInt32))) 3 (vp_nar .byte ((v1 >>> (0 &&& 31)).toInt8.toInt32)))))]]) H := hP
  have hD : va_D A (cat [[(a0, .inr (13, mF qm (va_up x0Mo 0 3) y0Mo))], [(qm 1, .inl (kA 1, 2000, .inl (upd (upd (upd (upd f0 0 (vp_nar .byte ((v1 >>> (24 &&& 31)).toInt8.toInt32))) 1 (vp_nar .byte ((v1 >>> (16 &&& 31)).toInt8.toInt32))) 2 (vp_nar .byte ((v1 >>> (8 &&& 31)).toInt8.toInt32))) 3 (vp_nar .byte ((v1 >>> (0 &&& 31)).toInt8.toInt32)))))]]) := hD
  refine lv_aload_n (pc := 96) hx hb d_Mo_feed_96 rfl (lv_at hl 2 rfl) ?_
  refine lv_dup (pc := 97) hx hb d_Mo_feed_97 rfl ?_
  refine k_get (pc := 98) (v := .int 3) X hK hP 0 rfl rfl i_Mo 0 (by decide) wm_2433 rfl rfl d_Mo_feed_98 ?_
  refine lv_iconst (pc := 101) (v := 1) hx hb d_Mo_feed_101 (by decide) ?_
  refine lv_iadd (pc := 102) hx hb d_Mo_feed_102 ?_
  refine k_cst (v := 4) (by decide) ?_
  refine k_put (pc := 103) X hK hP hD hS 0 rfl rfl i_Mo t_Mo t_Mo_ok n_Mo 0 (by decide) wm_2433 rfl (Or.inl rfl) rfl rfl (Nat.le_of_ble_eq_true rfl) d_Mo_feed_103 (fun H locs hP hD hS => ?_)
  have hP : va_P D classes (cat [[(a0, .inr (13, mF qm (va_up x0Mo 0 4) y0Mo))], [(qm 1, .inl (kA 1, 2000, .inl (upd (upd (upd (upd f0 0 (vp_nar .byte ((v1 >>> (24 &&& 31)).toInt8.toInt32))) 1 (vp_nar .byte ((v1 >>> (16 &&& 31)).toInt8.toInt32))) 2 (vp_nar .byte ((v1 >>> (8 &&& 31)).toInt8.toInt32))) 3 (vp_nar .byte ((v1 >>> (0 &&& 31)).toInt8.toInt32)))))]]) H := hP
  have hD : va_D A (cat [[(a0, .inr (13, mF qm (va_up x0Mo 0 4) y0Mo))], [(qm 1, .inl (kA 1, 2000, .inl (upd (upd (upd (upd f0 0 (vp_nar .byte ((v1 >>> (24 &&& 31)).toInt8.toInt32))) 1 (vp_nar .byte ((v1 >>> (16 &&& 31)).toInt8.toInt32))) 2 (vp_nar .byte ((v1 >>> (8 &&& 31)).toInt8.toInt32))) 3 (vp_nar .byte ((v1 >>> (0 &&& 31)).toInt8.toInt32)))))]]) := hD
  refine lv_iinc (pc := 106) (v := 4) (lv' := [(6, .int 4), (7, .int v1), (0, .ref a0), (1, .int v1), (2, .int v2), (3, .int v3), (4, .int v4), (5, .int v5)]) hx hb d_Mo_feed_106 hl (k := 1) rfl (by decide) (by decide) rfl (fun ls hl => ?_)
  refine lv_goto (pc := 109) (tgt := 18) hx hb d_Mo_feed_109 (by decide) ?_
  refine lv_iload (pc := 18) hx hb d_Mo_feed_18 (lv_at hl 0 rfl) ?_
  refine lv_bipush (pc := 20) (v := 20) hx hb d_Mo_feed_20 (by decide) ?_
  refine lv_icmp_ge (pc := 22) (tgt := 112) hx hb d_Mo_feed_22 (by decide) (fun c1 => absurd c1 (by decide)) (fun _ => ?_)
  refine lv_iload (pc := 25) hx hb d_Mo_feed_25 (lv_at hl 0 rfl) ?_
  refine lv_iconst (pc := 27) (v := 4) hx hb d_Mo_feed_27 (by decide) ?_
  refine lv_icmp_ge (pc := 28) (tgt := 35) hx hb d_Mo_feed_28 (by decide) (fun _ => ?_) (fun c1 => absurd (by decide) c1)
  refine lv_iload (pc := 35) hx hb d_Mo_feed_35 (lv_at hl 0 rfl) ?_
  refine lv_bipush (pc := 37) (v := 8) hx hb d_Mo_feed_37 (by decide) ?_
  refine lv_icmp_ge (pc := 39) (tgt := 46) hx hb d_Mo_feed_39 (by decide) (fun c1 => absurd c1 (by decide)) (fun _ => ?_)
  refine lv_iload_n (pc := 42) hx hb d_Mo_feed_42 rfl (lv_at hl 4 rfl) ?_
  refine lv_goto (pc := 43) (tgt := 71) hx hb d_Mo_feed_43 (by decide) ?_
  refine lv_istore (pc := 71) (lv' := [(7, .int v2), (6, .int 4), (0, .ref a0), (1, .int v1), (2, .int v2), (3, .int v3), (4, .int v4), (5, .int v5)]) hx hb d_Mo_feed_71 hl (by decide) rfl (fun ls hl => ?_)
  refine lv_aload_n (pc := 73) hx hb d_Mo_feed_73 rfl (lv_at hl 2 rfl) ?_
  refine k_get (pc := 74) (v := .ref (qm 1)) X hK hP 0 rfl rfl i_Mo 1 (by decide) wm_2434 rfl rfl d_Mo_feed_74 ?_
  refine lv_aload_n (pc := 77) hx hb d_Mo_feed_77 rfl (lv_at hl 2 rfl) ?_
  refine k_get (pc := 78) (v := .int 4) X hK hP 0 rfl rfl i_Mo 0 (by decide) wm_2433 rfl rfl d_Mo_feed_78 ?_
  refine lv_iload (pc := 81) hx hb d_Mo_feed_81 (lv_at hl 0 rfl) ?_
  refine lv_bipush (pc := 83) (v := 24) hx hb d_Mo_feed_83 (by decide) ?_
  refine lv_bipush (pc := 85) (v := 8) hx hb d_Mo_feed_85 (by decide) ?_
  refine lv_iload (pc := 87) hx hb d_Mo_feed_87 (lv_at hl 1 rfl) ?_
  refine lv_iconst (pc := 89) (v := 3) hx hb d_Mo_feed_89 (by decide) ?_
  refine lv_iand (pc := 90) hx hb d_Mo_feed_90 ?_
  refine k_cst (v := 0) (by decide) ?_
  refine lv_imul (pc := 91) hx hb d_Mo_feed_91 ?_
  refine k_cst (v := 0) (by decide) ?_
  refine lv_isub (pc := 92) hx hb d_Mo_feed_92 ?_
  refine k_cst (v := 24) (by decide) ?_
  refine lv_ishr (pc := 93) hx hb d_Mo_feed_93 ?_
  refine lv_i2b (pc := 94) hx hb d_Mo_feed_94 rfl ?_
  refine k_bst (pc := 95) hx hb hK hP hD hS 1 1 rfl rfl (4) rfl (by decide) (by decide) d_Mo_feed_95 (fun H locs hP hD hS => ?_)
  have hP : va_P D classes (cat [[(a0, .inr (13, mF qm (va_up x0Mo 0 4) y0Mo))], [(qm 1, .inl (kA 1, 2000, .inl (upd (upd (upd (upd (upd f0 0 (vp_nar .byte ((v1 >>> (24 &&& 31)).toInt8.toInt32))) 1 (vp_nar .byte ((v1 >>> (16 &&& 31)).toInt8.toInt32))) 2 (vp_nar .byte ((v1 >>> (8 &&& 31)).toInt8.toInt32))) 3 (vp_nar .byte ((v1 >>> (0 &&& 31)).toInt8.toInt32))) 4 (vp_nar .byte ((v2 >>> (24 &&& 31)).toInt8.toInt32)))))]]) H := hP
  have hD : va_D A (cat [[(a0, .inr (13, mF qm (va_up x0Mo 0 4) y0Mo))], [(qm 1, .inl (kA 1, 2000, .inl (upd (upd (upd (upd (upd f0 0 (vp_nar .byte ((v1 >>> (24 &&& 31)).toInt8.toInt32))) 1 (vp_nar .byte ((v1 >>> (16 &&& 31)).toInt8.toInt32))) 2 (vp_nar .byte ((v1 >>> (8 &&& 31)).toInt8.toInt32))) 3 (vp_nar .byte ((v1 >>> (0 &&& 31)).toInt8.toInt32))) 4 (vp_nar .byte ((v2 >>> (24 &&& 31)).toInt8.toInt32)))))]]) := hD
  refine lv_aload_n (pc := 96) hx hb d_Mo_feed_96 rfl (lv_at hl 2 rfl) ?_
  refine lv_dup (pc := 97) hx hb d_Mo_feed_97 rfl ?_
  refine k_get (pc := 98) (v := .int 4) X hK hP 0 rfl rfl i_Mo 0 (by decide) wm_2433 rfl rfl d_Mo_feed_98 ?_
  refine lv_iconst (pc := 101) (v := 1) hx hb d_Mo_feed_101 (by decide) ?_
  refine lv_iadd (pc := 102) hx hb d_Mo_feed_102 ?_
  refine k_cst (v := 5) (by decide) ?_
  refine k_put (pc := 103) X hK hP hD hS 0 rfl rfl i_Mo t_Mo t_Mo_ok n_Mo 0 (by decide) wm_2433 rfl (Or.inl rfl) rfl rfl (Nat.le_of_ble_eq_true rfl) d_Mo_feed_103 (fun H locs hP hD hS => ?_)
  have hP : va_P D classes (cat [[(a0, .inr (13, mF qm (va_up x0Mo 0 5) y0Mo))], [(qm 1, .inl (kA 1, 2000, .inl (upd (upd (upd (upd (upd f0 0 (vp_nar .byte ((v1 >>> (24 &&& 31)).toInt8.toInt32))) 1 (vp_nar .byte ((v1 >>> (16 &&& 31)).toInt8.toInt32))) 2 (vp_nar .byte ((v1 >>> (8 &&& 31)).toInt8.toInt32))) 3 (vp_nar .byte ((v1 >>> (0 &&& 31)).toInt8.toInt32))) 4 (vp_nar .byte ((v2 >>> (24 &&& 31)).toInt8.toInt32)))))]]) H := hP
  have hD : va_D A (cat [[(a0, .inr (13, mF qm (va_up x0Mo 0 5) y0Mo))], [(qm 1, .inl (kA 1, 2000, .inl (upd (upd (upd (upd (upd f0 0 (vp_nar .byte ((v1 >>> (24 &&& 31)).toInt8.toInt32))) 1 (vp_nar .byte ((v1 >>> (16 &&& 31)).toInt8.toInt32))) 2 (vp_nar .byte ((v1 >>> (8 &&& 31)).toInt8.toInt32))) 3 (vp_nar .byte ((v1 >>> (0 &&& 31)).toInt8.toInt32))) 4 (vp_nar .byte ((v2 >>> (24 &&& 31)).toInt8.toInt32)))))]]) := hD
  refine lv_iinc (pc := 106) (v := 5) (lv' := [(6, .int 5), (7, .int v2), (0, .ref a0), (1, .int v1), (2, .int v2), (3, .int v3), (4, .int v4), (5, .int v5)]) hx hb d_Mo_feed_106 hl (k := 1) rfl (by decide) (by decide) rfl (fun ls hl => ?_)
  refine lv_goto (pc := 109) (tgt := 18) hx hb d_Mo_feed_109 (by decide) ?_
  refine lv_iload (pc := 18) hx hb d_Mo_feed_18 (lv_at hl 0 rfl) ?_
  refine lv_bipush (pc := 20) (v := 20) hx hb d_Mo_feed_20 (by decide) ?_
  refine lv_icmp_ge (pc := 22) (tgt := 112) hx hb d_Mo_feed_22 (by decide) (fun c1 => absurd c1 (by decide)) (fun _ => ?_)
  refine lv_iload (pc := 25) hx hb d_Mo_feed_25 (lv_at hl 0 rfl) ?_
  refine lv_iconst (pc := 27) (v := 4) hx hb d_Mo_feed_27 (by decide) ?_
  refine lv_icmp_ge (pc := 28) (tgt := 35) hx hb d_Mo_feed_28 (by decide) (fun _ => ?_) (fun c1 => absurd (by decide) c1)
  refine lv_iload (pc := 35) hx hb d_Mo_feed_35 (lv_at hl 0 rfl) ?_
  refine lv_bipush (pc := 37) (v := 8) hx hb d_Mo_feed_37 (by decide) ?_
  refine lv_icmp_ge (pc := 39) (tgt := 46) hx hb d_Mo_feed_39 (by decide) (fun c1 => absurd c1 (by decide)) (fun _ => ?_)
  refine lv_iload_n (pc := 42) hx hb d_Mo_feed_42 rfl (lv_at hl 4 rfl) ?_
  refine lv_goto (pc := 43) (tgt := 71) hx hb d_Mo_feed_43 (by decide) ?_
  refine lv_istore (pc := 71) (lv' := [(7, .int v2), (6, .int 5), (0, .ref a0), (1, .int v1), (2, .int v2), (3, .int v3), (4, .int v4), (5, .int v5)]) hx hb d_Mo_feed_71 hl (by decide) rfl (fun ls hl => ?_)
  refine lv_aload_n (pc := 73) hx hb d_Mo_feed_73 rfl (lv_at hl 2 rfl) ?_
  refine k_get (pc := 74) (v := .ref (qm 1)) X hK hP 0 rfl rfl i_Mo 1 (by decide) wm_2434 rfl rfl d_Mo_feed_74 ?_
  refine lv_aload_n (pc := 77) hx hb d_Mo_feed_77 rfl (lv_at hl 2 rfl) ?_
  refine k_get (pc := 78) (v := .int 5) X hK hP 0 rfl rfl i_Mo 0 (by decide) wm_2433 rfl rfl d_Mo_feed_78 ?_
  refine lv_iload (pc := 81) hx hb d_Mo_feed_81 (lv_at hl 0 rfl) ?_
  refine lv_bipush (pc := 83) (v := 24) hx hb d_Mo_feed_83 (by decide) ?_
  refine lv_bipush (pc := 85) (v := 8) hx hb d_Mo_feed_85 (by decide) ?_
  refine lv_iload (pc := 87) hx hb d_Mo_feed_87 (lv_at hl 1 rfl) ?_
  refine lv_iconst (pc := 89) (v := 3) hx hb d_Mo_feed_89 (by decide) ?_
  refine lv_iand (pc := 90) hx hb d_Mo_feed_90 ?_
  refine k_cst (v := 1) (by decide) ?_
  refine lv_imul (pc := 91) hx hb d_Mo_feed_91 ?_
  refine k_cst (v := 8) (by decide) ?_
  refine lv_isub (pc := 92) hx hb d_Mo_feed_92 ?_
  refine k_cst (v := 16) (by decide) ?_
  refine lv_ishr (pc := 93) hx hb d_Mo_feed_93 ?_
  refine lv_i2b (pc := 94) hx hb d_Mo_feed_94 rfl ?_
  refine k_bst (pc := 95) hx hb hK hP hD hS 1 1 rfl rfl (5) rfl (by decide) (by decide) d_Mo_feed_95 (fun H locs hP hD hS => ?_)
  have hP : va_P D classes (cat [[(a0, .inr (13, mF qm (va_up x0Mo 0 5) y0Mo))], [(qm 1, .inl (kA 1, 2000, .inl (upd (upd (upd (upd (upd (upd f0 0 (vp_nar .byte ((v1 >>> (24 &&& 31)).toInt8.toInt32))) 1 (vp_nar .byte ((v1 >>> (16 &&& 31)).toInt8.toInt32))) 2 (vp_nar .byte ((v1 >>> (8 &&& 31)).toInt8.toInt32))) 3 (vp_nar .byte ((v1 >>> (0 &&& 31)).toInt8.toInt32))) 4 (vp_nar .byte ((v2 >>> (24 &&& 31)).toInt8.toInt32))) 5 (vp_nar .byte ((v2 >>> (16 &&& 31)).toInt8.toInt32)))))]]) H := hP
  have hD : va_D A (cat [[(a0, .inr (13, mF qm (va_up x0Mo 0 5) y0Mo))], [(qm 1, .inl (kA 1, 2000, .inl (upd (upd (upd (upd (upd (upd f0 0 (vp_nar .byte ((v1 >>> (24 &&& 31)).toInt8.toInt32))) 1 (vp_nar .byte ((v1 >>> (16 &&& 31)).toInt8.toInt32))) 2 (vp_nar .byte ((v1 >>> (8 &&& 31)).toInt8.toInt32))) 3 (vp_nar .byte ((v1 >>> (0 &&& 31)).toInt8.toInt32))) 4 (vp_nar .byte ((v2 >>> (24 &&& 31)).toInt8.toInt32))) 5 (vp_nar .byte ((v2 >>> (16 &&& 31)).toInt8.toInt32)))))]]) := hD
  refine lv_aload_n (pc := 96) hx hb d_Mo_feed_96 rfl (lv_at hl 2 rfl) ?_
  refine lv_dup (pc := 97) hx hb d_Mo_feed_97 rfl ?_
  refine k_get (pc := 98) (v := .int 5) X hK hP 0 rfl rfl i_Mo 0 (by decide) wm_2433 rfl rfl d_Mo_feed_98 ?_
  refine lv_iconst (pc := 101) (v := 1) hx hb d_Mo_feed_101 (by decide) ?_
  refine lv_iadd (pc := 102) hx hb d_Mo_feed_102 ?_
  refine k_cst (v := 6) (by decide) ?_
  refine k_put (pc := 103) X hK hP hD hS 0 rfl rfl i_Mo t_Mo t_Mo_ok n_Mo 0 (by decide) wm_2433 rfl (Or.inl rfl) rfl rfl (Nat.le_of_ble_eq_true rfl) d_Mo_feed_103 (fun H locs hP hD hS => ?_)
  have hP : va_P D classes (cat [[(a0, .inr (13, mF qm (va_up x0Mo 0 6) y0Mo))], [(qm 1, .inl (kA 1, 2000, .inl (upd (upd (upd (upd (upd (upd f0 0 (vp_nar .byte ((v1 >>> (24 &&& 31)).toInt8.toInt32))) 1 (vp_nar .byte ((v1 >>> (16 &&& 31)).toInt8.toInt32))) 2 (vp_nar .byte ((v1 >>> (8 &&& 31)).toInt8.toInt32))) 3 (vp_nar .byte ((v1 >>> (0 &&& 31)).toInt8.toInt32))) 4 (vp_nar .byte ((v2 >>> (24 &&& 31)).toInt8.toInt32))) 5 (vp_nar .byte ((v2 >>> (16 &&& 31)).toInt8.toInt32)))))]]) H := hP
  have hD : va_D A (cat [[(a0, .inr (13, mF qm (va_up x0Mo 0 6) y0Mo))], [(qm 1, .inl (kA 1, 2000, .inl (upd (upd (upd (upd (upd (upd f0 0 (vp_nar .byte ((v1 >>> (24 &&& 31)).toInt8.toInt32))) 1 (vp_nar .byte ((v1 >>> (16 &&& 31)).toInt8.toInt32))) 2 (vp_nar .byte ((v1 >>> (8 &&& 31)).toInt8.toInt32))) 3 (vp_nar .byte ((v1 >>> (0 &&& 31)).toInt8.toInt32))) 4 (vp_nar .byte ((v2 >>> (24 &&& 31)).toInt8.toInt32))) 5 (vp_nar .byte ((v2 >>> (16 &&& 31)).toInt8.toInt32)))))]]) := hD
  refine lv_iinc (pc := 106) (v := 6) (lv' := [(6, .int 6), (7, .int v2), (0, .ref a0), (1, .int v1), (2, .int v2), (3, .int v3), (4, .int v4), (5, .int v5)]) hx hb d_Mo_feed_106 hl (k := 1) rfl (by decide) (by decide) rfl (fun ls hl => ?_)
  refine lv_goto (pc := 109) (tgt := 18) hx hb d_Mo_feed_109 (by decide) ?_
  refine lv_iload (pc := 18) hx hb d_Mo_feed_18 (lv_at hl 0 rfl) ?_
  refine lv_bipush (pc := 20) (v := 20) hx hb d_Mo_feed_20 (by decide) ?_
  refine lv_icmp_ge (pc := 22) (tgt := 112) hx hb d_Mo_feed_22 (by decide) (fun c1 => absurd c1 (by decide)) (fun _ => ?_)
  refine lv_iload (pc := 25) hx hb d_Mo_feed_25 (lv_at hl 0 rfl) ?_
  refine lv_iconst (pc := 27) (v := 4) hx hb d_Mo_feed_27 (by decide) ?_
  refine lv_icmp_ge (pc := 28) (tgt := 35) hx hb d_Mo_feed_28 (by decide) (fun _ => ?_) (fun c1 => absurd (by decide) c1)
  refine lv_iload (pc := 35) hx hb d_Mo_feed_35 (lv_at hl 0 rfl) ?_
  refine lv_bipush (pc := 37) (v := 8) hx hb d_Mo_feed_37 (by decide) ?_
  refine lv_icmp_ge (pc := 39) (tgt := 46) hx hb d_Mo_feed_39 (by decide) (fun c1 => absurd c1 (by decide)) (fun _ => ?_)
  refine lv_iload_n (pc := 42) hx hb d_Mo_feed_42 rfl (lv_at hl 4 rfl) ?_
  refine lv_goto (pc := 43) (tgt := 71) hx hb d_Mo_feed_43 (by decide) ?_
  refine lv_istore (pc := 71) (lv' := [(7, .int v2), (6, .int 6), (0, .ref a0), (1, .int v1), (2, .int v2), (3, .int v3), (4, .int v4), (5, .int v5)]) hx hb d_Mo_feed_71 hl (by decide) rfl (fun ls hl => ?_)
  refine lv_aload_n (pc := 73) hx hb d_Mo_feed_73 rfl (lv_at hl 2 rfl) ?_
  refine k_get (pc := 74) (v := .ref (qm 1)) X hK hP 0 rfl rfl i_Mo 1 (by decide) wm_2434 rfl rfl d_Mo_feed_74 ?_
  refine lv_aload_n (pc := 77) hx hb d_Mo_feed_77 rfl (lv_at hl 2 rfl) ?_
  refine k_get (pc := 78) (v := .int 6) X hK hP 0 rfl rfl i_Mo 0 (by decide) wm_2433 rfl rfl d_Mo_feed_78 ?_
  refine lv_iload (pc := 81) hx hb d_Mo_feed_81 (lv_at hl 0 rfl) ?_
  refine lv_bipush (pc := 83) (v := 24) hx hb d_Mo_feed_83 (by decide) ?_
  refine lv_bipush (pc := 85) (v := 8) hx hb d_Mo_feed_85 (by decide) ?_
  refine lv_iload (pc := 87) hx hb d_Mo_feed_87 (lv_at hl 1 rfl) ?_
  refine lv_iconst (pc := 89) (v := 3) hx hb d_Mo_feed_89 (by decide) ?_
  refine lv_iand (pc := 90) hx hb d_Mo_feed_90 ?_
  refine k_cst (v := 2) (by decide) ?_
  refine lv_imul (pc := 91) hx hb d_Mo_feed_91 ?_
  refine k_cst (v := 16) (by decide) ?_
  refine lv_isub (pc := 92) hx hb d_Mo_feed_92 ?_
  refine k_cst (v := 8) (by decide) ?_
  refine lv_ishr (pc := 93) hx hb d_Mo_feed_93 ?_
  refine lv_i2b (pc := 94) hx hb d_Mo_feed_94 rfl ?_
  refine k_bst (pc := 95) hx hb hK hP hD hS 1 1 rfl rfl (6) rfl (by decide) (by decide) d_Mo_feed_95 (fun H locs hP hD hS => ?_)
  have hP : va_P D classes (cat [[(a0, .inr (13, mF qm (va_up x0Mo 0 6) y0Mo))], [(qm 1, .inl (kA 1, 2000, .inl (upd (upd (upd (upd (upd (upd (upd f0 0 (vp_nar .byte ((v1 >>> (24 &&& 31)).toInt8.toInt32))) 1 (vp_nar .byte ((v1 >>> (16 &&& 31)).toInt8.toInt32))) 2 (vp_nar .byte ((v1 >>> (8 &&& 31)).toInt8.toInt32))) 3 (vp_nar .byte ((v1 >>> (0 &&& 31)).toInt8.toInt32))) 4 (vp_nar .byte ((v2 >>> (24 &&& 31)).toInt8.toInt32))) 5 (vp_nar .byte ((v2 >>> (16 &&& 31)).toInt8.toInt32))) 6 (vp_nar .byte ((v2 >>> (8 &&& 31)).toInt8.toInt32)))))]]) H := hP
  have hD : va_D A (cat [[(a0, .inr (13, mF qm (va_up x0Mo 0 6) y0Mo))], [(qm 1, .inl (kA 1, 2000, .inl (upd (upd (upd (upd (upd (upd (upd f0 0 (vp_nar .byte ((v1 >>> (24 &&& 31)).toInt8.toInt32))) 1 (vp_nar .byte ((v1 >>> (16 &&& 31)).toInt8.toInt32))) 2 (vp_nar .byte ((v1 >>> (8 &&& 31)).toInt8.toInt32))) 3 (vp_nar .byte ((v1 >>> (0 &&& 31)).toInt8.toInt32))) 4 (vp_nar .byte ((v2 >>> (24 &&& 31)).toInt8.toInt32))) 5 (vp_nar .byte ((v2 >>> (16 &&& 31)).toInt8.toInt32))) 6 (vp_nar .byte ((v2 >>> (8 &&& 31)).toInt8.toInt32)))))]]) := hD
  refine lv_aload_n (pc := 96) hx hb d_Mo_feed_96 rfl (lv_at hl 2 rfl) ?_
  refine lv_dup (pc := 97) hx hb d_Mo_feed_97 rfl ?_
  refine k_get (pc := 98) (v := .int 6) X hK hP 0 rfl rfl i_Mo 0 (by decide) wm_2433 rfl rfl d_Mo_feed_98 ?_
  refine lv_iconst (pc := 101) (v := 1) hx hb d_Mo_feed_101 (by decide) ?_
  refine lv_iadd (pc := 102) hx hb d_Mo_feed_102 ?_
  refine k_cst (v := 7) (by decide) ?_
  refine k_put (pc := 103) X hK hP hD hS 0 rfl rfl i_Mo t_Mo t_Mo_ok n_Mo 0 (by decide) wm_2433 rfl (Or.inl rfl) rfl rfl (Nat.le_of_ble_eq_true rfl) d_Mo_feed_103 (fun H locs hP hD hS => ?_)
  have hP : va_P D classes (cat [[(a0, .inr (13, mF qm (va_up x0Mo 0 7) y0Mo))], [(qm 1, .inl (kA 1, 2000, .inl (upd (upd (upd (upd (upd (upd (upd f0 0 (vp_nar .byte ((v1 >>> (24 &&& 31)).toInt8.toInt32))) 1 (vp_nar .byte ((v1 >>> (16 &&& 31)).toInt8.toInt32))) 2 (vp_nar .byte ((v1 >>> (8 &&& 31)).toInt8.toInt32))) 3 (vp_nar .byte ((v1 >>> (0 &&& 31)).toInt8.toInt32))) 4 (vp_nar .byte ((v2 >>> (24 &&& 31)).toInt8.toInt32))) 5 (vp_nar .byte ((v2 >>> (16 &&& 31)).toInt8.toInt32))) 6 (vp_nar .byte ((v2 >>> (8 &&& 31)).toInt8.toInt32)))))]]) H := hP
  have hD : va_D A (cat [[(a0, .inr (13, mF qm (va_up x0Mo 0 7) y0Mo))], [(qm 1, .inl (kA 1, 2000, .inl (upd (upd (upd (upd (upd (upd (upd f0 0 (vp_nar .byte ((v1 >>> (24 &&& 31)).toInt8.toInt32))) 1 (vp_nar .byte ((v1 >>> (16 &&& 31)).toInt8.toInt32))) 2 (vp_nar .byte ((v1 >>> (8 &&& 31)).toInt8.toInt32))) 3 (vp_nar .byte ((v1 >>> (0 &&& 31)).toInt8.toInt32))) 4 (vp_nar .byte ((v2 >>> (24 &&& 31)).toInt8.toInt32))) 5 (vp_nar .byte ((v2 >>> (16 &&& 31)).toInt8.toInt32))) 6 (vp_nar .byte ((v2 >>> (8 &&& 31)).toInt8.toInt32)))))]]) := hD
  refine lv_iinc (pc := 106) (v := 7) (lv' := [(6, .int 7), (7, .int v2), (0, .ref a0), (1, .int v1), (2, .int v2), (3, .int v3), (4, .int v4), (5, .int v5)]) hx hb d_Mo_feed_106 hl (k := 1) rfl (by decide) (by decide) rfl (fun ls hl => ?_)
  refine lv_goto (pc := 109) (tgt := 18) hx hb d_Mo_feed_109 (by decide) ?_
  refine lv_iload (pc := 18) hx hb d_Mo_feed_18 (lv_at hl 0 rfl) ?_
  refine lv_bipush (pc := 20) (v := 20) hx hb d_Mo_feed_20 (by decide) ?_
  refine lv_icmp_ge (pc := 22) (tgt := 112) hx hb d_Mo_feed_22 (by decide) (fun c1 => absurd c1 (by decide)) (fun _ => ?_)
  refine lv_iload (pc := 25) hx hb d_Mo_feed_25 (lv_at hl 0 rfl) ?_
  refine lv_iconst (pc := 27) (v := 4) hx hb d_Mo_feed_27 (by decide) ?_
  refine lv_icmp_ge (pc := 28) (tgt := 35) hx hb d_Mo_feed_28 (by decide) (fun _ => ?_) (fun c1 => absurd (by decide) c1)
  refine lv_iload (pc := 35) hx hb d_Mo_feed_35 (lv_at hl 0 rfl) ?_
  refine lv_bipush (pc := 37) (v := 8) hx hb d_Mo_feed_37 (by decide) ?_
  refine lv_icmp_ge (pc := 39) (tgt := 46) hx hb d_Mo_feed_39 (by decide) (fun c1 => absurd c1 (by decide)) (fun _ => ?_)
  refine lv_iload_n (pc := 42) hx hb d_Mo_feed_42 rfl (lv_at hl 4 rfl) ?_
  refine lv_goto (pc := 43) (tgt := 71) hx hb d_Mo_feed_43 (by decide) ?_
  refine lv_istore (pc := 71) (lv' := [(7, .int v2), (6, .int 7), (0, .ref a0), (1, .int v1), (2, .int v2), (3, .int v3), (4, .int v4), (5, .int v5)]) hx hb d_Mo_feed_71 hl (by decide) rfl (fun ls hl => ?_)
  refine lv_aload_n (pc := 73) hx hb d_Mo_feed_73 rfl (lv_at hl 2 rfl) ?_
  refine k_get (pc := 74) (v := .ref (qm 1)) X hK hP 0 rfl rfl i_Mo 1 (by decide) wm_2434 rfl rfl d_Mo_feed_74 ?_
  refine lv_aload_n (pc := 77) hx hb d_Mo_feed_77 rfl (lv_at hl 2 rfl) ?_
  refine k_get (pc := 78) (v := .int 7) X hK hP 0 rfl rfl i_Mo 0 (by decide) wm_2433 rfl rfl d_Mo_feed_78 ?_
  refine lv_iload (pc := 81) hx hb d_Mo_feed_81 (lv_at hl 0 rfl) ?_
  refine lv_bipush (pc := 83) (v := 24) hx hb d_Mo_feed_83 (by decide) ?_
  refine lv_bipush (pc := 85) (v := 8) hx hb d_Mo_feed_85 (by decide) ?_
  refine lv_iload (pc := 87) hx hb d_Mo_feed_87 (lv_at hl 1 rfl) ?_
  refine lv_iconst (pc := 89) (v := 3) hx hb d_Mo_feed_89 (by decide) ?_
  refine lv_iand (pc := 90) hx hb d_Mo_feed_90 ?_
  refine k_cst (v := 3) (by decide) ?_
  refine lv_imul (pc := 91) hx hb d_Mo_feed_91 ?_
  refine k_cst (v := 24) (by decide) ?_
  refine lv_isub (pc := 92) hx hb d_Mo_feed_92 ?_
  refine k_cst (v := 0) (by decide) ?_
  refine lv_ishr (pc := 93) hx hb d_Mo_feed_93 ?_
  refine lv_i2b (pc := 94) hx hb d_Mo_feed_94 rfl ?_
  refine k_bst (pc := 95) hx hb hK hP hD hS 1 1 rfl rfl (7) rfl (by decide) (by decide) d_Mo_feed_95 (fun H locs hP hD hS => ?_)
  have hP : va_P D classes (cat [[(a0, .inr (13, mF qm (va_up x0Mo 0 7) y0Mo))], [(qm 1, .inl (kA 1, 2000, .inl (upd (upd (upd (upd (upd (upd (upd (upd f0 0 (vp_nar .byte ((v1 >>> (24 &&& 31)).toInt8.toInt32))) 1 (vp_nar .byte ((v1 >>> (16 &&& 31)).toInt8.toInt32))) 2 (vp_nar .byte ((v1 >>> (8 &&& 31)).toInt8.toInt32))) 3 (vp_nar .byte ((v1 >>> (0 &&& 31)).toInt8.toInt32))) 4 (vp_nar .byte ((v2 >>> (24 &&& 31)).toInt8.toInt32))) 5 (vp_nar .byte ((v2 >>> (16 &&& 31)).toInt8.toInt32))) 6 (vp_nar .byte ((v2 >>> (8 &&& 31)).toInt8.toInt32))) 7 (vp_nar .byte ((v2 >>> (0 &&& 31)).toInt8.toInt32)))))]]) H := hP
  have hD : va_D A (cat [[(a0, .inr (13, mF qm (va_up x0Mo 0 7) y0Mo))], [(qm 1, .inl (kA 1, 2000, .inl (upd (upd (upd (upd (upd (upd (upd (upd f0 0 (vp_nar .byte ((v1 >>> (24 &&& 31)).toInt8.toInt32))) 1 (vp_nar .byte ((v1 >>> (16 &&& 31)).toInt8.toInt32))) 2 (vp_nar .byte ((v1 >>> (8 &&& 31)).toInt8.toInt32))) 3 (vp_nar .byte ((v1 >>> (0 &&& 31)).toInt8.toInt32))) 4 (vp_nar .byte ((v2 >>> (24 &&& 31)).toInt8.toInt32))) 5 (vp_nar .byte ((v2 >>> (16 &&& 31)).toInt8.toInt32))) 6 (vp_nar .byte ((v2 >>> (8 &&& 31)).toInt8.toInt32))) 7 (vp_nar .byte ((v2 >>> (0 &&& 31)).toInt8.toInt32)))))]]) := hD
  refine lv_aload_n (pc := 96) hx hb d_Mo_feed_96 rfl (lv_at hl 2 rfl) ?_
  refine lv_dup (pc := 97) hx hb d_Mo_feed_97 rfl ?_
  refine k_get (pc := 98) (v := .int 7) X hK hP 0 rfl rfl i_Mo 0 (by decide) wm_2433 rfl rfl d_Mo_feed_98 ?_
  refine lv_iconst (pc := 101) (v := 1) hx hb d_Mo_feed_101 (by decide) ?_
  refine lv_iadd (pc := 102) hx hb d_Mo_feed_102 ?_
  refine k_cst (v := 8) (by decide) ?_
  refine k_put (pc := 103) X hK hP hD hS 0 rfl rfl i_Mo t_Mo t_Mo_ok n_Mo 0 (by decide) wm_2433 rfl (Or.inl rfl) rfl rfl (Nat.le_of_ble_eq_true rfl) d_Mo_feed_103 (fun H locs hP hD hS => ?_)
  have hP : va_P D classes (cat [[(a0, .inr (13, mF qm (va_up x0Mo 0 8) y0Mo))], [(qm 1, .inl (kA 1, 2000, .inl (upd (upd (upd (upd (upd (upd (upd (upd f0 0 (vp_nar .byte ((v1 >>> (24 &&& 31)).toInt8.toInt32))) 1 (vp_nar .byte ((v1 >>> (16 &&& 31)).toInt8.toInt32))) 2 (vp_nar .byte ((v1 >>> (8 &&& 31)).toInt8.toInt32))) 3 (vp_nar .byte ((v1 >>> (0 &&& 31)).toInt8.toInt32))) 4 (vp_nar .byte ((v2 >>> (24 &&& 31)).toInt8.toInt32))) 5 (vp_nar .byte ((v2 >>> (16 &&& 31)).toInt8.toInt32))) 6 (vp_nar .byte ((v2 >>> (8 &&& 31)).toInt8.toInt32))) 7 (vp_nar .byte ((v2 >>> (0 &&& 31)).toInt8.toInt32)))))]]) H := hP
  have hD : va_D A (cat [[(a0, .inr (13, mF qm (va_up x0Mo 0 8) y0Mo))], [(qm 1, .inl (kA 1, 2000, .inl (upd (upd (upd (upd (upd (upd (upd (upd f0 0 (vp_nar .byte ((v1 >>> (24 &&& 31)).toInt8.toInt32))) 1 (vp_nar .byte ((v1 >>> (16 &&& 31)).toInt8.toInt32))) 2 (vp_nar .byte ((v1 >>> (8 &&& 31)).toInt8.toInt32))) 3 (vp_nar .byte ((v1 >>> (0 &&& 31)).toInt8.toInt32))) 4 (vp_nar .byte ((v2 >>> (24 &&& 31)).toInt8.toInt32))) 5 (vp_nar .byte ((v2 >>> (16 &&& 31)).toInt8.toInt32))) 6 (vp_nar .byte ((v2 >>> (8 &&& 31)).toInt8.toInt32))) 7 (vp_nar .byte ((v2 >>> (0 &&& 31)).toInt8.toInt32)))))]]) := hD
  refine lv_iinc (pc := 106) (v := 8) (lv' := [(6, .int 8), (7, .int v2), (0, .ref a0), (1, .int v1), (2, .int v2), (3, .int v3), (4, .int v4), (5, .int v5)]) hx hb d_Mo_feed_106 hl (k := 1) rfl (by decide) (by decide) rfl (fun ls hl => ?_)
  refine lv_goto (pc := 109) (tgt := 18) hx hb d_Mo_feed_109 (by decide) ?_
  refine lv_iload (pc := 18) hx hb d_Mo_feed_18 (lv_at hl 0 rfl) ?_
  refine lv_bipush (pc := 20) (v := 20) hx hb d_Mo_feed_20 (by decide) ?_
  refine lv_icmp_ge (pc := 22) (tgt := 112) hx hb d_Mo_feed_22 (by decide) (fun c1 => absurd c1 (by decide)) (fun _ => ?_)
  refine lv_iload (pc := 25) hx hb d_Mo_feed_25 (lv_at hl 0 rfl) ?_
  refine lv_iconst (pc := 27) (v := 4) hx hb d_Mo_feed_27 (by decide) ?_
  refine lv_icmp_ge (pc := 28) (tgt := 35) hx hb d_Mo_feed_28 (by decide) (fun _ => ?_) (fun c1 => absurd (by decide) c1)
  refine lv_iload (pc := 35) hx hb d_Mo_feed_35 (lv_at hl 0 rfl) ?_
  refine lv_bipush (pc := 37) (v := 8) hx hb d_Mo_feed_37 (by decide) ?_
  refine lv_icmp_ge (pc := 39) (tgt := 46) hx hb d_Mo_feed_39 (by decide) (fun _ => ?_) (fun c1 => absurd (by decide) c1)
  refine lv_iload (pc := 46) hx hb d_Mo_feed_46 (lv_at hl 0 rfl) ?_
  refine lv_bipush (pc := 48) (v := 12) hx hb d_Mo_feed_48 (by decide) ?_
  refine lv_icmp_ge (pc := 50) (tgt := 57) hx hb d_Mo_feed_50 (by decide) (fun c1 => absurd c1 (by decide)) (fun _ => ?_)
  refine lv_iload_n (pc := 53) hx hb d_Mo_feed_53 rfl (lv_at hl 5 rfl) ?_
  refine lv_goto (pc := 54) (tgt := 71) hx hb d_Mo_feed_54 (by decide) ?_
  refine lv_istore (pc := 71) (lv' := [(7, .int v3), (6, .int 8), (0, .ref a0), (1, .int v1), (2, .int v2), (3, .int v3), (4, .int v4), (5, .int v5)]) hx hb d_Mo_feed_71 hl (by decide) rfl (fun ls hl => ?_)
  refine lv_aload_n (pc := 73) hx hb d_Mo_feed_73 rfl (lv_at hl 2 rfl) ?_
  refine k_get (pc := 74) (v := .ref (qm 1)) X hK hP 0 rfl rfl i_Mo 1 (by decide) wm_2434 rfl rfl d_Mo_feed_74 ?_
  refine lv_aload_n (pc := 77) hx hb d_Mo_feed_77 rfl (lv_at hl 2 rfl) ?_
  refine k_get (pc := 78) (v := .int 8) X hK hP 0 rfl rfl i_Mo 0 (by decide) wm_2433 rfl rfl d_Mo_feed_78 ?_
  refine lv_iload (pc := 81) hx hb d_Mo_feed_81 (lv_at hl 0 rfl) ?_
  refine lv_bipush (pc := 83) (v := 24) hx hb d_Mo_feed_83 (by decide) ?_
  refine lv_bipush (pc := 85) (v := 8) hx hb d_Mo_feed_85 (by decide) ?_
  refine lv_iload (pc := 87) hx hb d_Mo_feed_87 (lv_at hl 1 rfl) ?_
  refine lv_iconst (pc := 89) (v := 3) hx hb d_Mo_feed_89 (by decide) ?_
  refine lv_iand (pc := 90) hx hb d_Mo_feed_90 ?_
  refine k_cst (v := 0) (by decide) ?_
  refine lv_imul (pc := 91) hx hb d_Mo_feed_91 ?_
  refine k_cst (v := 0) (by decide) ?_
  refine lv_isub (pc := 92) hx hb d_Mo_feed_92 ?_
  refine k_cst (v := 24) (by decide) ?_
  refine lv_ishr (pc := 93) hx hb d_Mo_feed_93 ?_
  refine lv_i2b (pc := 94) hx hb d_Mo_feed_94 rfl ?_
  refine k_bst (pc := 95) hx hb hK hP hD hS 1 1 rfl rfl (8) rfl (by decide) (by decide) d_Mo_feed_95 (fun H locs hP hD hS => ?_)
  have hP : va_P D classes (cat [[(a0, .inr (13, mF qm (va_up x0Mo 0 8) y0Mo))], [(qm 1, .inl (kA 1, 2000, .inl (upd (upd (upd (upd (upd (upd (upd (upd (upd f0 0 (vp_nar .byte ((v1 >>> (24 &&& 31)).toInt8.toInt32))) 1 (vp_nar .byte ((v1 >>> (16 &&& 31)).toInt8.toInt32))) 2 (vp_nar .byte ((v1 >>> (8 &&& 31)).toInt8.toInt32))) 3 (vp_nar .byte ((v1 >>> (0 &&& 31)).toInt8.toInt32))) 4 (vp_nar .byte ((v2 >>> (24 &&& 31)).toInt8.toInt32))) 5 (vp_nar .byte ((v2 >>> (16 &&& 31)).toInt8.toInt32))) 6 (vp_nar .byte ((v2 >>> (8 &&& 31)).toInt8.toInt32))) 7 (vp_nar .byte ((v2 >>> (0 &&& 31)).toInt8.toInt32))) 8 (vp_nar .byte ((v3 >>> (24 &&& 31)).toInt8.toInt32)))))]]) H := hP
  have hD : va_D A (cat [[(a0, .inr (13, mF qm (va_up x0Mo 0 8) y0Mo))], [(qm 1, .inl (kA 1, 2000, .inl (upd (upd (upd (upd (upd (upd (upd (upd (upd f0 0 (vp_nar .byte ((v1 >>> (24 &&& 31)).toInt8.toInt32))) 1 (vp_nar .byte ((v1 >>> (16 &&& 31)).toInt8.toInt32))) 2 (vp_nar .byte ((v1 >>> (8 &&& 31)).toInt8.toInt32))) 3 (vp_nar .byte ((v1 >>> (0 &&& 31)).toInt8.toInt32))) 4 (vp_nar .byte ((v2 >>> (24 &&& 31)).toInt8.toInt32))) 5 (vp_nar .byte ((v2 >>> (16 &&& 31)).toInt8.toInt32))) 6 (vp_nar .byte ((v2 >>> (8 &&& 31)).toInt8.toInt32))) 7 (vp_nar .byte ((v2 >>> (0 &&& 31)).toInt8.toInt32))) 8 (vp_nar .byte ((v3 >>> (24 &&& 31)).toInt8.toInt32)))))]]) := hD
  refine lv_aload_n (pc := 96) hx hb d_Mo_feed_96 rfl (lv_at hl 2 rfl) ?_
  refine lv_dup (pc := 97) hx hb d_Mo_feed_97 rfl ?_
  refine k_get (pc := 98) (v := .int 8) X hK hP 0 rfl rfl i_Mo 0 (by decide) wm_2433 rfl rfl d_Mo_feed_98 ?_
  refine lv_iconst (pc := 101) (v := 1) hx hb d_Mo_feed_101 (by decide) ?_
  refine lv_iadd (pc := 102) hx hb d_Mo_feed_102 ?_
  refine k_cst (v := 9) (by decide) ?_
  refine k_put (pc := 103) X hK hP hD hS 0 rfl rfl i_Mo t_Mo t_Mo_ok n_Mo 0 (by decide) wm_2433 rfl (Or.inl rfl) rfl rfl (Nat.le_of_ble_eq_true rfl) d_Mo_feed_103 (fun H locs hP hD hS => ?_)
  have hP : va_P D classes (cat [[(a0, .inr (13, mF qm (va_up x0Mo 0 9) y0Mo))], [(qm 1, .inl (kA 1, 2000, .inl (upd (upd (upd (upd (upd (upd (upd (upd (upd f0 0 (vp_nar .byte ((v1 >>> (24 &&& 31)).toInt8.toInt32))) 1 (vp_nar .byte ((v1 >>> (16 &&& 31)).toInt8.toInt32))) 2 (vp_nar .byte ((v1 >>> (8 &&& 31)).toInt8.toInt32))) 3 (vp_nar .byte ((v1 >>> (0 &&& 31)).toInt8.toInt32))) 4 (vp_nar .byte ((v2 >>> (24 &&& 31)).toInt8.toInt32))) 5 (vp_nar .byte ((v2 >>> (16 &&& 31)).toInt8.toInt32))) 6 (vp_nar .byte ((v2 >>> (8 &&& 31)).toInt8.toInt32))) 7 (vp_nar .byte ((v2 >>> (0 &&& 31)).toInt8.toInt32))) 8 (vp_nar .byte ((v3 >>> (24 &&& 31)).toInt8.toInt32)))))]]) H := hP
  have hD : va_D A (cat [[(a0, .inr (13, mF qm (va_up x0Mo 0 9) y0Mo))], [(qm 1, .inl (kA 1, 2000, .inl (upd (upd (upd (upd (upd (upd (upd (upd (upd f0 0 (vp_nar .byte ((v1 >>> (24 &&& 31)).toInt8.toInt32))) 1 (vp_nar .byte ((v1 >>> (16 &&& 31)).toInt8.toInt32))) 2 (vp_nar .byte ((v1 >>> (8 &&& 31)).toInt8.toInt32))) 3 (vp_nar .byte ((v1 >>> (0 &&& 31)).toInt8.toInt32))) 4 (vp_nar .byte ((v2 >>> (24 &&& 31)).toInt8.toInt32))) 5 (vp_nar .byte ((v2 >>> (16 &&& 31)).toInt8.toInt32))) 6 (vp_nar .byte ((v2 >>> (8 &&& 31)).toInt8.toInt32))) 7 (vp_nar .byte ((v2 >>> (0 &&& 31)).toInt8.toInt32))) 8 (vp_nar .byte ((v3 >>> (24 &&& 31)).toInt8.toInt32)))))]]) := hD
  refine lv_iinc (pc := 106) (v := 9) (lv' := [(6, .int 9), (7, .int v3), (0, .ref a0), (1, .int v1), (2, .int v2), (3, .int v3), (4, .int v4), (5, .int v5)]) hx hb d_Mo_feed_106 hl (k := 1) rfl (by decide) (by decide) rfl (fun ls hl => ?_)
  refine lv_goto (pc := 109) (tgt := 18) hx hb d_Mo_feed_109 (by decide) ?_
  refine lv_iload (pc := 18) hx hb d_Mo_feed_18 (lv_at hl 0 rfl) ?_
  refine lv_bipush (pc := 20) (v := 20) hx hb d_Mo_feed_20 (by decide) ?_
  refine lv_icmp_ge (pc := 22) (tgt := 112) hx hb d_Mo_feed_22 (by decide) (fun c1 => absurd c1 (by decide)) (fun _ => ?_)
  refine lv_iload (pc := 25) hx hb d_Mo_feed_25 (lv_at hl 0 rfl) ?_
  refine lv_iconst (pc := 27) (v := 4) hx hb d_Mo_feed_27 (by decide) ?_
  refine lv_icmp_ge (pc := 28) (tgt := 35) hx hb d_Mo_feed_28 (by decide) (fun _ => ?_) (fun c1 => absurd (by decide) c1)
  refine lv_iload (pc := 35) hx hb d_Mo_feed_35 (lv_at hl 0 rfl) ?_
  refine lv_bipush (pc := 37) (v := 8) hx hb d_Mo_feed_37 (by decide) ?_
  refine lv_icmp_ge (pc := 39) (tgt := 46) hx hb d_Mo_feed_39 (by decide) (fun _ => ?_) (fun c1 => absurd (by decide) c1)
  refine lv_iload (pc := 46) hx hb d_Mo_feed_46 (lv_at hl 0 rfl) ?_
  refine lv_bipush (pc := 48) (v := 12) hx hb d_Mo_feed_48 (by decide) ?_
  refine lv_icmp_ge (pc := 50) (tgt := 57) hx hb d_Mo_feed_50 (by decide) (fun c1 => absurd c1 (by decide)) (fun _ => ?_)
  refine lv_iload_n (pc := 53) hx hb d_Mo_feed_53 rfl (lv_at hl 5 rfl) ?_
  refine lv_goto (pc := 54) (tgt := 71) hx hb d_Mo_feed_54 (by decide) ?_
  refine lv_istore (pc := 71) (lv' := [(7, .int v3), (6, .int 9), (0, .ref a0), (1, .int v1), (2, .int v2), (3, .int v3), (4, .int v4), (5, .int v5)]) hx hb d_Mo_feed_71 hl (by decide) rfl (fun ls hl => ?_)
  refine lv_aload_n (pc := 73) hx hb d_Mo_feed_73 rfl (lv_at hl 2 rfl) ?_
  refine k_get (pc := 74) (v := .ref (qm 1)) X hK hP 0 rfl rfl i_Mo 1 (by decide) wm_2434 rfl rfl d_Mo_feed_74 ?_
  refine lv_aload_n (pc := 77) hx hb d_Mo_feed_77 rfl (lv_at hl 2 rfl) ?_
  refine k_get (pc := 78) (v := .int 9) X hK hP 0 rfl rfl i_Mo 0 (by decide) wm_2433 rfl rfl d_Mo_feed_78 ?_
  refine lv_iload (pc := 81) hx hb d_Mo_feed_81 (lv_at hl 0 rfl) ?_
  refine lv_bipush (pc := 83) (v := 24) hx hb d_Mo_feed_83 (by decide) ?_
  refine lv_bipush (pc := 85) (v := 8) hx hb d_Mo_feed_85 (by decide) ?_
  refine lv_iload (pc := 87) hx hb d_Mo_feed_87 (lv_at hl 1 rfl) ?_
  refine lv_iconst (pc := 89) (v := 3) hx hb d_Mo_feed_89 (by decide) ?_
  refine lv_iand (pc := 90) hx hb d_Mo_feed_90 ?_
  refine k_cst (v := 1) (by decide) ?_
  refine lv_imul (pc := 91) hx hb d_Mo_feed_91 ?_
  refine k_cst (v := 8) (by decide) ?_
  refine lv_isub (pc := 92) hx hb d_Mo_feed_92 ?_
  refine k_cst (v := 16) (by decide) ?_
  refine lv_ishr (pc := 93) hx hb d_Mo_feed_93 ?_
  refine lv_i2b (pc := 94) hx hb d_Mo_feed_94 rfl ?_
  refine k_bst (pc := 95) hx hb hK hP hD hS 1 1 rfl rfl (9) rfl (by decide) (by decide) d_Mo_feed_95 (fun H locs hP hD hS => ?_)
  have hP : va_P D classes (cat [[(a0, .inr (13, mF qm (va_up x0Mo 0 9) y0Mo))], [(qm 1, .inl (kA 1, 2000, .inl (upd (upd (upd (upd (upd (upd (upd (upd (upd (upd f0 0 (vp_nar .byte ((v1 >>> (24 &&& 31)).toInt8.toInt32))) 1 (vp_nar .byte ((v1 >>> (16 &&& 31)).toInt8.toInt32))) 2 (vp_nar .byte ((v1 >>> (8 &&& 31)).toInt8.toInt32))) 3 (vp_nar .byte ((v1 >>> (0 &&& 31)).toInt8.toInt32))) 4 (vp_nar .byte ((v2 >>> (24 &&& 31)).toInt8.toInt32))) 5 (vp_nar .byte ((v2 >>> (16 &&& 31)).toInt8.toInt32))) 6 (vp_nar .byte ((v2 >>> (8 &&& 31)).toInt8.toInt32))) 7 (vp_nar .byte ((v2 >>> (0 &&& 31)).toInt8.toInt32))) 8 (vp_nar .byte ((v3 >>> (24 &&& 31)).toInt8.toInt32))) 9 (vp_nar .byte ((v3 >>> (16 &&& 31)).toInt8.toInt32)))))]]) H := hP
  have hD : va_D A (cat [[(a0, .inr (13, mF qm (va_up x0Mo 0 9) y0Mo))], [(qm 1, .inl (kA 1, 2000, .inl (upd (upd (upd (upd (upd (upd (upd (upd (upd (upd f0 0 (vp_nar .byte ((v1 >>> (24 &&& 31)).toInt8.toInt32))) 1 (vp_nar .byte ((v1 >>> (16 &&& 31)).toInt8.toInt32))) 2 (vp_nar .byte ((v1 >>> (8 &&& 31)).toInt8.toInt32))) 3 (vp_nar .byte ((v1 >>> (0 &&& 31)).toInt8.toInt32))) 4 (vp_nar .byte ((v2 >>> (24 &&& 31)).toInt8.toInt32))) 5 (vp_nar .byte ((v2 >>> (16 &&& 31)).toInt8.toInt32))) 6 (vp_nar .byte ((v2 >>> (8 &&& 31)).toInt8.toInt32))) 7 (vp_nar .byte ((v2 >>> (0 &&& 31)).toInt8.toInt32))) 8 (vp_nar .byte ((v3 >>> (24 &&& 31)).toInt8.toInt32))) 9 (vp_nar .byte ((v3 >>> (16 &&& 31)).toInt8.toInt32)))))]]) := hD
  refine lv_aload_n (pc := 96) hx hb d_Mo_feed_96 rfl (lv_at hl 2 rfl) ?_
  refine lv_dup (pc := 97) hx hb d_Mo_feed_97 rfl ?_
  refine k_get (pc := 98) (v := .int 9) X hK hP 0 rfl rfl i_Mo 0 (by decide) wm_2433 rfl rfl d_Mo_feed_98 ?_
  refine lv_iconst (pc := 101) (v := 1) hx hb d_Mo_feed_101 (by decide) ?_
  refine lv_iadd (pc := 102) hx hb d_Mo_feed_102 ?_
  refine k_cst (v := 10) (by decide) ?_
  refine k_put (pc := 103) X hK hP hD hS 0 rfl rfl i_Mo t_Mo t_Mo_ok n_Mo 0 (by decide) wm_2433 rfl (Or.inl rfl) rfl rfl (Nat.le_of_ble_eq_true rfl) d_Mo_feed_103 (fun H locs hP hD hS => ?_)
  have hP : va_P D classes (cat [[(a0, .inr (13, mF qm (va_up x0Mo 0 10) y0Mo))], [(qm 1, .inl (kA 1, 2000, .inl (upd (upd (upd (upd (upd (upd (upd (upd (upd (upd f0 0 (vp_nar .byte ((v1 >>> (24 &&& 31)).toInt8.toInt32))) 1 (vp_nar .byte ((v1 >>> (16 &&& 31)).toInt8.toInt32))) 2 (vp_nar .byte ((v1 >>> (8 &&& 31)).toInt8.toInt32))) 3 (vp_nar .byte ((v1 >>> (0 &&& 31)).toInt8.toInt32))) 4 (vp_nar .byte ((v2 >>> (24 &&& 31)).toInt8.toInt32))) 5 (vp_nar .byte ((v2 >>> (16 &&& 31)).toInt8.toInt32))) 6 (vp_nar .byte ((v2 >>> (8 &&& 31)).toInt8.toInt32))) 7 (vp_nar .byte ((v2 >>> (0 &&& 31)).toInt8.toInt32))) 8 (vp_nar .byte ((v3 >>> (24 &&& 31)).toInt8.toInt32))) 9 (vp_nar .byte ((v3 >>> (16 &&& 31)).toInt8.toInt32)))))]]) H := hP
  have hD : va_D A (cat [[(a0, .inr (13, mF qm (va_up x0Mo 0 10) y0Mo))], [(qm 1, .inl (kA 1, 2000, .inl (upd (upd (upd (upd (upd (upd (upd (upd (upd (upd f0 0 (vp_nar .byte ((v1 >>> (24 &&& 31)).toInt8.toInt32))) 1 (vp_nar .byte ((v1 >>> (16 &&& 31)).toInt8.toInt32))) 2 (vp_nar .byte ((v1 >>> (8 &&& 31)).toInt8.toInt32))) 3 (vp_nar .byte ((v1 >>> (0 &&& 31)).toInt8.toInt32))) 4 (vp_nar .byte ((v2 >>> (24 &&& 31)).toInt8.toInt32))) 5 (vp_nar .byte ((v2 >>> (16 &&& 31)).toInt8.toInt32))) 6 (vp_nar .byte ((v2 >>> (8 &&& 31)).toInt8.toInt32))) 7 (vp_nar .byte ((v2 >>> (0 &&& 31)).toInt8.toInt32))) 8 (vp_nar .byte ((v3 >>> (24 &&& 31)).toInt8.toInt32))) 9 (vp_nar .byte ((v3 >>> (16 &&& 31)).toInt8.toInt32)))))]]) := hD
  refine lv_iinc (pc := 106) (v := 10) (lv' := [(6, .int 10), (7, .int v3), (0, .ref a0), (1, .int v1), (2, .int v2), (3, .int v3), (4, .int v4), (5, .int v5)]) hx hb d_Mo_feed_106 hl (k := 1) rfl (by decide) (by decide) rfl (fun ls hl => ?_)
  refine lv_goto (pc := 109) (tgt := 18) hx hb d_Mo_feed_109 (by decide) ?_
  refine lv_iload (pc := 18) hx hb d_Mo_feed_18 (lv_at hl 0 rfl) ?_
  refine lv_bipush (pc := 20) (v := 20) hx hb d_Mo_feed_20 (by decide) ?_
  refine lv_icmp_ge (pc := 22) (tgt := 112) hx hb d_Mo_feed_22 (by decide) (fun c1 => absurd c1 (by decide)) (fun _ => ?_)
  refine lv_iload (pc := 25) hx hb d_Mo_feed_25 (lv_at hl 0 rfl) ?_
  refine lv_iconst (pc := 27) (v := 4) hx hb d_Mo_feed_27 (by decide) ?_
  refine lv_icmp_ge (pc := 28) (tgt := 35) hx hb d_Mo_feed_28 (by decide) (fun _ => ?_) (fun c1 => absurd (by decide) c1)
  refine lv_iload (pc := 35) hx hb d_Mo_feed_35 (lv_at hl 0 rfl) ?_
  refine lv_bipush (pc := 37) (v := 8) hx hb d_Mo_feed_37 (by decide) ?_
  refine lv_icmp_ge (pc := 39) (tgt := 46) hx hb d_Mo_feed_39 (by decide) (fun _ => ?_) (fun c1 => absurd (by decide) c1)
  refine lv_iload (pc := 46) hx hb d_Mo_feed_46 (lv_at hl 0 rfl) ?_
  refine lv_bipush (pc := 48) (v := 12) hx hb d_Mo_feed_48 (by decide) ?_
  refine lv_icmp_ge (pc := 50) (tgt := 57) hx hb d_Mo_feed_50 (by decide) (fun c1 => absurd c1 (by decide)) (fun _ => ?_)
  refine lv_iload_n (pc := 53) hx hb d_Mo_feed_53 rfl (lv_at hl 5 rfl) ?_
  refine lv_goto (pc := 54) (tgt := 71) hx hb d_Mo_feed_54 (by decide) ?_
  refine lv_istore (pc := 71) (lv' := [(7, .int v3), (6, .int 10), (0, .ref a0), (1, .int v1), (2, .int v2), (3, .int v3), (4, .int v4), (5, .int v5)]) hx hb d_Mo_feed_71 hl (by decide) rfl (fun ls hl => ?_)
  refine lv_aload_n (pc := 73) hx hb d_Mo_feed_73 rfl (lv_at hl 2 rfl) ?_
  refine k_get (pc := 74) (v := .ref (qm 1)) X hK hP 0 rfl rfl i_Mo 1 (by decide) wm_2434 rfl rfl d_Mo_feed_74 ?_
  refine lv_aload_n (pc := 77) hx hb d_Mo_feed_77 rfl (lv_at hl 2 rfl) ?_
  refine k_get (pc := 78) (v := .int 10) X hK hP 0 rfl rfl i_Mo 0 (by decide) wm_2433 rfl rfl d_Mo_feed_78 ?_
  refine lv_iload (pc := 81) hx hb d_Mo_feed_81 (lv_at hl 0 rfl) ?_
  refine lv_bipush (pc := 83) (v := 24) hx hb d_Mo_feed_83 (by decide) ?_
  refine lv_bipush (pc := 85) (v := 8) hx hb d_Mo_feed_85 (by decide) ?_
  refine lv_iload (pc := 87) hx hb d_Mo_feed_87 (lv_at hl 1 rfl) ?_
  refine lv_iconst (pc := 89) (v := 3) hx hb d_Mo_feed_89 (by decide) ?_
  refine lv_iand (pc := 90) hx hb d_Mo_feed_90 ?_
  refine k_cst (v := 2) (by decide) ?_
  refine lv_imul (pc := 91) hx hb d_Mo_feed_91 ?_
  refine k_cst (v := 16) (by decide) ?_
  refine lv_isub (pc := 92) hx hb d_Mo_feed_92 ?_
  refine k_cst (v := 8) (by decide) ?_
  refine lv_ishr (pc := 93) hx hb d_Mo_feed_93 ?_
  refine lv_i2b (pc := 94) hx hb d_Mo_feed_94 rfl ?_
  refine k_bst (pc := 95) hx hb hK hP hD hS 1 1 rfl rfl (10) rfl (by decide) (by decide) d_Mo_feed_95 (fun H locs hP hD hS => ?_)
  have hP : va_P D classes (cat [[(a0, .inr (13, mF qm (va_up x0Mo 0 10) y0Mo))], [(qm 1, .inl (kA 1, 2000, .inl (upd (upd (upd (upd (upd (upd (upd (upd (upd (upd (upd f0 0 (vp_nar .byte ((v1 >>> (24 &&& 31)).toInt8.toInt32))) 1 (vp_nar .byte ((v1 >>> (16 &&& 31)).toInt8.toInt32))) 2 (vp_nar .byte ((v1 >>> (8 &&& 31)).toInt8.toInt32))) 3 (vp_nar .byte ((v1 >>> (0 &&& 31)).toInt8.toInt32))) 4 (vp_nar .byte ((v2 >>> (24 &&& 31)).toInt8.toInt32))) 5 (vp_nar .byte ((v2 >>> (16 &&& 31)).toInt8.toInt32))) 6 (vp_nar .byte ((v2 >>> (8 &&& 31)).toInt8.toInt32))) 7 (vp_nar .byte ((v2 >>> (0 &&& 31)).toInt8.toInt32))) 8 (vp_nar .byte ((v3 >>> (24 &&& 31)).toInt8.toInt32))) 9 (vp_nar .byte ((v3 >>> (16 &&& 31)).toInt8.toInt32))) 10 (vp_nar .byte ((v3 >>> (8 &&& 31)).toInt8.toInt32)))))]]) H := hP
  have hD : va_D A (cat [[(a0, .inr (13, mF qm (va_up x0Mo 0 10) y0Mo))], [(qm 1, .inl (kA 1, 2000, .inl (upd (upd (upd (upd (upd (upd (upd (upd (upd (upd (upd f0 0 (vp_nar .byte ((v1 >>> (24 &&& 31)).toInt8.toInt32))) 1 (vp_nar .byte ((v1 >>> (16 &&& 31)).toInt8.toInt32))) 2 (vp_nar .byte ((v1 >>> (8 &&& 31)).toInt8.toInt32))) 3 (vp_nar .byte ((v1 >>> (0 &&& 31)).toInt8.toInt32))) 4 (vp_nar .byte ((v2 >>> (24 &&& 31)).toInt8.toInt32))) 5 (vp_nar .byte ((v2 >>> (16 &&& 31)).toInt8.toInt32))) 6 (vp_nar .byte ((v2 >>> (8 &&& 31)).toInt8.toInt32))) 7 (vp_nar .byte ((v2 >>> (0 &&& 31)).toInt8.toInt32))) 8 (vp_nar .byte ((v3 >>> (24 &&& 31)).toInt8.toInt32))) 9 (vp_nar .byte ((v3 >>> (16 &&& 31)).toInt8.toInt32))) 10 (vp_nar .byte ((v3 >>> (8 &&& 31)).toInt8.toInt32)))))]]) := hD
  refine lv_aload_n (pc := 96) hx hb d_Mo_feed_96 rfl (lv_at hl 2 rfl) ?_
  refine lv_dup (pc := 97) hx hb d_Mo_feed_97 rfl ?_
  refine k_get (pc := 98) (v := .int 10) X hK hP 0 rfl rfl i_Mo 0 (by decide) wm_2433 rfl rfl d_Mo_feed_98 ?_
  refine lv_iconst (pc := 101) (v := 1) hx hb d_Mo_feed_101 (by decide) ?_
  refine lv_iadd (pc := 102) hx hb d_Mo_feed_102 ?_
  refine k_cst (v := 11) (by decide) ?_
  refine k_put (pc := 103) X hK hP hD hS 0 rfl rfl i_Mo t_Mo t_Mo_ok n_Mo 0 (by decide) wm_2433 rfl (Or.inl rfl) rfl rfl (Nat.le_of_ble_eq_true rfl) d_Mo_feed_103 (fun H locs hP hD hS => ?_)
  have hP : va_P D classes (cat [[(a0, .inr (13, mF qm (va_up x0Mo 0 11) y0Mo))], [(qm 1, .inl (kA 1, 2000, .inl (upd (upd (upd (upd (upd (upd (upd (upd (upd (upd (upd f0 0 (vp_nar .byte ((v1 >>> (24 &&& 31)).toInt8.toInt32))) 1 (vp_nar .byte ((v1 >>> (16 &&& 31)).toInt8.toInt32))) 2 (vp_nar .byte ((v1 >>> (8 &&& 31)).toInt8.toInt32))) 3 (vp_nar .byte ((v1 >>> (0 &&& 31)).toInt8.toInt32))) 4 (vp_nar .byte ((v2 >>> (24 &&& 31)).toInt8.toInt32))) 5 (vp_nar .byte ((v2 >>> (16 &&& 31)).toInt8.toInt32))) 6 (vp_nar .byte ((v2 >>> (8 &&& 31)).toInt8.toInt32))) 7 (vp_nar .byte ((v2 >>> (0 &&& 31)).toInt8.toInt32))) 8 (vp_nar .byte ((v3 >>> (24 &&& 31)).toInt8.toInt32))) 9 (vp_nar .byte ((v3 >>> (16 &&& 31)).toInt8.toInt32))) 10 (vp_nar .byte ((v3 >>> (8 &&& 31)).toInt8.toInt32)))))]]) H := hP
  have hD : va_D A (cat [[(a0, .inr (13, mF qm (va_up x0Mo 0 11) y0Mo))], [(qm 1, .inl (kA 1, 2000, .inl (upd (upd (upd (upd (upd (upd (upd (upd (upd (upd (upd f0 0 (vp_nar .byte ((v1 >>> (24 &&& 31)).toInt8.toInt32))) 1 (vp_nar .byte ((v1 >>> (16 &&& 31)).toInt8.toInt32))) 2 (vp_nar .byte ((v1 >>> (8 &&& 31)).toInt8.toInt32))) 3 (vp_nar .byte ((v1 >>> (0 &&& 31)).toInt8.toInt32))) 4 (vp_nar .byte ((v2 >>> (24 &&& 31)).toInt8.toInt32))) 5 (vp_nar .byte ((v2 >>> (16 &&& 31)).toInt8.toInt32))) 6 (vp_nar .byte ((v2 >>> (8 &&& 31)).toInt8.toInt32))) 7 (vp_nar .byte ((v2 >>> (0 &&& 31)).toInt8.toInt32))) 8 (vp_nar .byte ((v3 >>> (24 &&& 31)).toInt8.toInt32))) 9 (vp_nar .byte ((v3 >>> (16 &&& 31)).toInt8.toInt32))) 10 (vp_nar .byte ((v3 >>> (8 &&& 31)).toInt8.toInt32)))))]]) := hD
  refine lv_iinc (pc := 106) (v := 11) (lv' := [(6, .int 11), (7, .int v3), (0, .ref a0), (1, .int v1), (2, .int v2), (3, .int v3), (4, .int v4), (5, .int v5)]) hx hb d_Mo_feed_106 hl (k := 1) rfl (by decide) (by decide) rfl (fun ls hl => ?_)
  refine lv_goto (pc := 109) (tgt := 18) hx hb d_Mo_feed_109 (by decide) ?_
  refine lv_iload (pc := 18) hx hb d_Mo_feed_18 (lv_at hl 0 rfl) ?_
  refine lv_bipush (pc := 20) (v := 20) hx hb d_Mo_feed_20 (by decide) ?_
  refine lv_icmp_ge (pc := 22) (tgt := 112) hx hb d_Mo_feed_22 (by decide) (fun c1 => absurd c1 (by decide)) (fun _ => ?_)
  refine lv_iload (pc := 25) hx hb d_Mo_feed_25 (lv_at hl 0 rfl) ?_
  refine lv_iconst (pc := 27) (v := 4) hx hb d_Mo_feed_27 (by decide) ?_
  refine lv_icmp_ge (pc := 28) (tgt := 35) hx hb d_Mo_feed_28 (by decide) (fun _ => ?_) (fun c1 => absurd (by decide) c1)
  refine lv_iload (pc := 35) hx hb d_Mo_feed_35 (lv_at hl 0 rfl) ?_
  refine lv_bipush (pc := 37) (v := 8) hx hb d_Mo_feed_37 (by decide) ?_
  refine lv_icmp_ge (pc := 39) (tgt := 46) hx hb d_Mo_feed_39 (by decide) (fun _ => ?_) (fun c1 => absurd (by decide) c1)
  refine lv_iload (pc := 46) hx hb d_Mo_feed_46 (lv_at hl 0 rfl) ?_
  refine lv_bipush (pc := 48) (v := 12) hx hb d_Mo_feed_48 (by decide) ?_
  refine lv_icmp_ge (pc := 50) (tgt := 57) hx hb d_Mo_feed_50 (by decide) (fun c1 => absurd c1 (by decide)) (fun _ => ?_)
  refine lv_iload_n (pc := 53) hx hb d_Mo_feed_53 rfl (lv_at hl 5 rfl) ?_
  refine lv_goto (pc := 54) (tgt := 71) hx hb d_Mo_feed_54 (by decide) ?_
  refine lv_istore (pc := 71) (lv' := [(7, .int v3), (6, .int 11), (0, .ref a0), (1, .int v1), (2, .int v2), (3, .int v3), (4, .int v4), (5, .int v5)]) hx hb d_Mo_feed_71 hl (by decide) rfl (fun ls hl => ?_)
  refine lv_aload_n (pc := 73) hx hb d_Mo_feed_73 rfl (lv_at hl 2 rfl) ?_
  refine k_get (pc := 74) (v := .ref (qm 1)) X hK hP 0 rfl rfl i_Mo 1 (by decide) wm_2434 rfl rfl d_Mo_feed_74 ?_
  refine lv_aload_n (pc := 77) hx hb d_Mo_feed_77 rfl (lv_at hl 2 rfl) ?_
  refine k_get (pc := 78) (v := .int 11) X hK hP 0 rfl rfl i_Mo 0 (by decide) wm_2433 rfl rfl d_Mo_feed_78 ?_
  refine lv_iload (pc := 81) hx hb d_Mo_feed_81 (lv_at hl 0 rfl) ?_
  refine lv_bipush (pc := 83) (v := 24) hx hb d_Mo_feed_83 (by decide) ?_
  refine lv_bipush (pc := 85) (v := 8) hx hb d_Mo_feed_85 (by decide) ?_
  refine lv_iload (pc := 87) hx hb d_Mo_feed_87 (lv_at hl 1 rfl) ?_
  refine lv_iconst (pc := 89) (v := 3) hx hb d_Mo_feed_89 (by decide) ?_
  refine lv_iand (pc := 90) hx hb d_Mo_feed_90 ?_
  refine k_cst (v := 3) (by decide) ?_
  refine lv_imul (pc := 91) hx hb d_Mo_feed_91 ?_
  refine k_cst (v := 24) (by decide) ?_
  refine lv_isub (pc := 92) hx hb d_Mo_feed_92 ?_
  refine k_cst (v := 0) (by decide) ?_
  refine lv_ishr (pc := 93) hx hb d_Mo_feed_93 ?_
  refine lv_i2b (pc := 94) hx hb d_Mo_feed_94 rfl ?_
  refine k_bst (pc := 95) hx hb hK hP hD hS 1 1 rfl rfl (11) rfl (by decide) (by decide) d_Mo_feed_95 (fun H locs hP hD hS => ?_)
  have hP : va_P D classes (cat [[(a0, .inr (13, mF qm (va_up x0Mo 0 11) y0Mo))], [(qm 1, .inl (kA 1, 2000, .inl (upd (upd (upd (upd (upd (upd (upd (upd (upd (upd (upd (upd f0 0 (vp_nar .byte ((v1 >>> (24 &&& 31)).toInt8.toInt32))) 1 (vp_nar .byte ((v1 >>> (16 &&& 31)).toInt8.toInt32))) 2 (vp_nar .byte ((v1 >>> (8 &&& 31)).toInt8.toInt32))) 3 (vp_nar .byte ((v1 >>> (0 &&& 31)).toInt8.toInt32))) 4 (vp_nar .byte ((v2 >>> (24 &&& 31)).toInt8.toInt32))) 5 (vp_nar .byte ((v2 >>> (16 &&& 31)).toInt8.toInt32))) 6 (vp_nar .byte ((v2 >>> (8 &&& 31)).toInt8.toInt32))) 7 (vp_nar .byte ((v2 >>> (0 &&& 31)).toInt8.toInt32))) 8 (vp_nar .byte ((v3 >>> (24 &&& 31)).toInt8.toInt32))) 9 (vp_nar .byte ((v3 >>> (16 &&& 31)).toInt8.toInt32))) 10 (vp_nar .byte ((v3 >>> (8 &&& 31)).toInt8.toInt32))) 11 (vp_nar .byte ((v3 >>> (0 &&& 31)).toInt8.toInt32)))))]]) H := hP
  have hD : va_D A (cat [[(a0, .inr (13, mF qm (va_up x0Mo 0 11) y0Mo))], [(qm 1, .inl (kA 1, 2000, .inl (upd (upd (upd (upd (upd (upd (upd (upd (upd (upd (upd (upd f0 0 (vp_nar .byte ((v1 >>> (24 &&& 31)).toInt8.toInt32))) 1 (vp_nar .byte ((v1 >>> (16 &&& 31)).toInt8.toInt32))) 2 (vp_nar .byte ((v1 >>> (8 &&& 31)).toInt8.toInt32))) 3 (vp_nar .byte ((v1 >>> (0 &&& 31)).toInt8.toInt32))) 4 (vp_nar .byte ((v2 >>> (24 &&& 31)).toInt8.toInt32))) 5 (vp_nar .byte ((v2 >>> (16 &&& 31)).toInt8.toInt32))) 6 (vp_nar .byte ((v2 >>> (8 &&& 31)).toInt8.toInt32))) 7 (vp_nar .byte ((v2 >>> (0 &&& 31)).toInt8.toInt32))) 8 (vp_nar .byte ((v3 >>> (24 &&& 31)).toInt8.toInt32))) 9 (vp_nar .byte ((v3 >>> (16 &&& 31)).toInt8.toInt32))) 10 (vp_nar .byte ((v3 >>> (8 &&& 31)).toInt8.toInt32))) 11 (vp_nar .byte ((v3 >>> (0 &&& 31)).toInt8.toInt32)))))]]) := hD
  refine lv_aload_n (pc := 96) hx hb d_Mo_feed_96 rfl (lv_at hl 2 rfl) ?_
  refine lv_dup (pc := 97) hx hb d_Mo_feed_97 rfl ?_
  refine k_get (pc := 98) (v := .int 11) X hK hP 0 rfl rfl i_Mo 0 (by decide) wm_2433 rfl rfl d_Mo_feed_98 ?_
  refine lv_iconst (pc := 101) (v := 1) hx hb d_Mo_feed_101 (by decide) ?_
  refine lv_iadd (pc := 102) hx hb d_Mo_feed_102 ?_
  refine k_cst (v := 12) (by decide) ?_
  refine k_put (pc := 103) X hK hP hD hS 0 rfl rfl i_Mo t_Mo t_Mo_ok n_Mo 0 (by decide) wm_2433 rfl (Or.inl rfl) rfl rfl (Nat.le_of_ble_eq_true rfl) d_Mo_feed_103 (fun H locs hP hD hS => ?_)
  have hP : va_P D classes (cat [[(a0, .inr (13, mF qm (va_up x0Mo 0 12) y0Mo))], [(qm 1, .inl (kA 1, 2000, .inl (upd (upd (upd (upd (upd (upd (upd (upd (upd (upd (upd (upd f0 0 (vp_nar .byte ((v1 >>> (24 &&& 31)).toInt8.toInt32))) 1 (vp_nar .byte ((v1 >>> (16 &&& 31)).toInt8.toInt32))) 2 (vp_nar .byte ((v1 >>> (8 &&& 31)).toInt8.toInt32))) 3 (vp_nar .byte ((v1 >>> (0 &&& 31)).toInt8.toInt32))) 4 (vp_nar .byte ((v2 >>> (24 &&& 31)).toInt8.toInt32))) 5 (vp_nar .byte ((v2 >>> (16 &&& 31)).toInt8.toInt32))) 6 (vp_nar .byte ((v2 >>> (8 &&& 31)).toInt8.toInt32))) 7 (vp_nar .byte ((v2 >>> (0 &&& 31)).toInt8.toInt32))) 8 (vp_nar .byte ((v3 >>> (24 &&& 31)).toInt8.toInt32))) 9 (vp_nar .byte ((v3 >>> (16 &&& 31)).toInt8.toInt32))) 10 (vp_nar .byte ((v3 >>> (8 &&& 31)).toInt8.toInt32))) 11 (vp_nar .byte ((v3 >>> (0 &&& 31)).toInt8.toInt32)))))]]) H := hP
  have hD : va_D A (cat [[(a0, .inr (13, mF qm (va_up x0Mo 0 12) y0Mo))], [(qm 1, .inl (kA 1, 2000, .inl (upd (upd (upd (upd (upd (upd (upd (upd (upd (upd (upd (upd f0 0 (vp_nar .byte ((v1 >>> (24 &&& 31)).toInt8.toInt32))) 1 (vp_nar .byte ((v1 >>> (16 &&& 31)).toInt8.toInt32))) 2 (vp_nar .byte ((v1 >>> (8 &&& 31)).toInt8.toInt32))) 3 (vp_nar .byte ((v1 >>> (0 &&& 31)).toInt8.toInt32))) 4 (vp_nar .byte ((v2 >>> (24 &&& 31)).toInt8.toInt32))) 5 (vp_nar .byte ((v2 >>> (16 &&& 31)).toInt8.toInt32))) 6 (vp_nar .byte ((v2 >>> (8 &&& 31)).toInt8.toInt32))) 7 (vp_nar .byte ((v2 >>> (0 &&& 31)).toInt8.toInt32))) 8 (vp_nar .byte ((v3 >>> (24 &&& 31)).toInt8.toInt32))) 9 (vp_nar .byte ((v3 >>> (16 &&& 31)).toInt8.toInt32))) 10 (vp_nar .byte ((v3 >>> (8 &&& 31)).toInt8.toInt32))) 11 (vp_nar .byte ((v3 >>> (0 &&& 31)).toInt8.toInt32)))))]]) := hD
  refine lv_iinc (pc := 106) (v := 12) (lv' := [(6, .int 12), (7, .int v3), (0, .ref a0), (1, .int v1), (2, .int v2), (3, .int v3), (4, .int v4), (5, .int v5)]) hx hb d_Mo_feed_106 hl (k := 1) rfl (by decide) (by decide) rfl (fun ls hl => ?_)
  refine lv_goto (pc := 109) (tgt := 18) hx hb d_Mo_feed_109 (by decide) ?_
  refine lv_iload (pc := 18) hx hb d_Mo_feed_18 (lv_at hl 0 rfl) ?_
  refine lv_bipush (pc := 20) (v := 20) hx hb d_Mo_feed_20 (by decide) ?_
  refine lv_icmp_ge (pc := 22) (tgt := 112) hx hb d_Mo_feed_22 (by decide) (fun c1 => absurd c1 (by decide)) (fun _ => ?_)
  refine lv_iload (pc := 25) hx hb d_Mo_feed_25 (lv_at hl 0 rfl) ?_
  refine lv_iconst (pc := 27) (v := 4) hx hb d_Mo_feed_27 (by decide) ?_
  refine lv_icmp_ge (pc := 28) (tgt := 35) hx hb d_Mo_feed_28 (by decide) (fun _ => ?_) (fun c1 => absurd (by decide) c1)
  refine lv_iload (pc := 35) hx hb d_Mo_feed_35 (lv_at hl 0 rfl) ?_
  refine lv_bipush (pc := 37) (v := 8) hx hb d_Mo_feed_37 (by decide) ?_
  refine lv_icmp_ge (pc := 39) (tgt := 46) hx hb d_Mo_feed_39 (by decide) (fun _ => ?_) (fun c1 => absurd (by decide) c1)
  refine lv_iload (pc := 46) hx hb d_Mo_feed_46 (lv_at hl 0 rfl) ?_
  refine lv_bipush (pc := 48) (v := 12) hx hb d_Mo_feed_48 (by decide) ?_
  refine lv_icmp_ge (pc := 50) (tgt := 57) hx hb d_Mo_feed_50 (by decide) (fun _ => ?_) (fun c1 => absurd (by decide) c1)
  refine lv_iload (pc := 57) hx hb d_Mo_feed_57 (lv_at hl 0 rfl) ?_
  refine lv_bipush (pc := 59) (v := 16) hx hb d_Mo_feed_59 (by decide) ?_
  refine lv_icmp_ge (pc := 61) (tgt := 69) hx hb d_Mo_feed_61 (by decide) (fun c1 => absurd c1 (by decide)) (fun _ => ?_)
  refine lv_iload (pc := 64) hx hb d_Mo_feed_64 (lv_at hl 6 rfl) ?_
  refine lv_goto (pc := 66) (tgt := 71) hx hb d_Mo_feed_66 (by decide) ?_
  refine lv_istore (pc := 71) (lv' := [(7, .int v4), (6, .int 12), (0, .ref a0), (1, .int v1), (2, .int v2), (3, .int v3), (4, .int v4), (5, .int v5)]) hx hb d_Mo_feed_71 hl (by decide) rfl (fun ls hl => ?_)
  refine lv_aload_n (pc := 73) hx hb d_Mo_feed_73 rfl (lv_at hl 2 rfl) ?_
  refine k_get (pc := 74) (v := .ref (qm 1)) X hK hP 0 rfl rfl i_Mo 1 (by decide) wm_2434 rfl rfl d_Mo_feed_74 ?_
  refine lv_aload_n (pc := 77) hx hb d_Mo_feed_77 rfl (lv_at hl 2 rfl) ?_
  refine k_get (pc := 78) (v := .int 12) X hK hP 0 rfl rfl i_Mo 0 (by decide) wm_2433 rfl rfl d_Mo_feed_78 ?_
  refine lv_iload (pc := 81) hx hb d_Mo_feed_81 (lv_at hl 0 rfl) ?_
  refine lv_bipush (pc := 83) (v := 24) hx hb d_Mo_feed_83 (by decide) ?_
  refine lv_bipush (pc := 85) (v := 8) hx hb d_Mo_feed_85 (by decide) ?_
  refine lv_iload (pc := 87) hx hb d_Mo_feed_87 (lv_at hl 1 rfl) ?_
  refine lv_iconst (pc := 89) (v := 3) hx hb d_Mo_feed_89 (by decide) ?_
  refine lv_iand (pc := 90) hx hb d_Mo_feed_90 ?_
  refine k_cst (v := 0) (by decide) ?_
  refine lv_imul (pc := 91) hx hb d_Mo_feed_91 ?_
  refine k_cst (v := 0) (by decide) ?_
  refine lv_isub (pc := 92) hx hb d_Mo_feed_92 ?_
  refine k_cst (v := 24) (by decide) ?_
  refine lv_ishr (pc := 93) hx hb d_Mo_feed_93 ?_
  refine lv_i2b (pc := 94) hx hb d_Mo_feed_94 rfl ?_
  refine k_bst (pc := 95) hx hb hK hP hD hS 1 1 rfl rfl (12) rfl (by decide) (by decide) d_Mo_feed_95 (fun H locs hP hD hS => ?_)
  have hP : va_P D classes (cat [[(a0, .inr (13, mF qm (va_up x0Mo 0 12) y0Mo))], [(qm 1, .inl (kA 1, 2000, .inl (upd (upd (upd (upd (upd (upd (upd (upd (upd (upd (upd (upd (upd f0 0 (vp_nar .byte ((v1 >>> (24 &&& 31)).toInt8.toInt32))) 1 (vp_nar .byte ((v1 >>> (16 &&& 31)).toInt8.toInt32))) 2 (vp_nar .byte ((v1 >>> (8 &&& 31)).toInt8.toInt32))) 3 (vp_nar .byte ((v1 >>> (0 &&& 31)).toInt8.toInt32))) 4 (vp_nar .byte ((v2 >>> (24 &&& 31)).toInt8.toInt32))) 5 (vp_nar .byte ((v2 >>> (16 &&& 31)).toInt8.toInt32))) 6 (vp_nar .byte ((v2 >>> (8 &&& 31)).toInt8.toInt32))) 7 (vp_nar .byte ((v2 >>> (0 &&& 31)).toInt8.toInt32))) 8 (vp_nar .byte ((v3 >>> (24 &&& 31)).toInt8.toInt32))) 9 (vp_nar .byte ((v3 >>> (16 &&& 31)).toInt8.toInt32))) 10 (vp_nar .byte ((v3 >>> (8 &&& 31)).toInt8.toInt32))) 11 (vp_nar .byte ((v3 >>> (0 &&& 31)).toInt8.toInt32))) 12 (vp_nar .byte ((v4 >>> (24 &&& 31)).toInt8.toInt32)))))]]) H := hP
  have hD : va_D A (cat [[(a0, .inr (13, mF qm (va_up x0Mo 0 12) y0Mo))], [(qm 1, .inl (kA 1, 2000, .inl (upd (upd (upd (upd (upd (upd (upd (upd (upd (upd (upd (upd (upd f0 0 (vp_nar .byte ((v1 >>> (24 &&& 31)).toInt8.toInt32))) 1 (vp_nar .byte ((v1 >>> (16 &&& 31)).toInt8.toInt32))) 2 (vp_nar .byte ((v1 >>> (8 &&& 31)).toInt8.toInt32))) 3 (vp_nar .byte ((v1 >>> (0 &&& 31)).toInt8.toInt32))) 4 (vp_nar .byte ((v2 >>> (24 &&& 31)).toInt8.toInt32))) 5 (vp_nar .byte ((v2 >>> (16 &&& 31)).toInt8.toInt32))) 6 (vp_nar .byte ((v2 >>> (8 &&& 31)).toInt8.toInt32))) 7 (vp_nar .byte ((v2 >>> (0 &&& 31)).toInt8.toInt32))) 8 (vp_nar .byte ((v3 >>> (24 &&& 31)).toInt8.toInt32))) 9 (vp_nar .byte ((v3 >>> (16 &&& 31)).toInt8.toInt32))) 10 (vp_nar .byte ((v3 >>> (8 &&& 31)).toInt8.toInt32))) 11 (vp_nar .byte ((v3 >>> (0 &&& 31)).toInt8.toInt32))) 12 (vp_nar .byte ((v4 >>> (24 &&& 31)).toInt8.toInt32)))))]]) := hD
  refine lv_aload_n (pc := 96) hx hb d_Mo_feed_96 rfl (lv_at hl 2 rfl) ?_
  refine lv_dup (pc := 97) hx hb d_Mo_feed_97 rfl ?_
  refine k_get (pc := 98) (v := .int 12) X hK hP 0 rfl rfl i_Mo 0 (by decide) wm_2433 rfl rfl d_Mo_feed_98 ?_
  refine lv_iconst (pc := 101) (v := 1) hx hb d_Mo_feed_101 (by decide) ?_
  refine lv_iadd (pc := 102) hx hb d_Mo_feed_102 ?_
  refine k_cst (v := 13) (by decide) ?_
  refine k_put (pc := 103) X hK hP hD hS 0 rfl rfl i_Mo t_Mo t_Mo_ok n_Mo 0 (by decide) wm_2433 rfl (Or.inl rfl) rfl rfl (Nat.le_of_ble_eq_true rfl) d_Mo_feed_103 (fun H locs hP hD hS => ?_)
  have hP : va_P D classes (cat [[(a0, .inr (13, mF qm (va_up x0Mo 0 13) y0Mo))], [(qm 1, .inl (kA 1, 2000, .inl (upd (upd (upd (upd (upd (upd (upd (upd (upd (upd (upd (upd (upd f0 0 (vp_nar .byte ((v1 >>> (24 &&& 31)).toInt8.toInt32))) 1 (vp_nar .byte ((v1 >>> (16 &&& 31)).toInt8.toInt32))) 2 (vp_nar .byte ((v1 >>> (8 &&& 31)).toInt8.toInt32))) 3 (vp_nar .byte ((v1 >>> (0 &&& 31)).toInt8.toInt32))) 4 (vp_nar .byte ((v2 >>> (24 &&& 31)).toInt8.toInt32))) 5 (vp_nar .byte ((v2 >>> (16 &&& 31)).toInt8.toInt32))) 6 (vp_nar .byte ((v2 >>> (8 &&& 31)).toInt8.toInt32))) 7 (vp_nar .byte ((v2 >>> (0 &&& 31)).toInt8.toInt32))) 8 (vp_nar .byte ((v3 >>> (24 &&& 31)).toInt8.toInt32))) 9 (vp_nar .byte ((v3 >>> (16 &&& 31)).toInt8.toInt32))) 10 (vp_nar .byte ((v3 >>> (8 &&& 31)).toInt8.toInt32))) 11 (vp_nar .byte ((v3 >>> (0 &&& 31)).toInt8.toInt32))) 12 (vp_nar .byte ((v4 >>> (24 &&& 31)).toInt8.toInt32)))))]]) H := hP
  have hD : va_D A (cat [[(a0, .inr (13, mF qm (va_up x0Mo 0 13) y0Mo))], [(qm 1, .inl (kA 1, 2000, .inl (upd (upd (upd (upd (upd (upd (upd (upd (upd (upd (upd (upd (upd f0 0 (vp_nar .byte ((v1 >>> (24 &&& 31)).toInt8.toInt32))) 1 (vp_nar .byte ((v1 >>> (16 &&& 31)).toInt8.toInt32))) 2 (vp_nar .byte ((v1 >>> (8 &&& 31)).toInt8.toInt32))) 3 (vp_nar .byte ((v1 >>> (0 &&& 31)).toInt8.toInt32))) 4 (vp_nar .byte ((v2 >>> (24 &&& 31)).toInt8.toInt32))) 5 (vp_nar .byte ((v2 >>> (16 &&& 31)).toInt8.toInt32))) 6 (vp_nar .byte ((v2 >>> (8 &&& 31)).toInt8.toInt32))) 7 (vp_nar .byte ((v2 >>> (0 &&& 31)).toInt8.toInt32))) 8 (vp_nar .byte ((v3 >>> (24 &&& 31)).toInt8.toInt32))) 9 (vp_nar .byte ((v3 >>> (16 &&& 31)).toInt8.toInt32))) 10 (vp_nar .byte ((v3 >>> (8 &&& 31)).toInt8.toInt32))) 11 (vp_nar .byte ((v3 >>> (0 &&& 31)).toInt8.toInt32))) 12 (vp_nar .byte ((v4 >>> (24 &&& 31)).toInt8.toInt32)))))]]) := hD
  refine lv_iinc (pc := 106) (v := 13) (lv' := [(6, .int 13), (7, .int v4), (0, .ref a0), (1, .int v1), (2, .int v2), (3, .int v3), (4, .int v4), (5, .int v5)]) hx hb d_Mo_feed_106 hl (k := 1) rfl (by decide) (by decide) rfl (fun ls hl => ?_)
  refine lv_goto (pc := 109) (tgt := 18) hx hb d_Mo_feed_109 (by decide) ?_
  refine lv_iload (pc := 18) hx hb d_Mo_feed_18 (lv_at hl 0 rfl) ?_
  refine lv_bipush (pc := 20) (v := 20) hx hb d_Mo_feed_20 (by decide) ?_
  refine lv_icmp_ge (pc := 22) (tgt := 112) hx hb d_Mo_feed_22 (by decide) (fun c1 => absurd c1 (by decide)) (fun _ => ?_)
  refine lv_iload (pc := 25) hx hb d_Mo_feed_25 (lv_at hl 0 rfl) ?_
  refine lv_iconst (pc := 27) (v := 4) hx hb d_Mo_feed_27 (by decide) ?_
  refine lv_icmp_ge (pc := 28) (tgt := 35) hx hb d_Mo_feed_28 (by decide) (fun _ => ?_) (fun c1 => absurd (by decide) c1)
  refine lv_iload (pc := 35) hx hb d_Mo_feed_35 (lv_at hl 0 rfl) ?_
  refine lv_bipush (pc := 37) (v := 8) hx hb d_Mo_feed_37 (by decide) ?_
  refine lv_icmp_ge (pc := 39) (tgt := 46) hx hb d_Mo_feed_39 (by decide) (fun _ => ?_) (fun c1 => absurd (by decide) c1)
  refine lv_iload (pc := 46) hx hb d_Mo_feed_46 (lv_at hl 0 rfl) ?_
  refine lv_bipush (pc := 48) (v := 12) hx hb d_Mo_feed_48 (by decide) ?_
  refine lv_icmp_ge (pc := 50) (tgt := 57) hx hb d_Mo_feed_50 (by decide) (fun _ => ?_) (fun c1 => absurd (by decide) c1)
  refine lv_iload (pc := 57) hx hb d_Mo_feed_57 (lv_at hl 0 rfl) ?_
  refine lv_bipush (pc := 59) (v := 16) hx hb d_Mo_feed_59 (by decide) ?_
  refine lv_icmp_ge (pc := 61) (tgt := 69) hx hb d_Mo_feed_61 (by decide) (fun c1 => absurd c1 (by decide)) (fun _ => ?_)
  refine lv_iload (pc := 64) hx hb d_Mo_feed_64 (lv_at hl 6 rfl) ?_
  refine lv_goto (pc := 66) (tgt := 71) hx hb d_Mo_feed_66 (by decide) ?_
  refine lv_istore (pc := 71) (lv' := [(7, .int v4), (6, .int 13), (0, .ref a0), (1, .int v1), (2, .int v2), (3, .int v3), (4, .int v4), (5, .int v5)]) hx hb d_Mo_feed_71 hl (by decide) rfl (fun ls hl => ?_)
  refine lv_aload_n (pc := 73) hx hb d_Mo_feed_73 rfl (lv_at hl 2 rfl) ?_
  refine k_get (pc := 74) (v := .ref (qm 1)) X hK hP 0 rfl rfl i_Mo 1 (by decide) wm_2434 rfl rfl d_Mo_feed_74 ?_
  refine lv_aload_n (pc := 77) hx hb d_Mo_feed_77 rfl (lv_at hl 2 rfl) ?_
  refine k_get (pc := 78) (v := .int 13) X hK hP 0 rfl rfl i_Mo 0 (by decide) wm_2433 rfl rfl d_Mo_feed_78 ?_
  refine lv_iload (pc := 81) hx hb d_Mo_feed_81 (lv_at hl 0 rfl) ?_
  refine lv_bipush (pc := 83) (v := 24) hx hb d_Mo_feed_83 (by decide) ?_
  refine lv_bipush (pc := 85) (v := 8) hx hb d_Mo_feed_85 (by decide) ?_
  refine lv_iload (pc := 87) hx hb d_Mo_feed_87 (lv_at hl 1 rfl) ?_
  refine lv_iconst (pc := 89) (v := 3) hx hb d_Mo_feed_89 (by decide) ?_
  refine lv_iand (pc := 90) hx hb d_Mo_feed_90 ?_
  refine k_cst (v := 1) (by decide) ?_
  refine lv_imul (pc := 91) hx hb d_Mo_feed_91 ?_
  refine k_cst (v := 8) (by decide) ?_
  refine lv_isub (pc := 92) hx hb d_Mo_feed_92 ?_
  refine k_cst (v := 16) (by decide) ?_
  refine lv_ishr (pc := 93) hx hb d_Mo_feed_93 ?_
  refine lv_i2b (pc := 94) hx hb d_Mo_feed_94 rfl ?_
  refine k_bst (pc := 95) hx hb hK hP hD hS 1 1 rfl rfl (13) rfl (by decide) (by decide) d_Mo_feed_95 (fun H locs hP hD hS => ?_)
  have hP : va_P D classes (cat [[(a0, .inr (13, mF qm (va_up x0Mo 0 13) y0Mo))], [(qm 1, .inl (kA 1, 2000, .inl (upd (upd (upd (upd (upd (upd (upd (upd (upd (upd (upd (upd (upd (upd f0 0 (vp_nar .byte ((v1 >>> (24 &&& 31)).toInt8.toInt32))) 1 (vp_nar .byte ((v1 >>> (16 &&& 31)).toInt8.toInt32))) 2 (vp_nar .byte ((v1 >>> (8 &&& 31)).toInt8.toInt32))) 3 (vp_nar .byte ((v1 >>> (0 &&& 31)).toInt8.toInt32))) 4 (vp_nar .byte ((v2 >>> (24 &&& 31)).toInt8.toInt32))) 5 (vp_nar .byte ((v2 >>> (16 &&& 31)).toInt8.toInt32))) 6 (vp_nar .byte ((v2 >>> (8 &&& 31)).toInt8.toInt32))) 7 (vp_nar .byte ((v2 >>> (0 &&& 31)).toInt8.toInt32))) 8 (vp_nar .byte ((v3 >>> (24 &&& 31)).toInt8.toInt32))) 9 (vp_nar .byte ((v3 >>> (16 &&& 31)).toInt8.toInt32))) 10 (vp_nar .byte ((v3 >>> (8 &&& 31)).toInt8.toInt32))) 11 (vp_nar .byte ((v3 >>> (0 &&& 31)).toInt8.toInt32))) 12 (vp_nar .byte ((v4 >>> (24 &&& 31)).toInt8.toInt32))) 13 (vp_nar .byte ((v4 >>> (16 &&& 31)).toInt8.toInt32)))))]]) H := hP
  have hD : va_D A (cat [[(a0, .inr (13, mF qm (va_up x0Mo 0 13) y0Mo))], [(qm 1, .inl (kA 1, 2000, .inl (upd (upd (upd (upd (upd (upd (upd (upd (upd (upd (upd (upd (upd (upd f0 0 (vp_nar .byte ((v1 >>> (24 &&& 31)).toInt8.toInt32))) 1 (vp_nar .byte ((v1 >>> (16 &&& 31)).toInt8.toInt32))) 2 (vp_nar .byte ((v1 >>> (8 &&& 31)).toInt8.toInt32))) 3 (vp_nar .byte ((v1 >>> (0 &&& 31)).toInt8.toInt32))) 4 (vp_nar .byte ((v2 >>> (24 &&& 31)).toInt8.toInt32))) 5 (vp_nar .byte ((v2 >>> (16 &&& 31)).toInt8.toInt32))) 6 (vp_nar .byte ((v2 >>> (8 &&& 31)).toInt8.toInt32))) 7 (vp_nar .byte ((v2 >>> (0 &&& 31)).toInt8.toInt32))) 8 (vp_nar .byte ((v3 >>> (24 &&& 31)).toInt8.toInt32))) 9 (vp_nar .byte ((v3 >>> (16 &&& 31)).toInt8.toInt32))) 10 (vp_nar .byte ((v3 >>> (8 &&& 31)).toInt8.toInt32))) 11 (vp_nar .byte ((v3 >>> (0 &&& 31)).toInt8.toInt32))) 12 (vp_nar .byte ((v4 >>> (24 &&& 31)).toInt8.toInt32))) 13 (vp_nar .byte ((v4 >>> (16 &&& 31)).toInt8.toInt32)))))]]) := hD
  refine lv_aload_n (pc := 96) hx hb d_Mo_feed_96 rfl (lv_at hl 2 rfl) ?_
  refine lv_dup (pc := 97) hx hb d_Mo_feed_97 rfl ?_
  refine k_get (pc := 98) (v := .int 13) X hK hP 0 rfl rfl i_Mo 0 (by decide) wm_2433 rfl rfl d_Mo_feed_98 ?_
  refine lv_iconst (pc := 101) (v := 1) hx hb d_Mo_feed_101 (by decide) ?_
  refine lv_iadd (pc := 102) hx hb d_Mo_feed_102 ?_
  refine k_cst (v := 14) (by decide) ?_
  refine k_put (pc := 103) X hK hP hD hS 0 rfl rfl i_Mo t_Mo t_Mo_ok n_Mo 0 (by decide) wm_2433 rfl (Or.inl rfl) rfl rfl (Nat.le_of_ble_eq_true rfl) d_Mo_feed_103 (fun H locs hP hD hS => ?_)
  have hP : va_P D classes (cat [[(a0, .inr (13, mF qm (va_up x0Mo 0 14) y0Mo))], [(qm 1, .inl (kA 1, 2000, .inl (upd (upd (upd (upd (upd (upd (upd (upd (upd (upd (upd (upd (upd (upd f0 0 (vp_nar .byte ((v1 >>> (24 &&& 31)).toInt8.toInt32))) 1 (vp_nar .byte ((v1 >>> (16 &&& 31)).toInt8.toInt32))) 2 (vp_nar .byte ((v1 >>> (8 &&& 31)).toInt8.toInt32))) 3 (vp_nar .byte ((v1 >>> (0 &&& 31)).toInt8.toInt32))) 4 (vp_nar .byte ((v2 >>> (24 &&& 31)).toInt8.toInt32))) 5 (vp_nar .byte ((v2 >>> (16 &&& 31)).toInt8.toInt32))) 6 (vp_nar .byte ((v2 >>> (8 &&& 31)).toInt8.toInt32))) 7 (vp_nar .byte ((v2 >>> (0 &&& 31)).toInt8.toInt32))) 8 (vp_nar .byte ((v3 >>> (24 &&& 31)).toInt8.toInt32))) 9 (vp_nar .byte ((v3 >>> (16 &&& 31)).toInt8.toInt32))) 10 (vp_nar .byte ((v3 >>> (8 &&& 31)).toInt8.toInt32))) 11 (vp_nar .byte ((v3 >>> (0 &&& 31)).toInt8.toInt32))) 12 (vp_nar .byte ((v4 >>> (24 &&& 31)).toInt8.toInt32))) 13 (vp_nar .byte ((v4 >>> (16 &&& 31)).toInt8.toInt32)))))]]) H := hP
  have hD : va_D A (cat [[(a0, .inr (13, mF qm (va_up x0Mo 0 14) y0Mo))], [(qm 1, .inl (kA 1, 2000, .inl (upd (upd (upd (upd (upd (upd (upd (upd (upd (upd (upd (upd (upd (upd f0 0 (vp_nar .byte ((v1 >>> (24 &&& 31)).toInt8.toInt32))) 1 (vp_nar .byte ((v1 >>> (16 &&& 31)).toInt8.toInt32))) 2 (vp_nar .byte ((v1 >>> (8 &&& 31)).toInt8.toInt32))) 3 (vp_nar .byte ((v1 >>> (0 &&& 31)).toInt8.toInt32))) 4 (vp_nar .byte ((v2 >>> (24 &&& 31)).toInt8.toInt32))) 5 (vp_nar .byte ((v2 >>> (16 &&& 31)).toInt8.toInt32))) 6 (vp_nar .byte ((v2 >>> (8 &&& 31)).toInt8.toInt32))) 7 (vp_nar .byte ((v2 >>> (0 &&& 31)).toInt8.toInt32))) 8 (vp_nar .byte ((v3 >>> (24 &&& 31)).toInt8.toInt32))) 9 (vp_nar .byte ((v3 >>> (16 &&& 31)).toInt8.toInt32))) 10 (vp_nar .byte ((v3 >>> (8 &&& 31)).toInt8.toInt32))) 11 (vp_nar .byte ((v3 >>> (0 &&& 31)).toInt8.toInt32))) 12 (vp_nar .byte ((v4 >>> (24 &&& 31)).toInt8.toInt32))) 13 (vp_nar .byte ((v4 >>> (16 &&& 31)).toInt8.toInt32)))))]]) := hD
  refine lv_iinc (pc := 106) (v := 14) (lv' := [(6, .int 14), (7, .int v4), (0, .ref a0), (1, .int v1), (2, .int v2), (3, .int v3), (4, .int v4), (5, .int v5)]) hx hb d_Mo_feed_106 hl (k := 1) rfl (by decide) (by decide) rfl (fun ls hl => ?_)
  refine lv_goto (pc := 109) (tgt := 18) hx hb d_Mo_feed_109 (by decide) ?_
  refine lv_iload (pc := 18) hx hb d_Mo_feed_18 (lv_at hl 0 rfl) ?_
  refine lv_bipush (pc := 20) (v := 20) hx hb d_Mo_feed_20 (by decide) ?_
  refine lv_icmp_ge (pc := 22) (tgt := 112) hx hb d_Mo_feed_22 (by decide) (fun c1 => absurd c1 (by decide)) (fun _ => ?_)
  refine lv_iload (pc := 25) hx hb d_Mo_feed_25 (lv_at hl 0 rfl) ?_
  refine lv_iconst (pc := 27) (v := 4) hx hb d_Mo_feed_27 (by decide) ?_
  refine lv_icmp_ge (pc := 28) (tgt := 35) hx hb d_Mo_feed_28 (by decide) (fun _ => ?_) (fun c1 => absurd (by decide) c1)
  refine lv_iload (pc := 35) hx hb d_Mo_feed_35 (lv_at hl 0 rfl) ?_
  refine lv_bipush (pc := 37) (v := 8) hx hb d_Mo_feed_37 (by decide) ?_
  refine lv_icmp_ge (pc := 39) (tgt := 46) hx hb d_Mo_feed_39 (by decide) (fun _ => ?_) (fun c1 => absurd (by decide) c1)
  refine lv_iload (pc := 46) hx hb d_Mo_feed_46 (lv_at hl 0 rfl) ?_
  refine lv_bipush (pc := 48) (v := 12) hx hb d_Mo_feed_48 (by decide) ?_
  refine lv_icmp_ge (pc := 50) (tgt := 57) hx hb d_Mo_feed_50 (by decide) (fun _ => ?_) (fun c1 => absurd (by decide) c1)
  refine lv_iload (pc := 57) hx hb d_Mo_feed_57 (lv_at hl 0 rfl) ?_
  refine lv_bipush (pc := 59) (v := 16) hx hb d_Mo_feed_59 (by decide) ?_
  refine lv_icmp_ge (pc := 61) (tgt := 69) hx hb d_Mo_feed_61 (by decide) (fun c1 => absurd c1 (by decide)) (fun _ => ?_)
  refine lv_iload (pc := 64) hx hb d_Mo_feed_64 (lv_at hl 6 rfl) ?_
  refine lv_goto (pc := 66) (tgt := 71) hx hb d_Mo_feed_66 (by decide) ?_
  refine lv_istore (pc := 71) (lv' := [(7, .int v4), (6, .int 14), (0, .ref a0), (1, .int v1), (2, .int v2), (3, .int v3), (4, .int v4), (5, .int v5)]) hx hb d_Mo_feed_71 hl (by decide) rfl (fun ls hl => ?_)
  refine lv_aload_n (pc := 73) hx hb d_Mo_feed_73 rfl (lv_at hl 2 rfl) ?_
  refine k_get (pc := 74) (v := .ref (qm 1)) X hK hP 0 rfl rfl i_Mo 1 (by decide) wm_2434 rfl rfl d_Mo_feed_74 ?_
  refine lv_aload_n (pc := 77) hx hb d_Mo_feed_77 rfl (lv_at hl 2 rfl) ?_
  refine k_get (pc := 78) (v := .int 14) X hK hP 0 rfl rfl i_Mo 0 (by decide) wm_2433 rfl rfl d_Mo_feed_78 ?_
  refine lv_iload (pc := 81) hx hb d_Mo_feed_81 (lv_at hl 0 rfl) ?_
  refine lv_bipush (pc := 83) (v := 24) hx hb d_Mo_feed_83 (by decide) ?_
  refine lv_bipush (pc := 85) (v := 8) hx hb d_Mo_feed_85 (by decide) ?_
  refine lv_iload (pc := 87) hx hb d_Mo_feed_87 (lv_at hl 1 rfl) ?_
  refine lv_iconst (pc := 89) (v := 3) hx hb d_Mo_feed_89 (by decide) ?_
  refine lv_iand (pc := 90) hx hb d_Mo_feed_90 ?_
  refine k_cst (v := 2) (by decide) ?_
  refine lv_imul (pc := 91) hx hb d_Mo_feed_91 ?_
  refine k_cst (v := 16) (by decide) ?_
  refine lv_isub (pc := 92) hx hb d_Mo_feed_92 ?_
  refine k_cst (v := 8) (by decide) ?_
  refine lv_ishr (pc := 93) hx hb d_Mo_feed_93 ?_
  refine lv_i2b (pc := 94) hx hb d_Mo_feed_94 rfl ?_
  refine k_bst (pc := 95) hx hb hK hP hD hS 1 1 rfl rfl (14) rfl (by decide) (by decide) d_Mo_feed_95 (fun H locs hP hD hS => ?_)
  have hP : va_P D classes (cat [[(a0, .inr (13, mF qm (va_up x0Mo 0 14) y0Mo))], [(qm 1, .inl (kA 1, 2000, .inl (upd (upd (upd (upd (upd (upd (upd (upd (upd (upd (upd (upd (upd (upd (upd f0 0 (vp_nar .byte ((v1 >>> (24 &&& 31)).toInt8.toInt32))) 1 (vp_nar .byte ((v1 >>> (16 &&& 31)).toInt8.toInt32))) 2 (vp_nar .byte ((v1 >>> (8 &&& 31)).toInt8.toInt32))) 3 (vp_nar .byte ((v1 >>> (0 &&& 31)).toInt8.toInt32))) 4 (vp_nar .byte ((v2 >>> (24 &&& 31)).toInt8.toInt32))) 5 (vp_nar .byte ((v2 >>> (16 &&& 31)).toInt8.toInt32))) 6 (vp_nar .byte ((v2 >>> (8 &&& 31)).toInt8.toInt32))) 7 (vp_nar .byte ((v2 >>> (0 &&& 31)).toInt8.toInt32))) 8 (vp_nar .byte ((v3 >>> (24 &&& 31)).toInt8.toInt32))) 9 (vp_nar .byte ((v3 >>> (16 &&& 31)).toInt8.toInt32))) 10 (vp_nar .byte ((v3 >>> (8 &&& 31)).toInt8.toInt32))) 11 (vp_nar .byte ((v3 >>> (0 &&& 31)).toInt8.toInt32))) 12 (vp_nar .byte ((v4 >>> (24 &&& 31)).toInt8.toInt32))) 13 (vp_nar .byte ((v4 >>> (16 &&& 31)).toInt8.toInt32))) 14 (vp_nar .byte ((v4 >>> (8 &&& 31)).toInt8.toInt32)))))]]) H := hP
  have hD : va_D A (cat [[(a0, .inr (13, mF qm (va_up x0Mo 0 14) y0Mo))], [(qm 1, .inl (kA 1, 2000, .inl (upd (upd (upd (upd (upd (upd (upd (upd (upd (upd (upd (upd (upd (upd (upd f0 0 (vp_nar .byte ((v1 >>> (24 &&& 31)).toInt8.toInt32))) 1 (vp_nar .byte ((v1 >>> (16 &&& 31)).toInt8.toInt32))) 2 (vp_nar .byte ((v1 >>> (8 &&& 31)).toInt8.toInt32))) 3 (vp_nar .byte ((v1 >>> (0 &&& 31)).toInt8.toInt32))) 4 (vp_nar .byte ((v2 >>> (24 &&& 31)).toInt8.toInt32))) 5 (vp_nar .byte ((v2 >>> (16 &&& 31)).toInt8.toInt32))) 6 (vp_nar .byte ((v2 >>> (8 &&& 31)).toInt8.toInt32))) 7 (vp_nar .byte ((v2 >>> (0 &&& 31)).toInt8.toInt32))) 8 (vp_nar .byte ((v3 >>> (24 &&& 31)).toInt8.toInt32))) 9 (vp_nar .byte ((v3 >>> (16 &&& 31)).toInt8.toInt32))) 10 (vp_nar .byte ((v3 >>> (8 &&& 31)).toInt8.toInt32))) 11 (vp_nar .byte ((v3 >>> (0 &&& 31)).toInt8.toInt32))) 12 (vp_nar .byte ((v4 >>> (24 &&& 31)).toInt8.toInt32))) 13 (vp_nar .byte ((v4 >>> (16 &&& 31)).toInt8.toInt32))) 14 (vp_nar .byte ((v4 >>> (8 &&& 31)).toInt8.toInt32)))))]]) := hD
  refine lv_aload_n (pc := 96) hx hb d_Mo_feed_96 rfl (lv_at hl 2 rfl) ?_
  refine lv_dup (pc := 97) hx hb d_Mo_feed_97 rfl ?_
  refine k_get (pc := 98) (v := .int 14) X hK hP 0 rfl rfl i_Mo 0 (by decide) wm_2433 rfl rfl d_Mo_feed_98 ?_
  refine lv_iconst (pc := 101) (v := 1) hx hb d_Mo_feed_101 (by decide) ?_
  refine lv_iadd (pc := 102) hx hb d_Mo_feed_102 ?_
  refine k_cst (v := 15) (by decide) ?_
  refine k_put (pc := 103) X hK hP hD hS 0 rfl rfl i_Mo t_Mo t_Mo_ok n_Mo 0 (by decide) wm_2433 rfl (Or.inl rfl) rfl rfl (Nat.le_of_ble_eq_true rfl) d_Mo_feed_103 (fun H locs hP hD hS => ?_)
  have hP : va_P D classes (cat [[(a0, .inr (13, mF qm (va_up x0Mo 0 15) y0Mo))], [(qm 1, .inl (kA 1, 2000, .inl (upd (upd (upd (upd (upd (upd (upd (upd (upd (upd (upd (upd (upd (upd (upd f0 0 (vp_nar .byte ((v1 >>> (24 &&& 31)).toInt8.toInt32))) 1 (vp_nar .byte ((v1 >>> (16 &&& 31)).toInt8.toInt32))) 2 (vp_nar .byte ((v1 >>> (8 &&& 31)).toInt8.toInt32))) 3 (vp_nar .byte ((v1 >>> (0 &&& 31)).toInt8.toInt32))) 4 (vp_nar .byte ((v2 >>> (24 &&& 31)).toInt8.toInt32))) 5 (vp_nar .byte ((v2 >>> (16 &&& 31)).toInt8.toInt32))) 6 (vp_nar .byte ((v2 >>> (8 &&& 31)).toInt8.toInt32))) 7 (vp_nar .byte ((v2 >>> (0 &&& 31)).toInt8.toInt32))) 8 (vp_nar .byte ((v3 >>> (24 &&& 31)).toInt8.toInt32))) 9 (vp_nar .byte ((v3 >>> (16 &&& 31)).toInt8.toInt32))) 10 (vp_nar .byte ((v3 >>> (8 &&& 31)).toInt8.toInt32))) 11 (vp_nar .byte ((v3 >>> (0 &&& 31)).toInt8.toInt32))) 12 (vp_nar .byte ((v4 >>> (24 &&& 31)).toInt8.toInt32))) 13 (vp_nar .byte ((v4 >>> (16 &&& 31)).toInt8.toInt32))) 14 (vp_nar .byte ((v4 >>> (8 &&& 31)).toInt8.toInt32)))))]]) H := hP
  have hD : va_D A (cat [[(a0, .inr (13, mF qm (va_up x0Mo 0 15) y0Mo))], [(qm 1, .inl (kA 1, 2000, .inl (upd (upd (upd (upd (upd (upd (upd (upd (upd (upd (upd (upd (upd (upd (upd f0 0 (vp_nar .byte ((v1 >>> (24 &&& 31)).toInt8.toInt32))) 1 (vp_nar .byte ((v1 >>> (16 &&& 31)).toInt8.toInt32))) 2 (vp_nar .byte ((v1 >>> (8 &&& 31)).toInt8.toInt32))) 3 (vp_nar .byte ((v1 >>> (0 &&& 31)).toInt8.toInt32))) 4 (vp_nar .byte ((v2 >>> (24 &&& 31)).toInt8.toInt32))) 5 (vp_nar .byte ((v2 >>> (16 &&& 31)).toInt8.toInt32))) 6 (vp_nar .byte ((v2 >>> (8 &&& 31)).toInt8.toInt32))) 7 (vp_nar .byte ((v2 >>> (0 &&& 31)).toInt8.toInt32))) 8 (vp_nar .byte ((v3 >>> (24 &&& 31)).toInt8.toInt32))) 9 (vp_nar .byte ((v3 >>> (16 &&& 31)).toInt8.toInt32))) 10 (vp_nar .byte ((v3 >>> (8 &&& 31)).toInt8.toInt32))) 11 (vp_nar .byte ((v3 >>> (0 &&& 31)).toInt8.toInt32))) 12 (vp_nar .byte ((v4 >>> (24 &&& 31)).toInt8.toInt32))) 13 (vp_nar .byte ((v4 >>> (16 &&& 31)).toInt8.toInt32))) 14 (vp_nar .byte ((v4 >>> (8 &&& 31)).toInt8.toInt32)))))]]) := hD
  refine lv_iinc (pc := 106) (v := 15) (lv' := [(6, .int 15), (7, .int v4), (0, .ref a0), (1, .int v1), (2, .int v2), (3, .int v3), (4, .int v4), (5, .int v5)]) hx hb d_Mo_feed_106 hl (k := 1) rfl (by decide) (by decide) rfl (fun ls hl => ?_)
  refine lv_goto (pc := 109) (tgt := 18) hx hb d_Mo_feed_109 (by decide) ?_
  refine lv_iload (pc := 18) hx hb d_Mo_feed_18 (lv_at hl 0 rfl) ?_
  refine lv_bipush (pc := 20) (v := 20) hx hb d_Mo_feed_20 (by decide) ?_
  refine lv_icmp_ge (pc := 22) (tgt := 112) hx hb d_Mo_feed_22 (by decide) (fun c1 => absurd c1 (by decide)) (fun _ => ?_)
  refine lv_iload (pc := 25) hx hb d_Mo_feed_25 (lv_at hl 0 rfl) ?_
  refine lv_iconst (pc := 27) (v := 4) hx hb d_Mo_feed_27 (by decide) ?_
  refine lv_icmp_ge (pc := 28) (tgt := 35) hx hb d_Mo_feed_28 (by decide) (fun _ => ?_) (fun c1 => absurd (by decide) c1)
  refine lv_iload (pc := 35) hx hb d_Mo_feed_35 (lv_at hl 0 rfl) ?_
  refine lv_bipush (pc := 37) (v := 8) hx hb d_Mo_feed_37 (by decide) ?_
  refine lv_icmp_ge (pc := 39) (tgt := 46) hx hb d_Mo_feed_39 (by decide) (fun _ => ?_) (fun c1 => absurd (by decide) c1)
  refine lv_iload (pc := 46) hx hb d_Mo_feed_46 (lv_at hl 0 rfl) ?_
  refine lv_bipush (pc := 48) (v := 12) hx hb d_Mo_feed_48 (by decide) ?_
  refine lv_icmp_ge (pc := 50) (tgt := 57) hx hb d_Mo_feed_50 (by decide) (fun _ => ?_) (fun c1 => absurd (by decide) c1)
  refine lv_iload (pc := 57) hx hb d_Mo_feed_57 (lv_at hl 0 rfl) ?_
  refine lv_bipush (pc := 59) (v := 16) hx hb d_Mo_feed_59 (by decide) ?_
  refine lv_icmp_ge (pc := 61) (tgt := 69) hx hb d_Mo_feed_61 (by decide) (fun c1 => absurd c1 (by decide)) (fun _ => ?_)
  refine lv_iload (pc := 64) hx hb d_Mo_feed_64 (lv_at hl 6 rfl) ?_
  refine lv_goto (pc := 66) (tgt := 71) hx hb d_Mo_feed_66 (by decide) ?_
  refine lv_istore (pc := 71) (lv' := [(7, .int v4), (6, .int 15), (0, .ref a0), (1, .int v1), (2, .int v2), (3, .int v3), (4, .int v4), (5, .int v5)]) hx hb d_Mo_feed_71 hl (by decide) rfl (fun ls hl => ?_)
  refine lv_aload_n (pc := 73) hx hb d_Mo_feed_73 rfl (lv_at hl 2 rfl) ?_
  refine k_get (pc := 74) (v := .ref (qm 1)) X hK hP 0 rfl rfl i_Mo 1 (by decide) wm_2434 rfl rfl d_Mo_feed_74 ?_
  refine lv_aload_n (pc := 77) hx hb d_Mo_feed_77 rfl (lv_at hl 2 rfl) ?_
  refine k_get (pc := 78) (v := .int 15) X hK hP 0 rfl rfl i_Mo 0 (by decide) wm_2433 rfl rfl d_Mo_feed_78 ?_
  refine lv_iload (pc := 81) hx hb d_Mo_feed_81 (lv_at hl 0 rfl) ?_
  refine lv_bipush (pc := 83) (v := 24) hx hb d_Mo_feed_83 (by decide) ?_
  refine lv_bipush (pc := 85) (v := 8) hx hb d_Mo_feed_85 (by decide) ?_
  refine lv_iload (pc := 87) hx hb d_Mo_feed_87 (lv_at hl 1 rfl) ?_
  refine lv_iconst (pc := 89) (v := 3) hx hb d_Mo_feed_89 (by decide) ?_
  refine lv_iand (pc := 90) hx hb d_Mo_feed_90 ?_
  refine k_cst (v := 3) (by decide) ?_
  refine lv_imul (pc := 91) hx hb d_Mo_feed_91 ?_
  refine k_cst (v := 24) (by decide) ?_
  refine lv_isub (pc := 92) hx hb d_Mo_feed_92 ?_
  refine k_cst (v := 0) (by decide) ?_
  refine lv_ishr (pc := 93) hx hb d_Mo_feed_93 ?_
  refine lv_i2b (pc := 94) hx hb d_Mo_feed_94 rfl ?_
  refine k_bst (pc := 95) hx hb hK hP hD hS 1 1 rfl rfl (15) rfl (by decide) (by decide) d_Mo_feed_95 (fun H locs hP hD hS => ?_)
  have hP : va_P D classes (cat [[(a0, .inr (13, mF qm (va_up x0Mo 0 15) y0Mo))], [(qm 1, .inl (kA 1, 2000, .inl (upd (upd (upd (upd (upd (upd (upd (upd (upd (upd (upd (upd (upd (upd (upd (upd f0 0 (vp_nar .byte ((v1 >>> (24 &&& 31)).toInt8.toInt32))) 1 (vp_nar .byte ((v1 >>> (16 &&& 31)).toInt8.toInt32))) 2 (vp_nar .byte ((v1 >>> (8 &&& 31)).toInt8.toInt32))) 3 (vp_nar .byte ((v1 >>> (0 &&& 31)).toInt8.toInt32))) 4 (vp_nar .byte ((v2 >>> (24 &&& 31)).toInt8.toInt32))) 5 (vp_nar .byte ((v2 >>> (16 &&& 31)).toInt8.toInt32))) 6 (vp_nar .byte ((v2 >>> (8 &&& 31)).toInt8.toInt32))) 7 (vp_nar .byte ((v2 >>> (0 &&& 31)).toInt8.toInt32))) 8 (vp_nar .byte ((v3 >>> (24 &&& 31)).toInt8.toInt32))) 9 (vp_nar .byte ((v3 >>> (16 &&& 31)).toInt8.toInt32))) 10 (vp_nar .byte ((v3 >>> (8 &&& 31)).toInt8.toInt32))) 11 (vp_nar .byte ((v3 >>> (0 &&& 31)).toInt8.toInt32))) 12 (vp_nar .byte ((v4 >>> (24 &&& 31)).toInt8.toInt32))) 13 (vp_nar .byte ((v4 >>> (16 &&& 31)).toInt8.toInt32))) 14 (vp_nar .byte ((v4 >>> (8 &&& 31)).toInt8.toInt32))) 15 (vp_nar .byte ((v4 >>> (0 &&& 31)).toInt8.toInt32)))))]]) H := hP
  have hD : va_D A (cat [[(a0, .inr (13, mF qm (va_up x0Mo 0 15) y0Mo))], [(qm 1, .inl (kA 1, 2000, .inl (upd (upd (upd (upd (upd (upd (upd (upd (upd (upd (upd (upd (upd (upd (upd (upd f0 0 (vp_nar .byte ((v1 >>> (24 &&& 31)).toInt8.toInt32))) 1 (vp_nar .byte ((v1 >>> (16 &&& 31)).toInt8.toInt32))) 2 (vp_nar .byte ((v1 >>> (8 &&& 31)).toInt8.toInt32))) 3 (vp_nar .byte ((v1 >>> (0 &&& 31)).toInt8.toInt32))) 4 (vp_nar .byte ((v2 >>> (24 &&& 31)).toInt8.toInt32))) 5 (vp_nar .byte ((v2 >>> (16 &&& 31)).toInt8.toInt32))) 6 (vp_nar .byte ((v2 >>> (8 &&& 31)).toInt8.toInt32))) 7 (vp_nar .byte ((v2 >>> (0 &&& 31)).toInt8.toInt32))) 8 (vp_nar .byte ((v3 >>> (24 &&& 31)).toInt8.toInt32))) 9 (vp_nar .byte ((v3 >>> (16 &&& 31)).toInt8.toInt32))) 10 (vp_nar .byte ((v3 >>> (8 &&& 31)).toInt8.toInt32))) 11 (vp_nar .byte ((v3 >>> (0 &&& 31)).toInt8.toInt32))) 12 (vp_nar .byte ((v4 >>> (24 &&& 31)).toInt8.toInt32))) 13 (vp_nar .byte ((v4 >>> (16 &&& 31)).toInt8.toInt32))) 14 (vp_nar .byte ((v4 >>> (8 &&& 31)).toInt8.toInt32))) 15 (vp_nar .byte ((v4 >>> (0 &&& 31)).toInt8.toInt32)))))]]) := hD
  refine lv_aload_n (pc := 96) hx hb d_Mo_feed_96 rfl (lv_at hl 2 rfl) ?_
  refine lv_dup (pc := 97) hx hb d_Mo_feed_97 rfl ?_
  refine k_get (pc := 98) (v := .int 15) X hK hP 0 rfl rfl i_Mo 0 (by decide) wm_2433 rfl rfl d_Mo_feed_98 ?_
  refine lv_iconst (pc := 101) (v := 1) hx hb d_Mo_feed_101 (by decide) ?_
  refine lv_iadd (pc := 102) hx hb d_Mo_feed_102 ?_
  refine k_cst (v := 16) (by decide) ?_
  refine k_put (pc := 103) X hK hP hD hS 0 rfl rfl i_Mo t_Mo t_Mo_ok n_Mo 0 (by decide) wm_2433 rfl (Or.inl rfl) rfl rfl (Nat.le_of_ble_eq_true rfl) d_Mo_feed_103 (fun H locs hP hD hS => ?_)
  have hP : va_P D classes (cat [[(a0, .inr (13, mF qm (va_up x0Mo 0 16) y0Mo))], [(qm 1, .inl (kA 1, 2000, .inl (upd (upd (upd (upd (upd (upd (upd (upd (upd (upd (upd (upd (upd (upd (upd (upd f0 0 (vp_nar .byte ((v1 >>> (24 &&& 31)).toInt8.toInt32))) 1 (vp_nar .byte ((v1 >>> (16 &&& 31)).toInt8.toInt32))) 2 (vp_nar .byte ((v1 >>> (8 &&& 31)).toInt8.toInt32))) 3 (vp_nar .byte ((v1 >>> (0 &&& 31)).toInt8.toInt32))) 4 (vp_nar .byte ((v2 >>> (24 &&& 31)).toInt8.toInt32))) 5 (vp_nar .byte ((v2 >>> (16 &&& 31)).toInt8.toInt32))) 6 (vp_nar .byte ((v2 >>> (8 &&& 31)).toInt8.toInt32))) 7 (vp_nar .byte ((v2 >>> (0 &&& 31)).toInt8.toInt32))) 8 (vp_nar .byte ((v3 >>> (24 &&& 31)).toInt8.toInt32))) 9 (vp_nar .byte ((v3 >>> (16 &&& 31)).toInt8.toInt32))) 10 (vp_nar .byte ((v3 >>> (8 &&& 31)).toInt8.toInt32))) 11 (vp_nar .byte ((v3 >>> (0 &&& 31)).toInt8.toInt32))) 12 (vp_nar .byte ((v4 >>> (24 &&& 31)).toInt8.toInt32))) 13 (vp_nar .byte ((v4 >>> (16 &&& 31)).toInt8.toInt32))) 14 (vp_nar .byte ((v4 >>> (8 &&& 31)).toInt8.toInt32))) 15 (vp_nar .byte ((v4 >>> (0 &&& 31)).toInt8.toInt32)))))]]) H := hP
  have hD : va_D A (cat [[(a0, .inr (13, mF qm (va_up x0Mo 0 16) y0Mo))], [(qm 1, .inl (kA 1, 2000, .inl (upd (upd (upd (upd (upd (upd (upd (upd (upd (upd (upd (upd (upd (upd (upd (upd f0 0 (vp_nar .byte ((v1 >>> (24 &&& 31)).toInt8.toInt32))) 1 (vp_nar .byte ((v1 >>> (16 &&& 31)).toInt8.toInt32))) 2 (vp_nar .byte ((v1 >>> (8 &&& 31)).toInt8.toInt32))) 3 (vp_nar .byte ((v1 >>> (0 &&& 31)).toInt8.toInt32))) 4 (vp_nar .byte ((v2 >>> (24 &&& 31)).toInt8.toInt32))) 5 (vp_nar .byte ((v2 >>> (16 &&& 31)).toInt8.toInt32))) 6 (vp_nar .byte ((v2 >>> (8 &&& 31)).toInt8.toInt32))) 7 (vp_nar .byte ((v2 >>> (0 &&& 31)).toInt8.toInt32))) 8 (vp_nar .byte ((v3 >>> (24 &&& 31)).toInt8.toInt32))) 9 (vp_nar .byte ((v3 >>> (16 &&& 31)).toInt8.toInt32))) 10 (vp_nar .byte ((v3 >>> (8 &&& 31)).toInt8.toInt32))) 11 (vp_nar .byte ((v3 >>> (0 &&& 31)).toInt8.toInt32))) 12 (vp_nar .byte ((v4 >>> (24 &&& 31)).toInt8.toInt32))) 13 (vp_nar .byte ((v4 >>> (16 &&& 31)).toInt8.toInt32))) 14 (vp_nar .byte ((v4 >>> (8 &&& 31)).toInt8.toInt32))) 15 (vp_nar .byte ((v4 >>> (0 &&& 31)).toInt8.toInt32)))))]]) := hD
  refine lv_iinc (pc := 106) (v := 16) (lv' := [(6, .int 16), (7, .int v4), (0, .ref a0), (1, .int v1), (2, .int v2), (3, .int v3), (4, .int v4), (5, .int v5)]) hx hb d_Mo_feed_106 hl (k := 1) rfl (by decide) (by decide) rfl (fun ls hl => ?_)
  refine lv_goto (pc := 109) (tgt := 18) hx hb d_Mo_feed_109 (by decide) ?_
  refine lv_iload (pc := 18) hx hb d_Mo_feed_18 (lv_at hl 0 rfl) ?_
  refine lv_bipush (pc := 20) (v := 20) hx hb d_Mo_feed_20 (by decide) ?_
  refine lv_icmp_ge (pc := 22) (tgt := 112) hx hb d_Mo_feed_22 (by decide) (fun c1 => absurd c1 (by decide)) (fun _ => ?_)
  refine lv_iload (pc := 25) hx hb d_Mo_feed_25 (lv_at hl 0 rfl) ?_
  refine lv_iconst (pc := 27) (v := 4) hx hb d_Mo_feed_27 (by decide) ?_
  refine lv_icmp_ge (pc := 28) (tgt := 35) hx hb d_Mo_feed_28 (by decide) (fun _ => ?_) (fun c1 => absurd (by decide) c1)
  refine lv_iload (pc := 35) hx hb d_Mo_feed_35 (lv_at hl 0 rfl) ?_
  refine lv_bipush (pc := 37) (v := 8) hx hb d_Mo_feed_37 (by decide) ?_
  refine lv_icmp_ge (pc := 39) (tgt := 46) hx hb d_Mo_feed_39 (by decide) (fun _ => ?_) (fun c1 => absurd (by decide) c1)
  refine lv_iload (pc := 46) hx hb d_Mo_feed_46 (lv_at hl 0 rfl) ?_
  refine lv_bipush (pc := 48) (v := 12) hx hb d_Mo_feed_48 (by decide) ?_
  refine lv_icmp_ge (pc := 50) (tgt := 57) hx hb d_Mo_feed_50 (by decide) (fun _ => ?_) (fun c1 => absurd (by decide) c1)
  refine lv_iload (pc := 57) hx hb d_Mo_feed_57 (lv_at hl 0 rfl) ?_
  refine lv_bipush (pc := 59) (v := 16) hx hb d_Mo_feed_59 (by decide) ?_
  refine lv_icmp_ge (pc := 61) (tgt := 69) hx hb d_Mo_feed_61 (by decide) (fun _ => ?_) (fun c1 => absurd (by decide) c1)
  refine lv_iload (pc := 69) hx hb d_Mo_feed_69 (lv_at hl 7 rfl) ?_
  refine lv_istore (pc := 71) (lv' := [(7, .int v5), (6, .int 16), (0, .ref a0), (1, .int v1), (2, .int v2), (3, .int v3), (4, .int v4), (5, .int v5)]) hx hb d_Mo_feed_71 hl (by decide) rfl (fun ls hl => ?_)
  refine lv_aload_n (pc := 73) hx hb d_Mo_feed_73 rfl (lv_at hl 2 rfl) ?_
  refine k_get (pc := 74) (v := .ref (qm 1)) X hK hP 0 rfl rfl i_Mo 1 (by decide) wm_2434 rfl rfl d_Mo_feed_74 ?_
  refine lv_aload_n (pc := 77) hx hb d_Mo_feed_77 rfl (lv_at hl 2 rfl) ?_
  refine k_get (pc := 78) (v := .int 16) X hK hP 0 rfl rfl i_Mo 0 (by decide) wm_2433 rfl rfl d_Mo_feed_78 ?_
  refine lv_iload (pc := 81) hx hb d_Mo_feed_81 (lv_at hl 0 rfl) ?_
  refine lv_bipush (pc := 83) (v := 24) hx hb d_Mo_feed_83 (by decide) ?_
  refine lv_bipush (pc := 85) (v := 8) hx hb d_Mo_feed_85 (by decide) ?_
  refine lv_iload (pc := 87) hx hb d_Mo_feed_87 (lv_at hl 1 rfl) ?_
  refine lv_iconst (pc := 89) (v := 3) hx hb d_Mo_feed_89 (by decide) ?_
  refine lv_iand (pc := 90) hx hb d_Mo_feed_90 ?_
  refine k_cst (v := 0) (by decide) ?_
  refine lv_imul (pc := 91) hx hb d_Mo_feed_91 ?_
  refine k_cst (v := 0) (by decide) ?_
  refine lv_isub (pc := 92) hx hb d_Mo_feed_92 ?_
  refine k_cst (v := 24) (by decide) ?_
  refine lv_ishr (pc := 93) hx hb d_Mo_feed_93 ?_
  refine lv_i2b (pc := 94) hx hb d_Mo_feed_94 rfl ?_
  refine k_bst (pc := 95) hx hb hK hP hD hS 1 1 rfl rfl (16) rfl (by decide) (by decide) d_Mo_feed_95 (fun H locs hP hD hS => ?_)
  have hP : va_P D classes (cat [[(a0, .inr (13, mF qm (va_up x0Mo 0 16) y0Mo))], [(qm 1, .inl (kA 1, 2000, .inl (upd (upd (upd (upd (upd (upd (upd (upd (upd (upd (upd (upd (upd (upd (upd (upd (upd f0 0 (vp_nar .byte ((v1 >>> (24 &&& 31)).toInt8.toInt32))) 1 (vp_nar .byte ((v1 >>> (16 &&& 31)).toInt8.toInt32))) 2 (vp_nar .byte ((v1 >>> (8 &&& 31)).toInt8.toInt32))) 3 (vp_nar .byte ((v1 >>> (0 &&& 31)).toInt8.toInt32))) 4 (vp_nar .byte ((v2 >>> (24 &&& 31)).toInt8.toInt32))) 5 (vp_nar .byte ((v2 >>> (16 &&& 31)).toInt8.toInt32))) 6 (vp_nar .byte ((v2 >>> (8 &&& 31)).toInt8.toInt32))) 7 (vp_nar .byte ((v2 >>> (0 &&& 31)).toInt8.toInt32))) 8 (vp_nar .byte ((v3 >>> (24 &&& 31)).toInt8.toInt32))) 9 (vp_nar .byte ((v3 >>> (16 &&& 31)).toInt8.toInt32))) 10 (vp_nar .byte ((v3 >>> (8 &&& 31)).toInt8.toInt32))) 11 (vp_nar .byte ((v3 >>> (0 &&& 31)).toInt8.toInt32))) 12 (vp_nar .byte ((v4 >>> (24 &&& 31)).toInt8.toInt32))) 13 (vp_nar .byte ((v4 >>> (16 &&& 31)).toInt8.toInt32))) 14 (vp_nar .byte ((v4 >>> (8 &&& 31)).toInt8.toInt32))) 15 (vp_nar .byte ((v4 >>> (0 &&& 31)).toInt8.toInt32))) 16 (vp_nar .byte ((v5 >>> (24 &&& 31)).toInt8.toInt32)))))]]) H := hP
  have hD : va_D A (cat [[(a0, .inr (13, mF qm (va_up x0Mo 0 16) y0Mo))], [(qm 1, .inl (kA 1, 2000, .inl (upd (upd (upd (upd (upd (upd (upd (upd (upd (upd (upd (upd (upd (upd (upd (upd (upd f0 0 (vp_nar .byte ((v1 >>> (24 &&& 31)).toInt8.toInt32))) 1 (vp_nar .byte ((v1 >>> (16 &&& 31)).toInt8.toInt32))) 2 (vp_nar .byte ((v1 >>> (8 &&& 31)).toInt8.toInt32))) 3 (vp_nar .byte ((v1 >>> (0 &&& 31)).toInt8.toInt32))) 4 (vp_nar .byte ((v2 >>> (24 &&& 31)).toInt8.toInt32))) 5 (vp_nar .byte ((v2 >>> (16 &&& 31)).toInt8.toInt32))) 6 (vp_nar .byte ((v2 >>> (8 &&& 31)).toInt8.toInt32))) 7 (vp_nar .byte ((v2 >>> (0 &&& 31)).toInt8.toInt32))) 8 (vp_nar .byte ((v3 >>> (24 &&& 31)).toInt8.toInt32))) 9 (vp_nar .byte ((v3 >>> (16 &&& 31)).toInt8.toInt32))) 10 (vp_nar .byte ((v3 >>> (8 &&& 31)).toInt8.toInt32))) 11 (vp_nar .byte ((v3 >>> (0 &&& 31)).toInt8.toInt32))) 12 (vp_nar .byte ((v4 >>> (24 &&& 31)).toInt8.toInt32))) 13 (vp_nar .byte ((v4 >>> (16 &&& 31)).toInt8.toInt32))) 14 (vp_nar .byte ((v4 >>> (8 &&& 31)).toInt8.toInt32))) 15 (vp_nar .byte ((v4 >>> (0 &&& 31)).toInt8.toInt32))) 16 (vp_nar .byte ((v5 >>> (24 &&& 31)).toInt8.toInt32)))))]]) := hD
  refine lv_aload_n (pc := 96) hx hb d_Mo_feed_96 rfl (lv_at hl 2 rfl) ?_
  refine lv_dup (pc := 97) hx hb d_Mo_feed_97 rfl ?_
  refine k_get (pc := 98) (v := .int 16) X hK hP 0 rfl rfl i_Mo 0 (by decide) wm_2433 rfl rfl d_Mo_feed_98 ?_
  refine lv_iconst (pc := 101) (v := 1) hx hb d_Mo_feed_101 (by decide) ?_
  refine lv_iadd (pc := 102) hx hb d_Mo_feed_102 ?_
  refine k_cst (v := 17) (by decide) ?_
  refine k_put (pc := 103) X hK hP hD hS 0 rfl rfl i_Mo t_Mo t_Mo_ok n_Mo 0 (by decide) wm_2433 rfl (Or.inl rfl) rfl rfl (Nat.le_of_ble_eq_true rfl) d_Mo_feed_103 (fun H locs hP hD hS => ?_)
  have hP : va_P D classes (cat [[(a0, .inr (13, mF qm (va_up x0Mo 0 17) y0Mo))], [(qm 1, .inl (kA 1, 2000, .inl (upd (upd (upd (upd (upd (upd (upd (upd (upd (upd (upd (upd (upd (upd (upd (upd (upd f0 0 (vp_nar .byte ((v1 >>> (24 &&& 31)).toInt8.toInt32))) 1 (vp_nar .byte ((v1 >>> (16 &&& 31)).toInt8.toInt32))) 2 (vp_nar .byte ((v1 >>> (8 &&& 31)).toInt8.toInt32))) 3 (vp_nar .byte ((v1 >>> (0 &&& 31)).toInt8.toInt32))) 4 (vp_nar .byte ((v2 >>> (24 &&& 31)).toInt8.toInt32))) 5 (vp_nar .byte ((v2 >>> (16 &&& 31)).toInt8.toInt32))) 6 (vp_nar .byte ((v2 >>> (8 &&& 31)).toInt8.toInt32))) 7 (vp_nar .byte ((v2 >>> (0 &&& 31)).toInt8.toInt32))) 8 (vp_nar .byte ((v3 >>> (24 &&& 31)).toInt8.toInt32))) 9 (vp_nar .byte ((v3 >>> (16 &&& 31)).toInt8.toInt32))) 10 (vp_nar .byte ((v3 >>> (8 &&& 31)).toInt8.toInt32))) 11 (vp_nar .byte ((v3 >>> (0 &&& 31)).toInt8.toInt32))) 12 (vp_nar .byte ((v4 >>> (24 &&& 31)).toInt8.toInt32))) 13 (vp_nar .byte ((v4 >>> (16 &&& 31)).toInt8.toInt32))) 14 (vp_nar .byte ((v4 >>> (8 &&& 31)).toInt8.toInt32))) 15 (vp_nar .byte ((v4 >>> (0 &&& 31)).toInt8.toInt32))) 16 (vp_nar .byte ((v5 >>> (24 &&& 31)).toInt8.toInt32)))))]]) H := hP
  have hD : va_D A (cat [[(a0, .inr (13, mF qm (va_up x0Mo 0 17) y0Mo))], [(qm 1, .inl (kA 1, 2000, .inl (upd (upd (upd (upd (upd (upd (upd (upd (upd (upd (upd (upd (upd (upd (upd (upd (upd f0 0 (vp_nar .byte ((v1 >>> (24 &&& 31)).toInt8.toInt32))) 1 (vp_nar .byte ((v1 >>> (16 &&& 31)).toInt8.toInt32))) 2 (vp_nar .byte ((v1 >>> (8 &&& 31)).toInt8.toInt32))) 3 (vp_nar .byte ((v1 >>> (0 &&& 31)).toInt8.toInt32))) 4 (vp_nar .byte ((v2 >>> (24 &&& 31)).toInt8.toInt32))) 5 (vp_nar .byte ((v2 >>> (16 &&& 31)).toInt8.toInt32))) 6 (vp_nar .byte ((v2 >>> (8 &&& 31)).toInt8.toInt32))) 7 (vp_nar .byte ((v2 >>> (0 &&& 31)).toInt8.toInt32))) 8 (vp_nar .byte ((v3 >>> (24 &&& 31)).toInt8.toInt32))) 9 (vp_nar .byte ((v3 >>> (16 &&& 31)).toInt8.toInt32))) 10 (vp_nar .byte ((v3 >>> (8 &&& 31)).toInt8.toInt32))) 11 (vp_nar .byte ((v3 >>> (0 &&& 31)).toInt8.toInt32))) 12 (vp_nar .byte ((v4 >>> (24 &&& 31)).toInt8.toInt32))) 13 (vp_nar .byte ((v4 >>> (16 &&& 31)).toInt8.toInt32))) 14 (vp_nar .byte ((v4 >>> (8 &&& 31)).toInt8.toInt32))) 15 (vp_nar .byte ((v4 >>> (0 &&& 31)).toInt8.toInt32))) 16 (vp_nar .byte ((v5 >>> (24 &&& 31)).toInt8.toInt32)))))]]) := hD
  refine lv_iinc (pc := 106) (v := 17) (lv' := [(6, .int 17), (7, .int v5), (0, .ref a0), (1, .int v1), (2, .int v2), (3, .int v3), (4, .int v4), (5, .int v5)]) hx hb d_Mo_feed_106 hl (k := 1) rfl (by decide) (by decide) rfl (fun ls hl => ?_)
  refine lv_goto (pc := 109) (tgt := 18) hx hb d_Mo_feed_109 (by decide) ?_
  refine lv_iload (pc := 18) hx hb d_Mo_feed_18 (lv_at hl 0 rfl) ?_
  refine lv_bipush (pc := 20) (v := 20) hx hb d_Mo_feed_20 (by decide) ?_
  refine lv_icmp_ge (pc := 22) (tgt := 112) hx hb d_Mo_feed_22 (by decide) (fun c1 => absurd c1 (by decide)) (fun _ => ?_)
  refine lv_iload (pc := 25) hx hb d_Mo_feed_25 (lv_at hl 0 rfl) ?_
  refine lv_iconst (pc := 27) (v := 4) hx hb d_Mo_feed_27 (by decide) ?_
  refine lv_icmp_ge (pc := 28) (tgt := 35) hx hb d_Mo_feed_28 (by decide) (fun _ => ?_) (fun c1 => absurd (by decide) c1)
  refine lv_iload (pc := 35) hx hb d_Mo_feed_35 (lv_at hl 0 rfl) ?_
  refine lv_bipush (pc := 37) (v := 8) hx hb d_Mo_feed_37 (by decide) ?_
  refine lv_icmp_ge (pc := 39) (tgt := 46) hx hb d_Mo_feed_39 (by decide) (fun _ => ?_) (fun c1 => absurd (by decide) c1)
  refine lv_iload (pc := 46) hx hb d_Mo_feed_46 (lv_at hl 0 rfl) ?_
  refine lv_bipush (pc := 48) (v := 12) hx hb d_Mo_feed_48 (by decide) ?_
  refine lv_icmp_ge (pc := 50) (tgt := 57) hx hb d_Mo_feed_50 (by decide) (fun _ => ?_) (fun c1 => absurd (by decide) c1)
  refine lv_iload (pc := 57) hx hb d_Mo_feed_57 (lv_at hl 0 rfl) ?_
  refine lv_bipush (pc := 59) (v := 16) hx hb d_Mo_feed_59 (by decide) ?_
  refine lv_icmp_ge (pc := 61) (tgt := 69) hx hb d_Mo_feed_61 (by decide) (fun _ => ?_) (fun c1 => absurd (by decide) c1)
  refine lv_iload (pc := 69) hx hb d_Mo_feed_69 (lv_at hl 7 rfl) ?_
  refine lv_istore (pc := 71) (lv' := [(7, .int v5), (6, .int 17), (0, .ref a0), (1, .int v1), (2, .int v2), (3, .int v3), (4, .int v4), (5, .int v5)]) hx hb d_Mo_feed_71 hl (by decide) rfl (fun ls hl => ?_)
  refine lv_aload_n (pc := 73) hx hb d_Mo_feed_73 rfl (lv_at hl 2 rfl) ?_
  refine k_get (pc := 74) (v := .ref (qm 1)) X hK hP 0 rfl rfl i_Mo 1 (by decide) wm_2434 rfl rfl d_Mo_feed_74 ?_
  refine lv_aload_n (pc := 77) hx hb d_Mo_feed_77 rfl (lv_at hl 2 rfl) ?_
  refine k_get (pc := 78) (v := .int 17) X hK hP 0 rfl rfl i_Mo 0 (by decide) wm_2433 rfl rfl d_Mo_feed_78 ?_
  refine lv_iload (pc := 81) hx hb d_Mo_feed_81 (lv_at hl 0 rfl) ?_
  refine lv_bipush (pc := 83) (v := 24) hx hb d_Mo_feed_83 (by decide) ?_
  refine lv_bipush (pc := 85) (v := 8) hx hb d_Mo_feed_85 (by decide) ?_
  refine lv_iload (pc := 87) hx hb d_Mo_feed_87 (lv_at hl 1 rfl) ?_
  refine lv_iconst (pc := 89) (v := 3) hx hb d_Mo_feed_89 (by decide) ?_
  refine lv_iand (pc := 90) hx hb d_Mo_feed_90 ?_
  refine k_cst (v := 1) (by decide) ?_
  refine lv_imul (pc := 91) hx hb d_Mo_feed_91 ?_
  refine k_cst (v := 8) (by decide) ?_
  refine lv_isub (pc := 92) hx hb d_Mo_feed_92 ?_
  refine k_cst (v := 16) (by decide) ?_
  refine lv_ishr (pc := 93) hx hb d_Mo_feed_93 ?_
  refine lv_i2b (pc := 94) hx hb d_Mo_feed_94 rfl ?_
  refine k_bst (pc := 95) hx hb hK hP hD hS 1 1 rfl rfl (17) rfl (by decide) (by decide) d_Mo_feed_95 (fun H locs hP hD hS => ?_)
  have hP : va_P D classes (cat [[(a0, .inr (13, mF qm (va_up x0Mo 0 17) y0Mo))], [(qm 1, .inl (kA 1, 2000, .inl (upd (upd (upd (upd (upd (upd (upd (upd (upd (upd (upd (upd (upd (upd (upd (upd (upd (upd f0 0 (vp_nar .byte ((v1 >>> (24 &&& 31)).toInt8.toInt32))) 1 (vp_nar .byte ((v1 >>> (16 &&& 31)).toInt8.toInt32))) 2 (vp_nar .byte ((v1 >>> (8 &&& 31)).toInt8.toInt32))) 3 (vp_nar .byte ((v1 >>> (0 &&& 31)).toInt8.toInt32))) 4 (vp_nar .byte ((v2 >>> (24 &&& 31)).toInt8.toInt32))) 5 (vp_nar .byte ((v2 >>> (16 &&& 31)).toInt8.toInt32))) 6 (vp_nar .byte ((v2 >>> (8 &&& 31)).toInt8.toInt32))) 7 (vp_nar .byte ((v2 >>> (0 &&& 31)).toInt8.toInt32))) 8 (vp_nar .byte ((v3 >>> (24 &&& 31)).toInt8.toInt32))) 9 (vp_nar .byte ((v3 >>> (16 &&& 31)).toInt8.toInt32))) 10 (vp_nar .byte ((v3 >>> (8 &&& 31)).toInt8.toInt32))) 11 (vp_nar .byte ((v3 >>> (0 &&& 31)).toInt8.toInt32))) 12 (vp_nar .byte ((v4 >>> (24 &&& 31)).toInt8.toInt32))) 13 (vp_nar .byte ((v4 >>> (16 &&& 31)).toInt8.toInt32))) 14 (vp_nar .byte ((v4 >>> (8 &&& 31)).toInt8.toInt32))) 15 (vp_nar .byte ((v4 >>> (0 &&& 31)).toInt8.toInt32))) 16 (vp_nar .byte ((v5 >>> (24 &&& 31)).toInt8.toInt32))) 17 (vp_nar .byte ((v5 >>> (16 &&& 31)).toInt8.toInt32)))))]]) H := hP
  have hD : va_D A (cat [[(a0, .inr (13, mF qm (va_up x0Mo 0 17) y0Mo))], [(qm 1, .inl (kA 1, 2000, .inl (upd (upd (upd (upd (upd (upd (upd (upd (upd (upd (upd (upd (upd (upd (upd (upd (upd (upd f0 0 (vp_nar .byte ((v1 >>> (24 &&& 31)).toInt8.toInt32))) 1 (vp_nar .byte ((v1 >>> (16 &&& 31)).toInt8.toInt32))) 2 (vp_nar .byte ((v1 >>> (8 &&& 31)).toInt8.toInt32))) 3 (vp_nar .byte ((v1 >>> (0 &&& 31)).toInt8.toInt32))) 4 (vp_nar .byte ((v2 >>> (24 &&& 31)).toInt8.toInt32))) 5 (vp_nar .byte ((v2 >>> (16 &&& 31)).toInt8.toInt32))) 6 (vp_nar .byte ((v2 >>> (8 &&& 31)).toInt8.toInt32))) 7 (vp_nar .byte ((v2 >>> (0 &&& 31)).toInt8.toInt32))) 8 (vp_nar .byte ((v3 >>> (24 &&& 31)).toInt8.toInt32))) 9 (vp_nar .byte ((v3 >>> (16 &&& 31)).toInt8.toInt32))) 10 (vp_nar .byte ((v3 >>> (8 &&& 31)).toInt8.toInt32))) 11 (vp_nar .byte ((v3 >>> (0 &&& 31)).toInt8.toInt32))) 12 (vp_nar .byte ((v4 >>> (24 &&& 31)).toInt8.toInt32))) 13 (vp_nar .byte ((v4 >>> (16 &&& 31)).toInt8.toInt32))) 14 (vp_nar .byte ((v4 >>> (8 &&& 31)).toInt8.toInt32))) 15 (vp_nar .byte ((v4 >>> (0 &&& 31)).toInt8.toInt32))) 16 (vp_nar .byte ((v5 >>> (24 &&& 31)).toInt8.toInt32))) 17 (vp_nar .byte ((v5 >>> (16 &&& 31)).toInt8.toInt32)))))]]) := hD
  refine lv_aload_n (pc := 96) hx hb d_Mo_feed_96 rfl (lv_at hl 2 rfl) ?_
  refine lv_dup (pc := 97) hx hb d_Mo_feed_97 rfl ?_
  refine k_get (pc := 98) (v := .int 17) X hK hP 0 rfl rfl i_Mo 0 (by decide) wm_2433 rfl rfl d_Mo_feed_98 ?_
  refine lv_iconst (pc := 101) (v := 1) hx hb d_Mo_feed_101 (by decide) ?_
  refine lv_iadd (pc := 102) hx hb d_Mo_feed_102 ?_
  refine k_cst (v := 18) (by decide) ?_
  refine k_put (pc := 103) X hK hP hD hS 0 rfl rfl i_Mo t_Mo t_Mo_ok n_Mo 0 (by decide) wm_2433 rfl (Or.inl rfl) rfl rfl (Nat.le_of_ble_eq_true rfl) d_Mo_feed_103 (fun H locs hP hD hS => ?_)
  have hP : va_P D classes (cat [[(a0, .inr (13, mF qm (va_up x0Mo 0 18) y0Mo))], [(qm 1, .inl (kA 1, 2000, .inl (upd (upd (upd (upd (upd (upd (upd (upd (upd (upd (upd (upd (upd (upd (upd (upd (upd (upd f0 0 (vp_nar .byte ((v1 >>> (24 &&& 31)).toInt8.toInt32))) 1 (vp_nar .byte ((v1 >>> (16 &&& 31)).toInt8.toInt32))) 2 (vp_nar .byte ((v1 >>> (8 &&& 31)).toInt8.toInt32))) 3 (vp_nar .byte ((v1 >>> (0 &&& 31)).toInt8.toInt32))) 4 (vp_nar .byte ((v2 >>> (24 &&& 31)).toInt8.toInt32))) 5 (vp_nar .byte ((v2 >>> (16 &&& 31)).toInt8.toInt32))) 6 (vp_nar .byte ((v2 >>> (8 &&& 31)).toInt8.toInt32))) 7 (vp_nar .byte ((v2 >>> (0 &&& 31)).toInt8.toInt32))) 8 (vp_nar .byte ((v3 >>> (24 &&& 31)).toInt8.toInt32))) 9 (vp_nar .byte ((v3 >>> (16 &&& 31)).toInt8.toInt32))) 10 (vp_nar .byte ((v3 >>> (8 &&& 31)).toInt8.toInt32))) 11 (vp_nar .byte ((v3 >>> (0 &&& 31)).toInt8.toInt32))) 12 (vp_nar .byte ((v4 >>> (24 &&& 31)).toInt8.toInt32))) 13 (vp_nar .byte ((v4 >>> (16 &&& 31)).toInt8.toInt32))) 14 (vp_nar .byte ((v4 >>> (8 &&& 31)).toInt8.toInt32))) 15 (vp_nar .byte ((v4 >>> (0 &&& 31)).toInt8.toInt32))) 16 (vp_nar .byte ((v5 >>> (24 &&& 31)).toInt8.toInt32))) 17 (vp_nar .byte ((v5 >>> (16 &&& 31)).toInt8.toInt32)))))]]) H := hP
  have hD : va_D A (cat [[(a0, .inr (13, mF qm (va_up x0Mo 0 18) y0Mo))], [(qm 1, .inl (kA 1, 2000, .inl (upd (upd (upd (upd (upd (upd (upd (upd (upd (upd (upd (upd (upd (upd (upd (upd (upd (upd f0 0 (vp_nar .byte ((v1 >>> (24 &&& 31)).toInt8.toInt32))) 1 (vp_nar .byte ((v1 >>> (16 &&& 31)).toInt8.toInt32))) 2 (vp_nar .byte ((v1 >>> (8 &&& 31)).toInt8.toInt32))) 3 (vp_nar .byte ((v1 >>> (0 &&& 31)).toInt8.toInt32))) 4 (vp_nar .byte ((v2 >>> (24 &&& 31)).toInt8.toInt32))) 5 (vp_nar .byte ((v2 >>> (16 &&& 31)).toInt8.toInt32))) 6 (vp_nar .byte ((v2 >>> (8 &&& 31)).toInt8.toInt32))) 7 (vp_nar .byte ((v2 >>> (0 &&& 31)).toInt8.toInt32))) 8 (vp_nar .byte ((v3 >>> (24 &&& 31)).toInt8.toInt32))) 9 (vp_nar .byte ((v3 >>> (16 &&& 31)).toInt8.toInt32))) 10 (vp_nar .byte ((v3 >>> (8 &&& 31)).toInt8.toInt32))) 11 (vp_nar .byte ((v3 >>> (0 &&& 31)).toInt8.toInt32))) 12 (vp_nar .byte ((v4 >>> (24 &&& 31)).toInt8.toInt32))) 13 (vp_nar .byte ((v4 >>> (16 &&& 31)).toInt8.toInt32))) 14 (vp_nar .byte ((v4 >>> (8 &&& 31)).toInt8.toInt32))) 15 (vp_nar .byte ((v4 >>> (0 &&& 31)).toInt8.toInt32))) 16 (vp_nar .byte ((v5 >>> (24 &&& 31)).toInt8.toInt32))) 17 (vp_nar .byte ((v5 >>> (16 &&& 31)).toInt8.toInt32)))))]]) := hD
  refine lv_iinc (pc := 106) (v := 18) (lv' := [(6, .int 18), (7, .int v5), (0, .ref a0), (1, .int v1), (2, .int v2), (3, .int v3), (4, .int v4), (5, .int v5)]) hx hb d_Mo_feed_106 hl (k := 1) rfl (by decide) (by decide) rfl (fun ls hl => ?_)
  refine lv_goto (pc := 109) (tgt := 18) hx hb d_Mo_feed_109 (by decide) ?_
  refine lv_iload (pc := 18) hx hb d_Mo_feed_18 (lv_at hl 0 rfl) ?_
  refine lv_bipush (pc := 20) (v := 20) hx hb d_Mo_feed_20 (by decide) ?_
  refine lv_icmp_ge (pc := 22) (tgt := 112) hx hb d_Mo_feed_22 (by decide) (fun c1 => absurd c1 (by decide)) (fun _ => ?_)
  refine lv_iload (pc := 25) hx hb d_Mo_feed_25 (lv_at hl 0 rfl) ?_
  refine lv_iconst (pc := 27) (v := 4) hx hb d_Mo_feed_27 (by decide) ?_
  refine lv_icmp_ge (pc := 28) (tgt := 35) hx hb d_Mo_feed_28 (by decide) (fun _ => ?_) (fun c1 => absurd (by decide) c1)
  refine lv_iload (pc := 35) hx hb d_Mo_feed_35 (lv_at hl 0 rfl) ?_
  refine lv_bipush (pc := 37) (v := 8) hx hb d_Mo_feed_37 (by decide) ?_
  refine lv_icmp_ge (pc := 39) (tgt := 46) hx hb d_Mo_feed_39 (by decide) (fun _ => ?_) (fun c1 => absurd (by decide) c1)
  refine lv_iload (pc := 46) hx hb d_Mo_feed_46 (lv_at hl 0 rfl) ?_
  refine lv_bipush (pc := 48) (v := 12) hx hb d_Mo_feed_48 (by decide) ?_
  refine lv_icmp_ge (pc := 50) (tgt := 57) hx hb d_Mo_feed_50 (by decide) (fun _ => ?_) (fun c1 => absurd (by decide) c1)
  refine lv_iload (pc := 57) hx hb d_Mo_feed_57 (lv_at hl 0 rfl) ?_
  refine lv_bipush (pc := 59) (v := 16) hx hb d_Mo_feed_59 (by decide) ?_
  refine lv_icmp_ge (pc := 61) (tgt := 69) hx hb d_Mo_feed_61 (by decide) (fun _ => ?_) (fun c1 => absurd (by decide) c1)
  refine lv_iload (pc := 69) hx hb d_Mo_feed_69 (lv_at hl 7 rfl) ?_
  refine lv_istore (pc := 71) (lv' := [(7, .int v5), (6, .int 18), (0, .ref a0), (1, .int v1), (2, .int v2), (3, .int v3), (4, .int v4), (5, .int v5)]) hx hb d_Mo_feed_71 hl (by decide) rfl (fun ls hl => ?_)
  refine lv_aload_n (pc := 73) hx hb d_Mo_feed_73 rfl (lv_at hl 2 rfl) ?_
  refine k_get (pc := 74) (v := .ref (qm 1)) X hK hP 0 rfl rfl i_Mo 1 (by decide) wm_2434 rfl rfl d_Mo_feed_74 ?_
  refine lv_aload_n (pc := 77) hx hb d_Mo_feed_77 rfl (lv_at hl 2 rfl) ?_
  refine k_get (pc := 78) (v := .int 18) X hK hP 0 rfl rfl i_Mo 0 (by decide) wm_2433 rfl rfl d_Mo_feed_78 ?_
  refine lv_iload (pc := 81) hx hb d_Mo_feed_81 (lv_at hl 0 rfl) ?_
  refine lv_bipush (pc := 83) (v := 24) hx hb d_Mo_feed_83 (by decide) ?_
  refine lv_bipush (pc := 85) (v := 8) hx hb d_Mo_feed_85 (by decide) ?_
  refine lv_iload (pc := 87) hx hb d_Mo_feed_87 (lv_at hl 1 rfl) ?_
  refine lv_iconst (pc := 89) (v := 3) hx hb d_Mo_feed_89 (by decide) ?_
  refine lv_iand (pc := 90) hx hb d_Mo_feed_90 ?_
  refine k_cst (v := 2) (by decide) ?_
  refine lv_imul (pc := 91) hx hb d_Mo_feed_91 ?_
  refine k_cst (v := 16) (by decide) ?_
  refine lv_isub (pc := 92) hx hb d_Mo_feed_92 ?_
  refine k_cst (v := 8) (by decide) ?_
  refine lv_ishr (pc := 93) hx hb d_Mo_feed_93 ?_
  refine lv_i2b (pc := 94) hx hb d_Mo_feed_94 rfl ?_
  refine k_bst (pc := 95) hx hb hK hP hD hS 1 1 rfl rfl (18) rfl (by decide) (by decide) d_Mo_feed_95 (fun H locs hP hD hS => ?_)
  have hP : va_P D classes (cat [[(a0, .inr (13, mF qm (va_up x0Mo 0 18) y0Mo))], [(qm 1, .inl (kA 1, 2000, .inl (upd (upd (upd (upd (upd (upd (upd (upd (upd (upd (upd (upd (upd (upd (upd (upd (upd (upd (upd f0 0 (vp_nar .byte ((v1 >>> (24 &&& 31)).toInt8.toInt32))) 1 (vp_nar .byte ((v1 >>> (16 &&& 31)).toInt8.toInt32))) 2 (vp_nar .byte ((v1 >>> (8 &&& 31)).toInt8.toInt32))) 3 (vp_nar .byte ((v1 >>> (0 &&& 31)).toInt8.toInt32))) 4 (vp_nar .byte ((v2 >>> (24 &&& 31)).toInt8.toInt32))) 5 (vp_nar .byte ((v2 >>> (16 &&& 31)).toInt8.toInt32))) 6 (vp_nar .byte ((v2 >>> (8 &&& 31)).toInt8.toInt32))) 7 (vp_nar .byte ((v2 >>> (0 &&& 31)).toInt8.toInt32))) 8 (vp_nar .byte ((v3 >>> (24 &&& 31)).toInt8.toInt32))) 9 (vp_nar .byte ((v3 >>> (16 &&& 31)).toInt8.toInt32))) 10 (vp_nar .byte ((v3 >>> (8 &&& 31)).toInt8.toInt32))) 11 (vp_nar .byte ((v3 >>> (0 &&& 31)).toInt8.toInt32))) 12 (vp_nar .byte ((v4 >>> (24 &&& 31)).toInt8.toInt32))) 13 (vp_nar .byte ((v4 >>> (16 &&& 31)).toInt8.toInt32))) 14 (vp_nar .byte ((v4 >>> (8 &&& 31)).toInt8.toInt32))) 15 (vp_nar .byte ((v4 >>> (0 &&& 31)).toInt8.toInt32))) 16 (vp_nar .byte ((v5 >>> (24 &&& 31)).toInt8.toInt32))) 17 (vp_nar .byte ((v5 >>> (16 &&& 31)).toInt8.toInt32))) 18 (vp_nar .byte ((v5 >>> (8 &&& 31)).toInt8.toInt32)))))]]) H := hP
  have hD : va_D A (cat [[(a0, .inr (13, mF qm (va_up x0Mo 0 18) y0Mo))], [(qm 1, .inl (kA 1, 2000, .inl (upd (upd (upd (upd (upd (upd (upd (upd (upd (upd (upd (upd (upd (upd (upd (upd (upd (upd (upd f0 0 (vp_nar .byte ((v1 >>> (24 &&& 31)).toInt8.toInt32))) 1 (vp_nar .byte ((v1 >>> (16 &&& 31)).toInt8.toInt32))) 2 (vp_nar .byte ((v1 >>> (8 &&& 31)).toInt8.toInt32))) 3 (vp_nar .byte ((v1 >>> (0 &&& 31)).toInt8.toInt32))) 4 (vp_nar .byte ((v2 >>> (24 &&& 31)).toInt8.toInt32))) 5 (vp_nar .byte ((v2 >>> (16 &&& 31)).toInt8.toInt32))) 6 (vp_nar .byte ((v2 >>> (8 &&& 31)).toInt8.toInt32))) 7 (vp_nar .byte ((v2 >>> (0 &&& 31)).toInt8.toInt32))) 8 (vp_nar .byte ((v3 >>> (24 &&& 31)).toInt8.toInt32))) 9 (vp_nar .byte ((v3 >>> (16 &&& 31)).toInt8.toInt32))) 10 (vp_nar .byte ((v3 >>> (8 &&& 31)).toInt8.toInt32))) 11 (vp_nar .byte ((v3 >>> (0 &&& 31)).toInt8.toInt32))) 12 (vp_nar .byte ((v4 >>> (24 &&& 31)).toInt8.toInt32))) 13 (vp_nar .byte ((v4 >>> (16 &&& 31)).toInt8.toInt32))) 14 (vp_nar .byte ((v4 >>> (8 &&& 31)).toInt8.toInt32))) 15 (vp_nar .byte ((v4 >>> (0 &&& 31)).toInt8.toInt32))) 16 (vp_nar .byte ((v5 >>> (24 &&& 31)).toInt8.toInt32))) 17 (vp_nar .byte ((v5 >>> (16 &&& 31)).toInt8.toInt32))) 18 (vp_nar .byte ((v5 >>> (8 &&& 31)).toInt8.toInt32)))))]]) := hD
  refine lv_aload_n (pc := 96) hx hb d_Mo_feed_96 rfl (lv_at hl 2 rfl) ?_
  refine lv_dup (pc := 97) hx hb d_Mo_feed_97 rfl ?_
  refine k_get (pc := 98) (v := .int 18) X hK hP 0 rfl rfl i_Mo 0 (by decide) wm_2433 rfl rfl d_Mo_feed_98 ?_
  refine lv_iconst (pc := 101) (v := 1) hx hb d_Mo_feed_101 (by decide) ?_
  refine lv_iadd (pc := 102) hx hb d_Mo_feed_102 ?_
  refine k_cst (v := 19) (by decide) ?_
  refine k_put (pc := 103) X hK hP hD hS 0 rfl rfl i_Mo t_Mo t_Mo_ok n_Mo 0 (by decide) wm_2433 rfl (Or.inl rfl) rfl rfl (Nat.le_of_ble_eq_true rfl) d_Mo_feed_103 (fun H locs hP hD hS => ?_)
  have hP : va_P D classes (cat [[(a0, .inr (13, mF qm (va_up x0Mo 0 19) y0Mo))], [(qm 1, .inl (kA 1, 2000, .inl (upd (upd (upd (upd (upd (upd (upd (upd (upd (upd (upd (upd (upd (upd (upd (upd (upd (upd (upd f0 0 (vp_nar .byte ((v1 >>> (24 &&& 31)).toInt8.toInt32))) 1 (vp_nar .byte ((v1 >>> (16 &&& 31)).toInt8.toInt32))) 2 (vp_nar .byte ((v1 >>> (8 &&& 31)).toInt8.toInt32))) 3 (vp_nar .byte ((v1 >>> (0 &&& 31)).toInt8.toInt32))) 4 (vp_nar .byte ((v2 >>> (24 &&& 31)).toInt8.toInt32))) 5 (vp_nar .byte ((v2 >>> (16 &&& 31)).toInt8.toInt32))) 6 (vp_nar .byte ((v2 >>> (8 &&& 31)).toInt8.toInt32))) 7 (vp_nar .byte ((v2 >>> (0 &&& 31)).toInt8.toInt32))) 8 (vp_nar .byte ((v3 >>> (24 &&& 31)).toInt8.toInt32))) 9 (vp_nar .byte ((v3 >>> (16 &&& 31)).toInt8.toInt32))) 10 (vp_nar .byte ((v3 >>> (8 &&& 31)).toInt8.toInt32))) 11 (vp_nar .byte ((v3 >>> (0 &&& 31)).toInt8.toInt32))) 12 (vp_nar .byte ((v4 >>> (24 &&& 31)).toInt8.toInt32))) 13 (vp_nar .byte ((v4 >>> (16 &&& 31)).toInt8.toInt32))) 14 (vp_nar .byte ((v4 >>> (8 &&& 31)).toInt8.toInt32))) 15 (vp_nar .byte ((v4 >>> (0 &&& 31)).toInt8.toInt32))) 16 (vp_nar .byte ((v5 >>> (24 &&& 31)).toInt8.toInt32))) 17 (vp_nar .byte ((v5 >>> (16 &&& 31)).toInt8.toInt32))) 18 (vp_nar .byte ((v5 >>> (8 &&& 31)).toInt8.toInt32)))))]]) H := hP
  have hD : va_D A (cat [[(a0, .inr (13, mF qm (va_up x0Mo 0 19) y0Mo))], [(qm 1, .inl (kA 1, 2000, .inl (upd (upd (upd (upd (upd (upd (upd (upd (upd (upd (upd (upd (upd (upd (upd (upd (upd (upd (upd f0 0 (vp_nar .byte ((v1 >>> (24 &&& 31)).toInt8.toInt32))) 1 (vp_nar .byte ((v1 >>> (16 &&& 31)).toInt8.toInt32))) 2 (vp_nar .byte ((v1 >>> (8 &&& 31)).toInt8.toInt32))) 3 (vp_nar .byte ((v1 >>> (0 &&& 31)).toInt8.toInt32))) 4 (vp_nar .byte ((v2 >>> (24 &&& 31)).toInt8.toInt32))) 5 (vp_nar .byte ((v2 >>> (16 &&& 31)).toInt8.toInt32))) 6 (vp_nar .byte ((v2 >>> (8 &&& 31)).toInt8.toInt32))) 7 (vp_nar .byte ((v2 >>> (0 &&& 31)).toInt8.toInt32))) 8 (vp_nar .byte ((v3 >>> (24 &&& 31)).toInt8.toInt32))) 9 (vp_nar .byte ((v3 >>> (16 &&& 31)).toInt8.toInt32))) 10 (vp_nar .byte ((v3 >>> (8 &&& 31)).toInt8.toInt32))) 11 (vp_nar .byte ((v3 >>> (0 &&& 31)).toInt8.toInt32))) 12 (vp_nar .byte ((v4 >>> (24 &&& 31)).toInt8.toInt32))) 13 (vp_nar .byte ((v4 >>> (16 &&& 31)).toInt8.toInt32))) 14 (vp_nar .byte ((v4 >>> (8 &&& 31)).toInt8.toInt32))) 15 (vp_nar .byte ((v4 >>> (0 &&& 31)).toInt8.toInt32))) 16 (vp_nar .byte ((v5 >>> (24 &&& 31)).toInt8.toInt32))) 17 (vp_nar .byte ((v5 >>> (16 &&& 31)).toInt8.toInt32))) 18 (vp_nar .byte ((v5 >>> (8 &&& 31)).toInt8.toInt32)))))]]) := hD
  refine lv_iinc (pc := 106) (v := 19) (lv' := [(6, .int 19), (7, .int v5), (0, .ref a0), (1, .int v1), (2, .int v2), (3, .int v3), (4, .int v4), (5, .int v5)]) hx hb d_Mo_feed_106 hl (k := 1) rfl (by decide) (by decide) rfl (fun ls hl => ?_)
  refine lv_goto (pc := 109) (tgt := 18) hx hb d_Mo_feed_109 (by decide) ?_
  refine lv_iload (pc := 18) hx hb d_Mo_feed_18 (lv_at hl 0 rfl) ?_
  refine lv_bipush (pc := 20) (v := 20) hx hb d_Mo_feed_20 (by decide) ?_
  refine lv_icmp_ge (pc := 22) (tgt := 112) hx hb d_Mo_feed_22 (by decide) (fun c1 => absurd c1 (by decide)) (fun _ => ?_)
  refine lv_iload (pc := 25) hx hb d_Mo_feed_25 (lv_at hl 0 rfl) ?_
  refine lv_iconst (pc := 27) (v := 4) hx hb d_Mo_feed_27 (by decide) ?_
  refine lv_icmp_ge (pc := 28) (tgt := 35) hx hb d_Mo_feed_28 (by decide) (fun _ => ?_) (fun c1 => absurd (by decide) c1)
  refine lv_iload (pc := 35) hx hb d_Mo_feed_35 (lv_at hl 0 rfl) ?_
  refine lv_bipush (pc := 37) (v := 8) hx hb d_Mo_feed_37 (by decide) ?_
  refine lv_icmp_ge (pc := 39) (tgt := 46) hx hb d_Mo_feed_39 (by decide) (fun _ => ?_) (fun c1 => absurd (by decide) c1)
  refine lv_iload (pc := 46) hx hb d_Mo_feed_46 (lv_at hl 0 rfl) ?_
  refine lv_bipush (pc := 48) (v := 12) hx hb d_Mo_feed_48 (by decide) ?_
  refine lv_icmp_ge (pc := 50) (tgt := 57) hx hb d_Mo_feed_50 (by decide) (fun _ => ?_) (fun c1 => absurd (by decide) c1)
  refine lv_iload (pc := 57) hx hb d_Mo_feed_57 (lv_at hl 0 rfl) ?_
  refine lv_bipush (pc := 59) (v := 16) hx hb d_Mo_feed_59 (by decide) ?_
  refine lv_icmp_ge (pc := 61) (tgt := 69) hx hb d_Mo_feed_61 (by decide) (fun _ => ?_) (fun c1 => absurd (by decide) c1)
  refine lv_iload (pc := 69) hx hb d_Mo_feed_69 (lv_at hl 7 rfl) ?_
  refine lv_istore (pc := 71) (lv' := [(7, .int v5), (6, .int 19), (0, .ref a0), (1, .int v1), (2, .int v2), (3, .int v3), (4, .int v4), (5, .int v5)]) hx hb d_Mo_feed_71 hl (by decide) rfl (fun ls hl => ?_)
  refine lv_aload_n (pc := 73) hx hb d_Mo_feed_73 rfl (lv_at hl 2 rfl) ?_
  refine k_get (pc := 74) (v := .ref (qm 1)) X hK hP 0 rfl rfl i_Mo 1 (by decide) wm_2434 rfl rfl d_Mo_feed_74 ?_
  refine lv_aload_n (pc := 77) hx hb d_Mo_feed_77 rfl (lv_at hl 2 rfl) ?_
  refine k_get (pc := 78) (v := .int 19) X hK hP 0 rfl rfl i_Mo 0 (by decide) wm_2433 rfl rfl d_Mo_feed_78 ?_
  refine lv_iload (pc := 81) hx hb d_Mo_feed_81 (lv_at hl 0 rfl) ?_
  refine lv_bipush (pc := 83) (v := 24) hx hb d_Mo_feed_83 (by decide) ?_
  refine lv_bipush (pc := 85) (v := 8) hx hb d_Mo_feed_85 (by decide) ?_
  refine lv_iload (pc := 87) hx hb d_Mo_feed_87 (lv_at hl 1 rfl) ?_
  refine lv_iconst (pc := 89) (v := 3) hx hb d_Mo_feed_89 (by decide) ?_
  refine lv_iand (pc := 90) hx hb d_Mo_feed_90 ?_
  refine k_cst (v := 3) (by decide) ?_
  refine lv_imul (pc := 91) hx hb d_Mo_feed_91 ?_
  refine k_cst (v := 24) (by decide) ?_
  refine lv_isub (pc := 92) hx hb d_Mo_feed_92 ?_
  refine k_cst (v := 0) (by decide) ?_
  refine lv_ishr (pc := 93) hx hb d_Mo_feed_93 ?_
  refine lv_i2b (pc := 94) hx hb d_Mo_feed_94 rfl ?_
  refine k_bst (pc := 95) hx hb hK hP hD hS 1 1 rfl rfl (19) rfl (by decide) (by decide) d_Mo_feed_95 (fun H locs hP hD hS => ?_)
  have hP : va_P D classes (cat [[(a0, .inr (13, mF qm (va_up x0Mo 0 19) y0Mo))], [(qm 1, .inl (kA 1, 2000, .inl (upd (upd (upd (upd (upd (upd (upd (upd (upd (upd (upd (upd (upd (upd (upd (upd (upd (upd (upd (upd f0 0 (vp_nar .byte ((v1 >>> (24 &&& 31)).toInt8.toInt32))) 1 (vp_nar .byte ((v1 >>> (16 &&& 31)).toInt8.toInt32))) 2 (vp_nar .byte ((v1 >>> (8 &&& 31)).toInt8.toInt32))) 3 (vp_nar .byte ((v1 >>> (0 &&& 31)).toInt8.toInt32))) 4 (vp_nar .byte ((v2 >>> (24 &&& 31)).toInt8.toInt32))) 5 (vp_nar .byte ((v2 >>> (16 &&& 31)).toInt8.toInt32))) 6 (vp_nar .byte ((v2 >>> (8 &&& 31)).toInt8.toInt32))) 7 (vp_nar .byte ((v2 >>> (0 &&& 31)).toInt8.toInt32))) 8 (vp_nar .byte ((v3 >>> (24 &&& 31)).toInt8.toInt32))) 9 (vp_nar .byte ((v3 >>> (16 &&& 31)).toInt8.toInt32))) 10 (vp_nar .byte ((v3 >>> (8 &&& 31)).toInt8.toInt32))) 11 (vp_nar .byte ((v3 >>> (0 &&& 31)).toInt8.toInt32))) 12 (vp_nar .byte ((v4 >>> (24 &&& 31)).toInt8.toInt32))) 13 (vp_nar .byte ((v4 >>> (16 &&& 31)).toInt8.toInt32))) 14 (vp_nar .byte ((v4 >>> (8 &&& 31)).toInt8.toInt32))) 15 (vp_nar .byte ((v4 >>> (0 &&& 31)).toInt8.toInt32))) 16 (vp_nar .byte ((v5 >>> (24 &&& 31)).toInt8.toInt32))) 17 (vp_nar .byte ((v5 >>> (16 &&& 31)).toInt8.toInt32))) 18 (vp_nar .byte ((v5 >>> (8 &&& 31)).toInt8.toInt32))) 19 (vp_nar .byte ((v5 >>> (0 &&& 31)).toInt8.toInt32)))))]]) H := hP
  have hD : va_D A (cat [[(a0, .inr (13, mF qm (va_up x0Mo 0 19) y0Mo))], [(qm 1, .inl (kA 1, 2000, .inl (upd (upd (upd (upd (upd (upd (upd (upd (upd (upd (upd (upd (upd (upd (upd (upd (upd (upd (upd (upd f0 0 (vp_nar .byte ((v1 >>> (24 &&& 31)).toInt8.toInt32))) 1 (vp_nar .byte ((v1 >>> (16 &&& 31)).toInt8.toInt32))) 2 (vp_nar .byte ((v1 >>> (8 &&& 31)).toInt8.toInt32))) 3 (vp_nar .byte ((v1 >>> (0 &&& 31)).toInt8.toInt32))) 4 (vp_nar .byte ((v2 >>> (24 &&& 31)).toInt8.toInt32))) 5 (vp_nar .byte ((v2 >>> (16 &&& 31)).toInt8.toInt32))) 6 (vp_nar .byte ((v2 >>> (8 &&& 31)).toInt8.toInt32))) 7 (vp_nar .byte ((v2 >>> (0 &&& 31)).toInt8.toInt32))) 8 (vp_nar .byte ((v3 >>> (24 &&& 31)).toInt8.toInt32))) 9 (vp_nar .byte ((v3 >>> (16 &&& 31)).toInt8.toInt32))) 10 (vp_nar .byte ((v3 >>> (8 &&& 31)).toInt8.toInt32))) 11 (vp_nar .byte ((v3 >>> (0 &&& 31)).toInt8.toInt32))) 12 (vp_nar .byte ((v4 >>> (24 &&& 31)).toInt8.toInt32))) 13 (vp_nar .byte ((v4 >>> (16 &&& 31)).toInt8.toInt32))) 14 (vp_nar .byte ((v4 >>> (8 &&& 31)).toInt8.toInt32))) 15 (vp_nar .byte ((v4 >>> (0 &&& 31)).toInt8.toInt32))) 16 (vp_nar .byte ((v5 >>> (24 &&& 31)).toInt8.toInt32))) 17 (vp_nar .byte ((v5 >>> (16 &&& 31)).toInt8.toInt32))) 18 (vp_nar .byte ((v5 >>> (8 &&& 31)).toInt8.toInt32))) 19 (vp_nar .byte ((v5 >>> (0 &&& 31)).toInt8.toInt32)))))]]) := hD
  refine lv_aload_n (pc := 96) hx hb d_Mo_feed_96 rfl (lv_at hl 2 rfl) ?_
  refine lv_dup (pc := 97) hx hb d_Mo_feed_97 rfl ?_
  refine k_get (pc := 98) (v := .int 19) X hK hP 0 rfl rfl i_Mo 0 (by decide) wm_2433 rfl rfl d_Mo_feed_98 ?_
  refine lv_iconst (pc := 101) (v := 1) hx hb d_Mo_feed_101 (by decide) ?_
  refine lv_iadd (pc := 102) hx hb d_Mo_feed_102 ?_
  refine k_cst (v := 20) (by decide) ?_
  refine k_put (pc := 103) X hK hP hD hS 0 rfl rfl i_Mo t_Mo t_Mo_ok n_Mo 0 (by decide) wm_2433 rfl (Or.inl rfl) rfl rfl (Nat.le_of_ble_eq_true rfl) d_Mo_feed_103 (fun H locs hP hD hS => ?_)
  have hP : va_P D classes (cat [[(a0, .inr (13, mF qm (va_up x0Mo 0 20) y0Mo))], [(qm 1, .inl (kA 1, 2000, .inl (upd (upd (upd (upd (upd (upd (upd (upd (upd (upd (upd (upd (upd (upd (upd (upd (upd (upd (upd (upd f0 0 (vp_nar .byte ((v1 >>> (24 &&& 31)).toInt8.toInt32))) 1 (vp_nar .byte ((v1 >>> (16 &&& 31)).toInt8.toInt32))) 2 (vp_nar .byte ((v1 >>> (8 &&& 31)).toInt8.toInt32))) 3 (vp_nar .byte ((v1 >>> (0 &&& 31)).toInt8.toInt32))) 4 (vp_nar .byte ((v2 >>> (24 &&& 31)).toInt8.toInt32))) 5 (vp_nar .byte ((v2 >>> (16 &&& 31)).toInt8.toInt32))) 6 (vp_nar .byte ((v2 >>> (8 &&& 31)).toInt8.toInt32))) 7 (vp_nar .byte ((v2 >>> (0 &&& 31)).toInt8.toInt32))) 8 (vp_nar .byte ((v3 >>> (24 &&& 31)).toInt8.toInt32))) 9 (vp_nar .byte ((v3 >>> (16 &&& 31)).toInt8.toInt32))) 10 (vp_nar .byte ((v3 >>> (8 &&& 31)).toInt8.toInt32))) 11 (vp_nar .byte ((v3 >>> (0 &&& 31)).toInt8.toInt32))) 12 (vp_nar .byte ((v4 >>> (24 &&& 31)).toInt8.toInt32))) 13 (vp_nar .byte ((v4 >>> (16 &&& 31)).toInt8.toInt32))) 14 (vp_nar .byte ((v4 >>> (8 &&& 31)).toInt8.toInt32))) 15 (vp_nar .byte ((v4 >>> (0 &&& 31)).toInt8.toInt32))) 16 (vp_nar .byte ((v5 >>> (24 &&& 31)).toInt8.toInt32))) 17 (vp_nar .byte ((v5 >>> (16 &&& 31)).toInt8.toInt32))) 18 (vp_nar .byte ((v5 >>> (8 &&& 31)).toInt8.toInt32))) 19 (vp_nar .byte ((v5 >>> (0 &&& 31)).toInt8.toInt32)))))]]) H := hP
  have hD : va_D A (cat [[(a0, .inr (13, mF qm (va_up x0Mo 0 20) y0Mo))], [(qm 1, .inl (kA 1, 2000, .inl (upd (upd (upd (upd (upd (upd (upd (upd (upd (upd (upd (upd (upd (upd (upd (upd (upd (upd (upd (upd f0 0 (vp_nar .byte ((v1 >>> (24 &&& 31)).toInt8.toInt32))) 1 (vp_nar .byte ((v1 >>> (16 &&& 31)).toInt8.toInt32))) 2 (vp_nar .byte ((v1 >>> (8 &&& 31)).toInt8.toInt32))) 3 (vp_nar .byte ((v1 >>> (0 &&& 31)).toInt8.toInt32))) 4 (vp_nar .byte ((v2 >>> (24 &&& 31)).toInt8.toInt32))) 5 (vp_nar .byte ((v2 >>> (16 &&& 31)).toInt8.toInt32))) 6 (vp_nar .byte ((v2 >>> (8 &&& 31)).toInt8.toInt32))) 7 (vp_nar .byte ((v2 >>> (0 &&& 31)).toInt8.toInt32))) 8 (vp_nar .byte ((v3 >>> (24 &&& 31)).toInt8.toInt32))) 9 (vp_nar .byte ((v3 >>> (16 &&& 31)).toInt8.toInt32))) 10 (vp_nar .byte ((v3 >>> (8 &&& 31)).toInt8.toInt32))) 11 (vp_nar .byte ((v3 >>> (0 &&& 31)).toInt8.toInt32))) 12 (vp_nar .byte ((v4 >>> (24 &&& 31)).toInt8.toInt32))) 13 (vp_nar .byte ((v4 >>> (16 &&& 31)).toInt8.toInt32))) 14 (vp_nar .byte ((v4 >>> (8 &&& 31)).toInt8.toInt32))) 15 (vp_nar .byte ((v4 >>> (0 &&& 31)).toInt8.toInt32))) 16 (vp_nar .byte ((v5 >>> (24 &&& 31)).toInt8.toInt32))) 17 (vp_nar .byte ((v5 >>> (16 &&& 31)).toInt8.toInt32))) 18 (vp_nar .byte ((v5 >>> (8 &&& 31)).toInt8.toInt32))) 19 (vp_nar .byte ((v5 >>> (0 &&& 31)).toInt8.toInt32)))))]]) := hD
  refine lv_iinc (pc := 106) (v := 20) (lv' := [(6, .int 20), (7, .int v5), (0, .ref a0), (1, .int v1), (2, .int v2), (3, .int v3), (4, .int v4), (5, .int v5)]) hx hb d_Mo_feed_106 hl (k := 1) rfl (by decide) (by decide) rfl (fun ls hl => ?_)
  refine lv_goto (pc := 109) (tgt := 18) hx hb d_Mo_feed_109 (by decide) ?_
  refine lv_iload (pc := 18) hx hb d_Mo_feed_18 (lv_at hl 0 rfl) ?_
  refine lv_bipush (pc := 20) (v := 20) hx hb d_Mo_feed_20 (by decide) ?_
  refine lv_icmp_ge (pc := 22) (tgt := 112) hx hb d_Mo_feed_22 (by decide) (fun _ => ?_) (fun c1 => absurd (by decide) c1)
  refine lv_aload_n (pc := 112) hx hb d_Mo_feed_112 rfl (lv_at hl 2 rfl) ?_
  refine k_get (pc := 113) (v := .int 20) X hK hP 0 rfl rfl i_Mo 0 (by decide) wm_2433 rfl rfl d_Mo_feed_113 ?_
  refine W.widen (k := 0) (n := 0) (Nat.le_of_ble_eq_true rfl) (Nat.le_of_ble_eq_true rfl) ?_
  exact W.iret (v := 20) hx hb hr (fun t ht hW => ⟨⟨20, [[(a0, .inr (13, mF qm (va_up x0Mo 0 20) y0Mo))], [(qm 1, .inl (kA 1, 2000, .inl (upd (upd (upd (upd (upd (upd (upd (upd (upd (upd (upd (upd (upd (upd (upd (upd (upd (upd (upd (upd f0 0 (vp_nar .byte ((v1 >>> (24 &&& 31)).toInt8.toInt32))) 1 (vp_nar .byte ((v1 >>> (16 &&& 31)).toInt8.toInt32))) 2 (vp_nar .byte ((v1 >>> (8 &&& 31)).toInt8.toInt32))) 3 (vp_nar .byte ((v1 >>> (0 &&& 31)).toInt8.toInt32))) 4 (vp_nar .byte ((v2 >>> (24 &&& 31)).toInt8.toInt32))) 5 (vp_nar .byte ((v2 >>> (16 &&& 31)).toInt8.toInt32))) 6 (vp_nar .byte ((v2 >>> (8 &&& 31)).toInt8.toInt32))) 7 (vp_nar .byte ((v2 >>> (0 &&& 31)).toInt8.toInt32))) 8 (vp_nar .byte ((v3 >>> (24 &&& 31)).toInt8.toInt32))) 9 (vp_nar .byte ((v3 >>> (16 &&& 31)).toInt8.toInt32))) 10 (vp_nar .byte ((v3 >>> (8 &&& 31)).toInt8.toInt32))) 11 (vp_nar .byte ((v3 >>> (0 &&& 31)).toInt8.toInt32))) 12 (vp_nar .byte ((v4 >>> (24 &&& 31)).toInt8.toInt32))) 13 (vp_nar .byte ((v4 >>> (16 &&& 31)).toInt8.toInt32))) 14 (vp_nar .byte ((v4 >>> (8 &&& 31)).toInt8.toInt32))) 15 (vp_nar .byte ((v4 >>> (0 &&& 31)).toInt8.toInt32))) 16 (vp_nar .byte ((v5 >>> (24 &&& 31)).toInt8.toInt32))) 17 (vp_nar .byte ((v5 >>> (16 &&& 31)).toInt8.toInt32))) 18 (vp_nar .byte ((v5 >>> (8 &&& 31)).toInt8.toInt32))) 19 (vp_nar .byte ((v5 >>> (0 &&& 31)).toInt8.toInt32)))))]], rfl, rfl, by rw [ht]; exact hP, va_K.moved hW.alike hK, hD⟩, hS.F ht⟩) hS.2.2 d_Mo_feed_116
set_option maxRecDepth 100000 in
set_option maxHeartbeats 4000000 in
/-- feed, a fresh house -/
theorem lf_feed_1 {p : Program} {e : Env} {s : State} {m : MethodId} {below : List Frame} {meth : Method} {c : Code} (l : Launch) {b : Nat} {xs : Nat → Int32} (C0 : lw_At p s m meth c b 6 xs) {D : va_G} {kA : Nat → ClassId} (h : Nat) (h2 : Nat) (q : Nat → Nat) (qr : Nat → Nat) (qm : Nat → Nat) (v1 : Int32) (v2 : Int32) (v3 : Int32) (v4 : Int32) (v5 : Int32) (hv1 : xs 1 = v1) (hv2 : xs 2 = v2) (hv3 : xs 3 = v3) (hv4 : xs 4 = v4) (hv5 : xs 5 = v5) {H : Heap} {locs : List Loc} {ls : Array Slot} (hK : va_K D classes (TY kA) s) (hN : nst s) (hP : va_P D classes (cat [[(h, .inr (12, [.ref (q 0), .ref (q 1), .ref (q 2), .ref (q 3), .ref (q 4), .ref (q 5), .ref (q 6), .int 0, .int ((-1)), .ref (q 9), .ref (q 10), .int 0, .int 0, .ref (q 13), .int 0, .int 0, .null, .null, .null, .null, .null]))], [(q 4, .inr (8, [.ref (qr 0), .int 0, .int ((-1)), .int ((-1)), .ref (qr 4), .int 0, .int 0, .int 0, .int 0, .int 0, .ref (qr 10), .int 0]))], [(qr 0, .inl (kA 1, 2000, .inl (fun _ => 0)))], [(h2, .inr (13, mF qm x0Mo y0Mo))], [(qm 1, .inl (kA 1, 2000, .inl (fun _ => 0)))]]) H) (hD : va_D (fun q : Nat => s.heap.size ≤ q) (cat [[(h, .inr (12, [.ref (q 0), .ref (q 1), .ref (q 2), .ref (q 3), .ref (q 4), .ref (q 5), .ref (q 6), .int 0, .int ((-1)), .ref (q 9), .ref (q 10), .int 0, .int 0, .ref (q 13), .int 0, .int 0, .null, .null, .null, .null, .null]))], [(q 4, .inr (8, [.ref (qr 0), .int 0, .int ((-1)), .int ((-1)), .ref (qr 4), .int 0, .int 0, .int 0, .int 0, .int 0, .ref (qr 10), .int 0]))], [(qr 0, .inl (kA 1, 2000, .inl (fun _ => 0)))], [(h2, .inr (13, mF qm x0Mo y0Mo))], [(qm 1, .inl (kA 1, 2000, .inl (fun _ => 0)))]])) (hS : va_S (fun q : Nat => s.heap.size ≤ q) s.heap H locs) (hl : lv_has ls 4 [(3, .int 0), (2, .ref h2), (1, .ref h), (0, .ref b)]) : W p l e room_1 s m #[Value.ref b] below meth c H locs 368 365796 (lw_Z below #[Value.ref b] s) (F0 m 160 ls []) := by
  obtain ⟨hx, hb, hr, hml, hown, hts0, hX, hbl, hlocks, hgv⟩ := id C0
  have hts : ∀ w ∈ lw_g, w.before #[Value.ref b] s = true := fun w h => hts0 w (lw_gt h)
  have X : cx p s m #[Value.ref b] meth c b_law_law 4 ret "DrawingHouseLaw" meth.name := ⟨hx, hb, hml, hown, hts, hr, hlocks, rfl⟩
  obtain ⟨A, hAe⟩ : ∃ A : Nat → Prop, A = fun q : Nat => s.heap.size ≤ q := ⟨_, rfl⟩
  have hA : ∀ q : Nat, s.heap.size ≤ q → A q := fun q h => by rw [hAe]; exact h
  have hbA : ¬ A b := by rw [hAe]; exact Nat.not_le.mpr hbl
  rw [← hAe] at hD hS
  refine lv_aload_n (pc := 160) hx hb d_law_law_160 rfl (lv_at hl 2 rfl) ?_
  refine lv_aload_n (pc := 161) hx hb d_law_law_161 rfl (lv_at hl 3 rfl) ?_
  refine lv_iload_n (pc := 162) hx hb d_law_law_162 rfl (lv_at hl 0 rfl) ?_
  refine lv_iconst (pc := 163) (v := 1) hx hb d_law_law_163 (by decide) ?_
  refine lv_iadd (pc := 164) hx hb d_law_law_164 ?_
  refine k_cst (v := 1) (by decide) ?_
  refine va_sld (pc := 165) hx hb hX hbl hbA hS (by unfold vp_in; decide) d_law_law_165 ?_
  refine k_cst (v := v1) hv1 ?_
  refine lv_aload_n (pc := 166) hx hb d_law_law_166 rfl (lv_at hl 3 rfl) ?_
  refine lv_iload_n (pc := 167) hx hb d_law_law_167 rfl (lv_at hl 0 rfl) ?_
  refine lv_iconst (pc := 168) (v := 2) hx hb d_law_law_168 (by decide) ?_
  refine lv_iadd (pc := 169) hx hb d_law_law_169 ?_
  refine k_cst (v := 2) (by decide) ?_
  refine va_sld (pc := 170) hx hb hX hbl hbA hS (by unfold vp_in; decide) d_law_law_170 ?_
  refine k_cst (v := v2) hv2 ?_
  refine lv_aload_n (pc := 171) hx hb d_law_law_171 rfl (lv_at hl 3 rfl) ?_
  refine lv_iload_n (pc := 172) hx hb d_law_law_172 rfl (lv_at hl 0 rfl) ?_
  refine lv_iconst (pc := 173) (v := 3) hx hb d_law_law_173 (by decide) ?_
  refine lv_iadd (pc := 174) hx hb d_law_law_174 ?_
  refine k_cst (v := 3) (by decide) ?_
  refine va_sld (pc := 175) hx hb hX hbl hbA hS (by unfold vp_in; decide) d_law_law_175 ?_
  refine k_cst (v := v3) hv3 ?_
  refine lv_aload_n (pc := 176) hx hb d_law_law_176 rfl (lv_at hl 3 rfl) ?_
  refine lv_iload_n (pc := 177) hx hb d_law_law_177 rfl (lv_at hl 0 rfl) ?_
  refine lv_iconst (pc := 178) (v := 4) hx hb d_law_law_178 (by decide) ?_
  refine lv_iadd (pc := 179) hx hb d_law_law_179 ?_
  refine k_cst (v := 4) (by decide) ?_
  refine va_sld (pc := 180) hx hb hX hbl hbA hS (by unfold vp_in; decide) d_law_law_180 ?_
  refine k_cst (v := v4) hv4 ?_
  refine lv_aload_n (pc := 181) hx hb d_law_law_181 rfl (lv_at hl 3 rfl) ?_
  refine lv_iload_n (pc := 182) hx hb d_law_law_182 rfl (lv_at hl 0 rfl) ?_
  refine lv_iconst (pc := 183) (v := 5) hx hb d_law_law_183 (by decide) ?_
  refine lv_iadd (pc := 184) hx hb d_law_law_184 ?_
  refine k_cst (v := 5) (by decide) ?_
  refine va_sld (pc := 185) hx hb hX hbl hbA hS (by unfold vp_in; decide) d_law_law_185 ?_
  refine k_cst (v := v5) hv5 ?_
  refine k_goI (gr := [[(h2, .inr (13, mF qm x0Mo y0Mo))], [(qm 1, .inl (kA 1, 2000, .inl (fun _ => 0)))]]) (k_rV (pc := 186) (As := [.int v1, .int v2, .int v3, .int v4, .int v5]) (rest := []) X (c_Ho_feed_z1 l D kA h v1 v2 v3 v4 v5 (q 0) (q 1) (q 2) (q 3) (q 4) (q 5) (q 6) (q 9) (q 10) (q 13) (qr 0) (qr 4) (qr 10) (fun _ => 0) H.size) rfl wm_622 wm_1 wm_619 wm_620 wm_621 5 (by decide +kernel) ⟨Nat.le_of_ble_eq_true rfl, Nat.le_of_ble_eq_true rfl⟩ rfl rfl (va_recv hK hP (ci := 12) (q0 := 0) rfl rfl) (k_pre hN hK hP hD [0, 1, 2] [3, 4] 5 rfl (by decide) rfl) rfl hl.1 rfl (Nat.le_of_ble_eq_true rfl) d_law_law_186 ⟨Nat.le_of_ble_eq_true rfl, Nat.le_of_ble_eq_true rfl⟩) hP hD hS hA [0, 1, 2] [3, 4] 5 rfl (by decide) rfl rfl (fun r1 u2 H locs hu2 hP hD hS => ?_)
  obtain ⟨hP, hD⟩ := k_left hP hD
  subst hu2
  have hP : va_P D classes (cat [[(h2, .inr (13, mF qm x0Mo y0Mo))], [(qm 1, .inl (kA 1, 2000, .inl (fun _ => 0)))]]) H := hP
  have hD : va_D A (cat [[(h2, .inr (13, mF qm x0Mo y0Mo))], [(qm 1, .inl (kA 1, 2000, .inl (fun _ => 0)))]]) := hD
  refine lv_aload_n (pc := 189) hx hb d_law_law_189 rfl (lv_at hl 1 rfl) ?_
  refine lv_aload_n (pc := 190) hx hb d_law_law_190 rfl (lv_at hl 3 rfl) ?_
  refine lv_iload_n (pc := 191) hx hb d_law_law_191 rfl (lv_at hl 0 rfl) ?_
  refine lv_iconst (pc := 192) (v := 1) hx hb d_law_law_192 (by decide) ?_
  refine lv_iadd (pc := 193) hx hb d_law_law_193 ?_
  refine k_cst (v := 1) (by decide) ?_
  refine va_sld (pc := 194) hx hb hX hbl hbA hS (by unfold vp_in; decide) d_law_law_194 ?_
  refine k_cst (v := v1) hv1 ?_
  refine lv_aload_n (pc := 195) hx hb d_law_law_195 rfl (lv_at hl 3 rfl) ?_
  refine lv_iload_n (pc := 196) hx hb d_law_law_196 rfl (lv_at hl 0 rfl) ?_
  refine lv_iconst (pc := 197) (v := 2) hx hb d_law_law_197 (by decide) ?_
  refine lv_iadd (pc := 198) hx hb d_law_law_198 ?_
  refine k_cst (v := 2) (by decide) ?_
  refine va_sld (pc := 199) hx hb hX hbl hbA hS (by unfold vp_in; decide) d_law_law_199 ?_
  refine k_cst (v := v2) hv2 ?_
  refine lv_aload_n (pc := 200) hx hb d_law_law_200 rfl (lv_at hl 3 rfl) ?_
  refine lv_iload_n (pc := 201) hx hb d_law_law_201 rfl (lv_at hl 0 rfl) ?_
  refine lv_iconst (pc := 202) (v := 3) hx hb d_law_law_202 (by decide) ?_
  refine lv_iadd (pc := 203) hx hb d_law_law_203 ?_
  refine k_cst (v := 3) (by decide) ?_
  refine va_sld (pc := 204) hx hb hX hbl hbA hS (by unfold vp_in; decide) d_law_law_204 ?_
  refine k_cst (v := v3) hv3 ?_
  refine lv_aload_n (pc := 205) hx hb d_law_law_205 rfl (lv_at hl 3 rfl) ?_
  refine lv_iload_n (pc := 206) hx hb d_law_law_206 rfl (lv_at hl 0 rfl) ?_
  refine lv_iconst (pc := 207) (v := 4) hx hb d_law_law_207 (by decide) ?_
  refine lv_iadd (pc := 208) hx hb d_law_law_208 ?_
  refine k_cst (v := 4) (by decide) ?_
  refine va_sld (pc := 209) hx hb hX hbl hbA hS (by unfold vp_in; decide) d_law_law_209 ?_
  refine k_cst (v := v4) hv4 ?_
  refine lv_aload_n (pc := 210) hx hb d_law_law_210 rfl (lv_at hl 3 rfl) ?_
  refine lv_iload_n (pc := 211) hx hb d_law_law_211 rfl (lv_at hl 0 rfl) ?_
  refine lv_iconst (pc := 212) (v := 5) hx hb d_law_law_212 (by decide) ?_
  refine lv_iadd (pc := 213) hx hb d_law_law_213 ?_
  refine k_cst (v := 5) (by decide) ?_
  refine va_sld (pc := 214) hx hb hX hbl hbA hS (by unfold vp_in; decide) d_law_law_214 ?_
  refine k_cst (v := v5) hv5 ?_
  refine k_goI (gr := []) (k_rV (pc := 215) (As := [.int v1, .int v2, .int v3, .int v4, .int v5]) (rest := [.int 20]) X (c_Mo_feed_z1 l D kA h2 v1 v2 v3 v4 v5 qm (fun _ => 0) H.size) rfl wm_2964 wm_9 wm_2961 wm_2962 wm_2963 5 (by decide +kernel) ⟨Nat.le_of_ble_eq_true rfl, Nat.le_of_ble_eq_true rfl⟩ rfl rfl (va_recv hK hP (ci := 13) (q0 := 0) rfl rfl) (k_pre hN hK hP hD [0, 1] [] 2 rfl (by decide) rfl) rfl hl.1 rfl (Nat.le_of_ble_eq_true rfl) d_law_law_215 ⟨Nat.le_of_ble_eq_true rfl, Nat.le_of_ble_eq_true rfl⟩) hP hD hS hA [0, 1] [] 2 rfl (by decide) rfl rfl (fun r3 u4 H locs hu4 hP hD hS => ?_)
  obtain ⟨hP, hD⟩ := k_left hP hD
  subst hu4
  have hP : va_P D classes (cat []) H := hP
  have hD : va_D A (cat []) := hD
  refine lv_icmp_eq (pc := 218) (tgt := 1295) hx hb d_law_law_218 (by decide) (fun _ => ?_) (fun c1 => absurd (by decide) c1)
  rw [hAe] at hS
  exact law_exit l C0 (Nat.le_of_ble_eq_true rfl) (Nat.le_of_ble_eq_true rfl) hS hl
set_option maxRecDepth 100000 in
set_option maxHeartbeats 8000000 in
/-- feed: the case of the law -/
theorem op_feed {p : Program} {e : Env} {s : State} {m : MethodId} {below : List Frame} {meth : Method} {c : Code} (l : Launch) {b : Nat} {xs : Nat → Int32} (C0 : lw_At p s m meth c b 6 xs) {D : va_G} {kA : Nat → ClassId} (h h2 : Nat) (u1 : Nat → Nat → Nat) (qm : Nat → Nat) (v1 : Int32) (v2 : Int32) (v3 : Int32) (v4 : Int32) (v5 : Int32) (hv1 : xs 1 = v1) (hv2 : xs 2 = v2) (hv3 : xs 3 = v3) (hv4 : xs 4 = v4) (hv5 : xs 5 = v5) {H : Heap} {locs : List Loc} {ls : Array Slot} (hK : va_K D classes (TY kA) s) (hN : nst s) (hpost : u1 50 1 = u1 0 4 ∧ u1 50 3 = u1 0 5 ∧ u1 50 2 = u1 1 4 ∧ u1 50 4 = u1 3 1 ∧ u1 8 0 = u1 50 5 ∧ u1 12 0 = u1 50 9 ∧ u1 16 0 = u1 50 13 ∧ u1 20 0 = u1 50 17) (hP : va_P D classes (cat [cat (sHo kA h u1), cat (sMo kA h2 qm)]) H) (hD : va_D (fun q : Nat => s.heap.size ≤ q) (cat [cat (sHo kA h u1), cat (sMo kA h2 qm)])) (hS : va_S (fun q : Nat => s.heap.size ≤ q) s.heap H locs) (hl : lv_has ls 4 [(3, .int 0), (2, .ref h2), (1, .ref h), (0, .ref b)]) : W p l e room_1 s m #[Value.ref b] below meth c H locs 368 365796 (lw_Z below #[Value.ref b] s) (F0 m 160 ls []) := by
  obtain ⟨q, qg, qf, qn, qd, qr, qs, qe, qp, g, hP, hD⟩ := big (j := 0) (by decide) hpost hP hD
  obtain ⟨hP, hD⟩ := k_drop (sg := bH kA h q qg qf qn qd qr qs qe qp g 0 ++ bM kA h2 qm) (gc := [[(h, .inr (12, [.ref (q 0), .ref (q 1), .ref (q 2), .ref (q 3), .ref (q 4), .ref (q 5), .ref (q 6), .int 0, .int ((-1)), .ref (q 9), .ref (q 10), .int 0, .int 0, .ref (q 13), .int 0, .int 0, .null, .null, .null, .null, .null]))], [(q 4, .inr (8, [.ref (qr 0), .int 0, .int ((-1)), .int ((-1)), .ref (qr 4), .int 0, .int 0, .int 0, .int 0, .int 0, .ref (qr 10), .int 0]))], [(qr 0, .inl (kA 1, 2000, .inl (fun _ => 0)))], [(h2, .inr (13, mF qm x0Mo y0Mo))], [(qm 1, .inl (kA 1, 2000, .inl (fun _ => 0)))]]) hP hD [1, 2, 3, 4, 5, 6, 7, 8, 9, 10, 11, 12, 13, 14, 15, 16, 17, 18, 19, 20, 21, 22, 23, 24, 25, 26, 27, 28, 29, 30, 31, 32, 33, 34, 35, 36, 37, 38, 39, 40, 41, 42, 43, 44, 45, 46, 47, 48, 49, 50, 51, 52, 53, 54, 55, 56, 57, 58, 61, 62, 63, 64, 65, 66, 67, 68, 69, 70, 71, 72, 73, 74, 75, 76, 77, 78, 79, 80, 81, 82, 83, 84, 85, 86, 87, 88, 89, 90, 91, 92, 93, 94, 95, 96, 97, 98, 100, 101, 102, 103, 104, 106, 107, 108, 109, 110, 111, 112, 113, 114, 115, 116, 117, 118, 119, 120, 121, 122, 123, 124, 125, 126, 127, 128, 129, 130, 131, 132, 133, 134, 135, 136, 137, 138, 139, 140, 141, 142, 143, 144, 145, 146, 147, 148, 149, 150, 151, 152, 153, 154, 155, 156, 157, 158, 159, 160, 161, 162, 163, 164, 165, 166, 167, 168, 169, 170, 171, 172, 173, 174, 175, 176, 177, 178, 179, 180, 181, 182, 183, 184, 185, 186, 187, 188, 189, 190, 191, 192, 193, 194, 195, 196, 197, 198, 199, 200, 201, 202, 203, 204, 205, 206, 207, 208, 209, 210, 211, 212, 213, 214, 215, 216, 217] [0, 59, 60, 99, 105] 218 rfl (by decide +kernel) rfl
  exact lf_feed_1 l C0 h h2 q qr qm v1 v2 v3 v4 v5 hv1 hv2 hv3 hv4 hv5 hK hN hP hD hS hl
