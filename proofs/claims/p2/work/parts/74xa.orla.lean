/-! a table that never changes, and what stands in it, exactly -/
section
variable {PQ : pq_T}
theorem cl_tintX {l : Launch} {D : va_G} {kA : Nat → ClassId} {G : List rg_T} {own : String} {r k : Nat} {L : List Int32} {lo hi plo phi : Int} (hr : r = 5400 ∧ L = ro_cnt ∨ r = 5401 ∧ L = ro_sta) (hg : G[r]? = none) (hp : 0 ≤ plo ∧ phi < 7) (hb : ((List.range 7).filter (fun j : Nat => decide (plo ≤ (j : Int)) && decide ((j : Int) ≤ phi))).all (fun j : Nat => decide (lo ≤ (L.getD j 0).toInt) && decide ((L.getD j 0).toInt ≤ hi)) = true) (hT : ∀ j : Nat, j < 7 → PQ.1 k (fun _ _ => 0) (fun _ _ _ => 0) [(j : Int), (L.getD j 0).toInt]) : cl_ok PQ l D kA G own .iaload 1 ([(2, 0, 0, [r]), (0, plo, phi, [])], some (0, lo, hi, []), true, 0, 0, 0, [], [], (0, [], [], [(20, [1, 2], [61, 0, (k : Int)])], [])) := by
  intro p e R s m args below meth c H locs cells slots Q cc pc nL ret nm A ws ta ls av gv hv rest X hK hN hA hP hD hS hth hag hgv hhv hpr hrest hfr hlo hce hsl hls hdec kk
  have hag' : ag_ok ta [(2, 0, 0, [r]), (0, plo, phi, [])] av := hag
  cases gv with
  | cons _ _ => exact hgv.elim
  | nil =>
  cases hv with
  | cons _ _ => exact hhv.elim
  | nil =>
  match av, hag' with
  | [v0, v1], ⟨h0, h1, _⟩ =>
    obtain ⟨x, rfl, x1, x2⟩ := tv_int h1 rfl
    have y1 : plo ≤ x.toInt := x1
    have y2 : x.toInt ≤ phi := x2
    have hx : 0 ≤ x.toInt := by omega
    obtain ⟨z1, z2, z3⟩ := in_nat (x := x) (n := 7) hx (by omega)
    have hm := List.all_eq_true.mp hb x.toInt.toNat (List.mem_filter.mpr ⟨List.mem_range.mpr (by omega), by simp only [Bool.and_eq_true, decide_eq_true_eq]; omega⟩)
    simp only [Bool.and_eq_true, decide_eq_true_eq] at hm
    have hq := hT x.toInt.toNat (by omega)
    have fin : ∀ v : Int32, v.toInt = (L.getD x.toInt.toNat 0).toInt → W p l e R s m args below meth c H locs cells slots Q (F0 m (pc + 1) ls (.int v :: rest)) := fun v ev => by
      refine kk ta ws H locs (some (.int v)) (fun _ _ q => q) hth hP hD hS (Or.inl ⟨rfl, _, rfl, by rw [ev]; exact hm⟩) ⟨fun f hf => ?_, Or.inl rfl⟩ (fun _ => rfl) kp_refl
      obtain rfl := List.mem_singleton.mp hf
      refine ⟨fun n hn => ?_, ?_⟩
      · have hn' : n ∈ [1, 2] := hn
        simp only [List.mem_cons, List.not_mem_nil, or_false] at hn'
        show n < 3
        omega
      · show PQ.1 ((k : Int)).toNat (fun _ _ => 0) (fun (i : Nat) (_ : Nat) (z : Int) => match ([1, 2].map (n_v ([v0, .int x] ++ [] ++ [] ++ (some (Value.int v)).toList)))[i]? with | some q => if i < (0 : Int).toNat then w_ei ws (v_ad q) z else 0 | none => 0) (([1, 2].map (n_v ([v0, .int x] ++ [] ++ [] ++ (some (Value.int v)).toList))).map v_iv)
        have ev2 : (fun (i : Nat) (_ : Nat) (z : Int) => match ([1, 2].map (n_v ([v0, .int x] ++ [] ++ [] ++ (some (Value.int v)).toList)))[i]? with | some q => if i < (0 : Int).toNat then w_ei ws (v_ad q) z else 0 | none => 0) = (fun _ _ _ => 0) := by
          funext i _ z
          cases ([1, 2].map (n_v ([v0, .int x] ++ [] ++ [] ++ (some (Value.int v)).toList)))[i]? with
          | none => rfl
          | some q => show (if i < 0 then _ else 0) = 0; rw [if_neg (by omega)]
        rw [ev2, Int.toNat_natCast]
        have el : (([1, 2].map (n_v ([v0, .int x] ++ [] ++ [] ++ (some (Value.int v)).toList))).map v_iv) = [((x.toInt.toNat : Nat) : Int), (L.getD x.toInt.toNat 0).toInt] := by
          show [x.toInt, v.toInt] = _
          rw [ev, show ((x.toInt.toNat : Nat) : Int) = x.toInt by omega]
        rw [el]; exact hq
    rw [ro_is hth hg h0]
    rcases hr with ⟨rfl, rfl⟩ | ⟨rfl, rfl⟩
    · exact va_ti X.1 X.2.1 hN.2.2.2.2.2.1.2 hS z1 rfl hdec (fin _ (by rw [z2]))
    · exact va_ti X.1 X.2.1 hN.2.2.2.2.2.2.2.1 hS z1 rfl hdec (fin _ (by rw [z2]))
end
theorem tbc_all : ∀ j : Nat, j < 7 → TBC (j : Int) ((ro_cnt.getD j 0).toInt) := by
  have : ∀ j : Nat, j < 7 → (ro_cnt.getD j 0).toInt = cof (j : Int) := by decide +kernel
  exact this
theorem tbs_all : ∀ j : Nat, j < 7 → TBS (j : Int) ((ro_sta.getD j 0).toInt) := by
  have : ∀ j : Nat, j < 7 → (ro_sta.getD j 0).toInt = sof (j : Int) := by decide +kernel
  exact this
