theorem k_tsw (x : Int32) (n : Nat) (hn : n < 1000) : (x.toInt < 0 ∨ ((n : Int) - 1 < x.toInt)) ∨ ∃ j : Nat, j < n ∧ x = nI j := by
  by_cases h : x.toInt < 0
  · exact Or.inl (Or.inl h)
  · by_cases h2 : (n : Int) - 1 < x.toInt
    · exact Or.inl (Or.inr h2)
    · refine Or.inr ⟨x.toInt.toNat, by omega, ?_⟩
      refine Int32.toInt_inj.mp ?_
      rw [nI_toInt (by omega)]
      omega
theorem k_tne {x : Int32} {n : Nat} (h : x.toInt < 0 ∨ ((n : Int) - 1 < x.toInt)) (k : Nat) {v : Int32} (hk : (k : Int) ≤ (n : Int) - 1 ∧ v.toInt = k := by decide) : ¬ x = v := fun e => by
  rw [e, hk.2] at h
  omega
section K4L
variable {p : Program} {l : Launch} {e : Env} {R : Room} {s : State} {m : MethodId} {args : Array Value} {below : List Frame} {meth : Method} {c : Code} {H : Heap} {locs : List Loc} {cells slots : Nat} {Q : State → Prop} {pc : Nat} {ls : Array Slot} {rest : List Value}
theorem k_cst {x v : Int32} (h : x = v) (k : W p l e R s m args below meth c H locs cells slots Q (F0 m pc ls (.int v :: rest))) : W p l e R s m args below meth c H locs cells slots Q (F0 m pc ls (.int x :: rest)) := h ▸ k
end K4L
