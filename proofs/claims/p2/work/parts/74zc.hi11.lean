section HI11
variable {kA : Nat → ClassId} {G : List rg_T} {ta : Nat → Option Nat} {ws : va_W} {fs : List Nat} {em pr ng : Nat}
/-- the embedder and its own net are in its part -/
theorem em_self (hD : va_D (fun _ => True) ws) (hth : th_ok kA G ta ws) (hc : em_chk G = true) (hem : ta em = some 1) (hpr : ta pr = some 149) : em_P kA ta ws (fs ++ [em, pr]) em pr ng em = true ∧ em_P kA ta ws (fs ++ [em, pr]) em pr ng pr = true := by
  obtain ⟨g1, g2, q1, q2, q3, q4, q5, q6, _, _⟩ := em_f hc
  refine ⟨em_P_iff.mpr ⟨fr_P_iff.mpr (Or.inr (Or.inl (List.mem_append_right _ List.mem_cons_self))), fun ⟨x1, _, _, _⟩ => ?_⟩, em_P_iff.mpr ⟨fr_P_iff.mpr (Or.inr (Or.inl (List.mem_append_right _ (List.mem_cons_of_mem _ List.mem_cons_self)))), fun ⟨_, _, x3, _⟩ => x3 rfl⟩⟩
  obtain ⟨t, r, t1, t2, t3⟩ := fd_ref hD hth hem q1 q2 x1
  rw [hem] at t2
  obtain rfl := Option.some.inj t2
  rcases q5 0 t t1 with ⟨_, z⟩ | ⟨z, _⟩ | z
  · rcases z with z | z <;> subst z <;> exact absurd t3 (by decide)
  · cases z
  · exact (z 1 t3).2.1 rfl
end HI11
