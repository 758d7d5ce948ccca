/-! embed -/
def E0 (rm : Int → Int) (i : Int) : Prop := ∀ j, 0 ≤ j → j < i → rm j = 0
def EMQ (n m : Int) (pt ph al bl rm rot : Int → Int) (r : Int) : Prop := r ≠ 0 → ∃ many b, BK m pt ph al bl many ∧ many ≤ b ∧ EMI n m pt ph al bl rm rot b
theorem emi_0 {n m : Int} {pt ph al bl rm rot : Int → Int} {many i b : Int} (hB : BK m pt ph al bl many) (h : E0 rm i) (hi : n ≤ i) (hb : b = 0) : EMI n m pt ph al bl rm rot b := by
  subst hb
  have no : ∀ u v, ¬ lA m pt ph al bl 0 u v := fun u v ⟨e, j, z⟩ => by have := ((hB.2.2.1 e j.1 j.2.1).1 j.2.2.1).1; omega
  refine ⟨fun j j0 j1 => ?_, fun u _ => u, fun _ _ _ => false, ⟨⟨fun u v h => absurd h (no u v), fun u v h => absurd h (no u v)⟩, fun u v h => absurd h (no u v), fun u u' v h => absurd h (no u v), fun v L hL u u' h => absurd h (no u v)⟩, fun u v h => absurd h (no u v), fun j j0 j1 k k0 k1 => ?_⟩
  · have z := h j j0 (by omega)
    exact ⟨by omega, fun k k0 k1 => by omega, fun k l k0 k1 k2 => by omega, fun e x je be => absurd ⟨e, je, be⟩ (no j x)⟩
  · have z := h j j0 (by omega); omega
theorem mid_0 {n m faces : Int} {pt ph al bl fm face rm rot : Int → Int} {b i : Int} (h : EMI n m pt ph al bl rm rot b) (hi : i = 0) : MID n m faces pt ph al bl fm face rm rot b i := by
  subst hi
  exact ⟨rm, rot, h, fun i i0 i1 => by omega, fun i i0 i1 i2 => ⟨⟨rfl, (h.1 i i0 i2).1.2⟩, fun k k0 k1 => rfl⟩⟩
theorem mid_n {n m faces : Int} {pt ph al bl fm face rm rot : Int → Int} {b i : Int} (h : MID n m faces pt ph al bl fm face rm rot b i) (hi : n ≤ i) : MID n m faces pt ph al bl fm face rm rot b n := by
  obtain ⟨rm0, rot0, h1, h2, h3⟩ := h
  exact ⟨rm0, rot0, h1, fun j j0 j1 j2 => h2 j j0 (by omega) j2, fun j j0 j1 j2 => by omega⟩
theorem emi_nx {n m faces : Int} {pt ph al bl fm face rm rot : Int → Int} {b b' i many : Int} (hg : GOK n m pt ph) (hB : BK m pt ph al bl many) (hD : DRB m faces pt ph al bl fm face b) (h : MID n m faces pt ph al bl fm face rm rot b i) (hi : n ≤ i) (hb : b' = b + 1) : EMI n m pt ph al bl rm rot b' := by
  subst hb; exact emi_step hg hB hD (mid_n h hi)
theorem mie_mid {n m faces : Int} {pt ph al bl fm face rm rot : Int → Int} {b i i' : Int} (h : MIE n m faces pt ph al bl fm face rm rot b i) (hi : i' = i + 1) : MID n m faces pt ph al bl fm face rm rot b i' := by
  subst hi; exact h
theorem drb_of {m faces : Int} {pt ph al bl fm face : Int → Int} {b r : Int} (h : DRQ m faces pt ph al bl fm face b r) (hr : r ≠ 0) : DRB m faces pt ph al bl fm face b := h hr
