/-! blocks hang together, and meet the rest in one node of each part of it -/
theorem blk_con {J : pj_T} {bl : Int → Int} (hs : jsym J) (hu : juni J) (hB : isBl J bl) {b i j e f x y : Int} (he : J e i x) (hf : J f j y) (be : bl e = b) (bf : bl f = b) : rc (fun u v => ∃ g, J g u v ∧ bl g = b) i j := by
  have st : ∀ {g u v}, J g u v → bl g = b → rc (fun u v => ∃ g, J g u v ∧ bl g = b) u v := fun h1 h2 => rc_step ⟨_, h1, h2⟩
  have key := hB.2 (fun g => bl g = b → ∀ u v, J g u v → rc (fun u v => ∃ g, J g u v ∧ bl g = b) i u) (fun g h ⟨v, p, q, h1, h2, h3⟩ cg bh u w hw => ?_) e f ⟨i, x, he⟩ ⟨j, y, hf⟩ (be.trans bf.symm) (fun _ u v hv => ?_)
  · exact key bf j y hf
  · have bg : bl g = b := (hB.1 g h ⟨v, p, q, h1, h2, h3⟩).trans bh
    have rv := cg bg v p h1
    rcases hu h v q u w h2 hw with ⟨a, _⟩ | ⟨a, _⟩
    · rw [a]; exact rv
    · rw [a]; exact rc_trans rv (st h2 bh)
  · rcases hu e i x u v he hv with ⟨a, _⟩ | ⟨a, _⟩
    · rw [a]; exact rc_refl _ _
    · rw [a]; exact st he be
/-- a way into i from j: its last step, away from i before -/
theorem last_in {J : pj_T} {R : Int → Int → Prop} (hR : ∀ a b, R a b → ∃ g, J g a b) {i j : Int} (hij : j ≠ i) (h : rc R j i) : ∃ x, x ≠ i ∧ R x i ∧ cnA J i j x := by
  apply Classical.byContradiction
  intro hn
  have := h (fun x => x ≠ i ∧ cnA J i j x) (fun a c hac ha => ?_) ⟨hij, rc_refl _ _⟩
  · exact this.1 rfl
  · by_cases q : c = i
    · subst q; exact absurd ⟨a, ha.1, hac, ha.2⟩ hn
    · obtain ⟨g, hg⟩ := hR a c hac
      exact ⟨q, rc_trans ha.2 (rc_step ⟨⟨g, hg⟩, ha.1, q⟩)⟩
theorem blk_meet {J : pj_T} {bl : Int → Int} (hs : jsym J) (hu : juni J) (hB : isBl J bl) {b i j e f x y : Int} (he : J e i x) (hf : J f j y) (be : bl e = b) (bf : bl f = b) (h : rc (fun u v => ∃ g, J g u v ∧ bl g ≠ b) i j) : i = j := by
  apply Classical.byContradiction
  intro hij
  have hij' : j ≠ i := fun z => hij z.symm
  have h1 := rc_symm (fun a c ⟨g, g1, g2⟩ => ⟨g, hs _ _ _ g1, g2⟩) h
  have h2 := rc_symm (fun a c ⟨g, g1, g2⟩ => ⟨g, hs _ _ _ g1, g2⟩) (blk_con hs hu hB he hf be bf)
  obtain ⟨p, p1, ⟨g, g1, g2⟩, p3⟩ := last_in (J := J) (fun a c ⟨g, z, _⟩ => ⟨g, z⟩) hij' h1
  obtain ⟨q, q1, ⟨k, k1, k2⟩, q3⟩ := last_in (J := J) (fun a c ⟨g, z, _⟩ => ⟨g, z⟩) hij' h2
  have hc : cnA J i p q := rc_trans (rc_symm (sv_sym hs i) p3) q3
  exact g2 ((hB.1 g k ⟨i, p, q, hs _ _ _ g1, hs _ _ _ k1, hc⟩).trans k2)
/-! behind -/
def FMB (faces : Int) (fm : Int → Int) : Prop := ∀ f, 0 ≤ f → f < faces → 3 ≤ fm f ∧ fm f ≤ 25
def bhd (fm face : Int → Int) (u i r f k : Int) : Prop := rwf face f k = u ∧ rwf face f (nr (fm f) k) = i ∧ rwf face f (nr (fm f) (nr (fm f) k)) = r
def bh2 (fm face : Int → Int) (u i f k : Int) : Prop := rwf face f k = u ∧ rwf face f (nr (fm f) k) = i
def BHP (faces : Int) (fm face : Int → Int) (u i r : Int) : Prop := ∃ f k, 0 ≤ f ∧ f < faces ∧ 0 ≤ k ∧ k < fm f ∧ bhd fm face u i r f k
def BHE (faces : Int) (fm face : Int → Int) (u i : Int) : Prop := ∃ f k, 0 ≤ f ∧ f < faces ∧ 0 ≤ k ∧ k < fm f ∧ bh2 fm face u i f k
def BH1 (fm face : Int → Int) (u i F : Int) : Prop := ∀ f k, 0 ≤ f → f < F → 0 ≤ k → k < fm f → ¬ bh2 fm face u i f k
def BH2 (fm face : Int → Int) (u i F K : Int) : Prop := BH1 fm face u i F ∧ ∀ k, 0 ≤ k → k < K → ¬ bh2 fm face u i F k
theorem nr_m1 {L k : Int} (h0 : 0 ≤ k) (h1 : k < L) : (k + 1) % L = nr L k := by
  unfold nr
  split
  · next h => rw [h, Int.emod_self]
  · exact Int.emod_eq_of_lt (by omega) (by omega)
theorem nr_m2 {L k : Int} (h0 : 0 ≤ k) (h1 : k < L) (hL : 2 ≤ L) : (k + 2) % L = nr L (nr L k) := by
  unfold nr
  by_cases q : k + 1 = L
  · rw [if_pos q, if_neg (by omega), show k + 2 = 1 + L by omega, Int.add_emod_right, Int.emod_eq_of_lt (by omega) (by omega)]; omega
  · rw [if_neg q]
    by_cases q2 : k + 1 + 1 = L
    · rw [if_pos q2, show k + 2 = L by omega, Int.emod_self]
    · rw [if_neg q2, Int.emod_eq_of_lt (by omega) (by omega)]; omega
