/-! canonical: the state, and one node less -/
def foll (n : Int) (pt ph rm rot : Int → Int) (nx : Int → Int → Int) : Prop := ∀ i, 0 ≤ i → i < n → ∀ k, 0 ≤ k → k < rm i → nx (acr pt ph (rt rot i k) i) i = acr pt ph (rt rot i (nr (rm i) k)) i
def lfn (n : Int) (left : Int → Int) (z : Int) : Prop := (0 ≤ z ∧ z < n) ∧ left z ≠ 0
def CNB (n m : Int) (pt ph al rm rot : Int → Int) : Prop := GRI n m pt ph al rm rot ∧ CON n m pt ph al ∧ FTR m pt ph al rm rot ∧ 3 ≤ n ∧ n ≤ 24
theorem ndt_ex {n m d : Int} {pt ph al rm rot : Int → Int} (hg : GOK n m pt ph) (hr : ROT n m pt ph al rm rot) (hd : liv m al d) : ∃ x, NDT m pt ph rm rot d x := by
  have jd := dart_J (pt := pt) (ph := ph) hd
  have rv := JJ_rng hg jd
  obtain ⟨r1, r2, r3, r4⟩ := hr.1 _ rv.2.2.1 rv.2.2.2
  obtain ⟨k, k0, k1, k2⟩ := r4 _ _ (JJ_sym _ _ _ jd)
  have z := nr_rng k0 k1
  obtain ⟨y, j⟩ := r2 _ z.1 z.2
  obtain ⟨x, x1, x2, x3⟩ := dart_of j
  have ex : x / 2 = rt rot (dto pt ph d) (nr (rm (dto pt ph d)) k) := by
    have jx := dart_J (pt := pt) (ph := ph) x1
    rw [x2, x3] at jx
    exact JJ_one hg jx j
  exact ⟨x, x1.1, x1.2.1, x2, k, k0, k1, k2, ex.symm⟩
theorem ftri_of {n m : Int} {pt ph al rm rot : Int → Int} {nx : Int → Int → Int} (hg : GOK n m pt ph) (hr : ROT n m pt ph al rm rot) (hf : FTR m pt ph al rm rot) (hq : foll n pt ph rm rot nx) : ftri (jA m pt ph al) nx := by
  intro a b ⟨e, j⟩
  have hE := eml_rot.2 hr
  obtain ⟨d, d1, d2, d3⟩ := dart_of j
  obtain ⟨x, hx⟩ := ndt_ex hg hr d1
  have lx := ndt_liv hg hE d1 hx
  obtain ⟨y, hy⟩ := ndt_ex hg hr lx
  have ly := ndt_liv hg hE lx hy
  have hz := hf d x y d1 hx hy
  have e1 := ndt_nx hg hE.1 hq d1 lx hx
  have e2 := ndt_nx hg hE.1 hq lx ly hy
  rw [d2, d3] at e1
  rw [hx.2.2.1, d3, e1] at e2
  rw [← e2, ← hz.2.2.1]; exact d2
theorem bdi (b : Bool) : b = false ∨ b = true := by cases b <;> simp
/-- the neighbours around x, of which those that are left stand in a row -/
theorem rev_y {n m upper p many at' : Int} {pt ph al rm rot U row : Int → Int} {nx : Int → Int → Int} {u v : Int} {lf : Int → Prop} {ω : Int → Int → Bool} (hg : GOK n m pt ph) (hr : ROT n m pt ph al rm rot) (hm : mp (jA m pt ph al) nx) (hq : foll n pt ph rm rot nx) (h0 : cnv0 u v upper U lf (jA m pt ph al)) (hw : cnvw (jA m pt ph al) nx u v upper U lf ω) (hp : 1 ≤ p) (hp1 : p + 1 < upper) (x0 : 0 ≤ U p) (x1 : U p < n)
    (hG : GTH (fun z => lf z ∧ z ≠ U p) (fun k => acr pt ph (rt rot (U p) k) (U p)) row (rm (U p)) many) (a0 : 0 ≤ at') (a1 : at' < many) (ha : row at' = U (p - 1)) :
    2 ≤ many ∧ (∀ t, 0 ≤ t → t < many → jA m pt ph al (row t) (U p) ∧ lf (row t)) ∧ (∀ t t', 0 ≤ t → t < t' → t' < many → row t ≠ row t') ∧
    ((row ((at' + (many - 1)) % many) = U (p + 1) ∧ ∀ i, 0 ≤ i → i + 1 < many → ω (row ((at' + i) % many)) (U p) = false ∧ nx (row ((at' + i) % many)) (U p) = row ((at' + i + 1) % many)) ∨
     (∃ tr, 0 ≤ tr ∧ tr < many ∧ row tr = U (p + 1) ∧ (tr + (many - 1)) % many = at' ∧ ∀ i, 0 ≤ i → i + 1 < many → ω (row ((tr + i) % many)) (U p) = false ∧ nx (row ((tr + i) % many)) (U p) = row ((tr + i + 1) % many))) := by
  obtain ⟨hR1, _⟩ := hr
  obtain ⟨r1, r2, r3, r4⟩ := hR1 (U p) x0 x1
  have irr := JJ_irr (al := al) hg
  obtain ⟨w0, w1, w2, w3, w4, w5⟩ := hw
  have hA : ∀ k, 0 ≤ k → k < rm (U p) → jA m pt ph al (acr pt ph (rt rot (U p) k) (U p)) (U p) := fun k k0 k1 => by
    obtain ⟨y, j⟩ := r2 k k0 k1
    rw [acr_is (irr _ _ _ j) j]; exact ⟨_, JJ_sym _ _ _ j⟩
  have pos : ∀ z, jA m pt ph al z (U p) → ∃ k, 0 ≤ k ∧ k < rm (U p) ∧ acr pt ph (rt rot (U p) k) (U p) = z := fun z ⟨e, j⟩ => by
    obtain ⟨k, k0, k1, k2⟩ := r4 e z (JJ_sym _ _ _ j)
    exact ⟨k, k0, k1, by rw [k2]; exact acr_is (irr _ _ _ (JJ_sym _ _ _ j)) (JJ_sym _ _ _ j)⟩
  have einj : ∀ a b, 0 ≤ a → a < rm (U p) → 0 ≤ b → b < rm (U p) → acr pt ph (rt rot (U p) a) (U p) = acr pt ph (rt rot (U p) b) (U p) → a = b := fun a b a0 a1 b0 b1 z => by
    obtain ⟨y, j⟩ := r2 a a0 a1
    obtain ⟨y', j'⟩ := r2 b b0 b1
    have w := acr_inj hg j j' z
    rcases Int.lt_trichotomy a b with t | t | t
    · exact absurd w (r3 a b a0 t b1)
    · exact t
    · exact absurd w.symm (r3 b a b0 t a1)
  have hG' := hG
  obtain ⟨g1, g2, κ, g3, g4, g5⟩ := hG
  have rowA : ∀ t, 0 ≤ t → t < many → jA m pt ph al (row t) (U p) ∧ lf (row t) := fun t t0 t1 => by
    obtain ⟨q1, q2, q3, q4⟩ := g3 t t0 t1
    rw [q3]; exact ⟨hA _ q1 q2, q4.1⟩
  have rowD : ∀ t t', 0 ≤ t → t < t' → t' < many → row t ≠ row t' := fun t t' t0 tt t1 z => by
    obtain ⟨q1, q2, q3, q4⟩ := g3 t t0 (by omega)
    obtain ⟨s1, s2, s3, s4⟩ := g3 t' (by omega) t1
    rw [q3, s3] at z
    have := einj _ _ q1 q2 s1 s2 z
    have := g4 t t' t0 tt t1
    omega
  have hl0 := h0.2.2.2.1
  have hne : U (p - 1) ≠ U (p + 1) := h0.2.2.2.2.1 _ _ (by omega) (by omega) (by omega)
  have hl : jA m pt ph al (U (p - 1)) (U p) := by have := h0.2.2.2.2.2.1 (p - 1) (by omega) (by omega); rw [show p - 1 + 1 = p by omega] at this; exact this
  have hrr : jA m pt ph al (U (p + 1)) (U p) := hm.1.1 _ _ (h0.2.2.2.2.2.1 p (by omega) (by omega))
  have nxt : ∀ w, jA m pt ph al w (U p) → ω (nx w (U p)) (U p) = (ω w (U p) ^^ pb (Lam u v upper U (nx w (U p)) (U p))) := fun w h => w_next hm w0 w1 h
  have lam : ∀ z, Lam u v upper U z (U p) ↔ z = U (p - 1) ∨ z = U (p + 1) := fun z => lam_at h0 hp hp1
  have Flf : ∀ w, jA m pt ph al w (U p) → ω w (U p) = false → lf w := fun w h q => Classical.byContradiction (fun z => by
    have := (w2 _ _ (hm.1.1 _ _ h) z).2
    rw [this] at q; exact absurd q (by decide))
  have inrow : ∀ w, jA m pt ph al w (U p) → lf w → ∃ t, 0 ≤ t ∧ t < many ∧ row t = w := fun w h q => by
    obtain ⟨k, k0, k1, k2⟩ := pos w h
    obtain ⟨t, t0, t1, t2⟩ := g5 k k0 k1 ⟨by show lf (acr pt ph (rt rot (U p) k) (U p)); rw [k2]; exact q, by show acr pt ph (rt rot (U p) k) (U p) ≠ U p; rw [k2]; obtain ⟨e, j⟩ := h; exact irr _ _ _ j⟩
    exact ⟨t, t0, t1, by rw [(g3 t t0 t1).2.2.1, t2]; exact k2⟩
  have lUp : lf (U p) := hl0 p (by omega) (by omega)
  -- the stretch, from one neighbour on the line to the other
  have core : ∀ s e ts, (s = U (p - 1) ∧ e = U (p + 1)) ∨ (s = U (p + 1) ∧ e = U (p - 1)) → 0 ≤ ts → ts < many → row ts = s → ω s (U p) = false →
      (∀ i, 0 ≤ i → i + 1 < many → ω (row ((ts + i) % many)) (U p) = false ∧ nx (row ((ts + i) % many)) (U p) = row ((ts + i + 1) % many)) ∧ row ((ts + (many - 1)) % many) = e ∧ 2 ≤ many := by
    intro s e ts hse ts0 ts1 hts hs
    have hsA : jA m pt ph al s (U p) := by rcases hse with ⟨z, _⟩ | ⟨z, _⟩ <;> rw [z] <;> assumption
    have heA : jA m pt ph al e (U p) := by rcases hse with ⟨_, z⟩ | ⟨_, z⟩ <;> rw [z] <;> assumption
    have hsl : ∀ z, Lam u v upper U z (U p) ↔ z = s ∨ z = e := fun z => by
      rw [lam z]
      rcases hse with ⟨a, b⟩ | ⟨a, b⟩
      · rw [a, b]
      · rw [a, b]; exact ⟨Or.symm, Or.symm⟩
    have hse' : s ≠ e := by rcases hse with ⟨a, b⟩ | ⟨a, b⟩ <;> omega
    have hlfe : lf e := by rcases hse with ⟨_, b⟩ | ⟨_, b⟩ <;> rw [b] <;> exact hl0 _ (by omega) (by omega)
    -- e is on the other side
    have he : ω e (U p) = true := by
      rcases bdi (ω e (U p)) with hb | hb
      · exfalso
        obtain ⟨ks, ks0, ks1, ks2⟩ := pos s hsA
        obtain ⟨kp, kp0, kp1, kp2⟩ : ∃ kp, 0 ≤ kp ∧ kp < rm (U p) ∧ nr (rm (U p)) kp = ks := by
          by_cases z : ks = 0
          · exact ⟨rm (U p) - 1, by omega, by omega, by rw [nr_eq (by omega), z]⟩
          · exact ⟨ks - 1, by omega, by omega, by rw [nr_lt (by omega)]; omega⟩
        have f1 := hq (U p) x0 x1 kp kp0 kp1
        rw [kp2, ks2] at f1
        have cl := hm.2.2.2 (U p) (fun w => ω w (U p) = false) (fun w hw' q => by
          have w' := nxt w hw'
          rcases bdi (pb (Lam u v upper U (nx w (U p)) (U p))) with hx | hx
          · rw [q, hx] at w'; exact w'
          · exfalso
            rw [q, hx] at w'
            rcases (hsl _).1 (pb_i hx) with z | z
            · rw [z, hs] at w'; exact absurd w' (by decide)
            · rw [z, hb] at w'; exact absurd w' (by decide)) s _ hsA (hA kp kp0 kp1) hs
        have w' := nxt _ (hA kp kp0 kp1)
        rw [f1, hs, cl, pb_t ((hsl s).2 (Or.inl rfl))] at w'
        exact absurd w' (by decide)
      · exact hb
    have hst : ∀ t, 0 ≤ t → t < many → (jA m pt ph al (row t) (U p) ∧ ω (row t) (U p) = false) → row ((t + 1) % many) = nx (row t) (U p) := fun t t0 t1 ⟨q1, q2⟩ => by
      obtain ⟨z1, z2, z3', z4⟩ := g3 t t0 t1
      have z3 : row t = acr pt ph (rt rot (U p) (κ t)) (U p) := z3'
      have f1 := hq (U p) x0 x1 (κ t) z1 z2
      rw [← z3] at f1
      have zr := nr_rng z1 z2
      have hA' : jA m pt ph al (nx (row t) (U p)) (U p) := hm.1.1 _ _ (hm.2.1 _ _ q1)
      have lfn' : lf (nx (row t) (U p)) := by
        rcases bdi (ω (nx (row t) (U p)) (U p)) with hx | hx
        · exact Flf _ hA' hx
        · have w' := nxt (row t) q1
          rcases bdi (pb (Lam u v upper U (nx (row t) (U p)) (U p))) with hy | hy
          · rw [hx, q2, hy] at w'; exact absurd w' (by decide)
          · rcases (hsl _).1 (pb_i hy) with z | z
            · rw [z, ← hts]; exact (rowA ts ts0 ts1).2
            · rw [z]; exact hlfe
      have nep : nx (row t) (U p) ≠ U p := by obtain ⟨e, j⟩ := hA'; exact irr _ _ _ j
      have := gth_next hG' t0 t1 (κt := κ t) z3 z1 z2 einj rfl (by
        show lf (acr pt ph (rt rot (U p) (nr (rm (U p)) (κ t))) (U p)) ∧ acr pt ph (rt rot (U p) (nr (rm (U p)) (κ t))) (U p) ≠ U p
        rw [← f1]; exact ⟨lfn', nep⟩)
      rw [this]; exact f1.symm
    have st := stretch (many := many) (at' := ts) (s := s) (e := e) (row := row) (nxx := fun w => nx w (U p)) (F := fun w => jA m pt ph al w (U p) ∧ ω w (U p) = false) rowD ts0 ts1 hts ⟨hsA, hs⟩ (fun z => by rw [he] at z; exact absurd z.2 (by decide))
      (fun t t0 t1 => by
        obtain ⟨q1, q2⟩ := rowA t t0 t1
        rcases bdi (ω (row t) (U p)) with hx | hx
        · exact Or.inl ⟨q1, hx⟩
        · rcases (hsl _).1 (w5 _ _ q1 q2 lUp hx) with z | z
          · rw [z, hs] at hx; exact absurd hx (by decide)
          · exact Or.inr z)
      (inrow e heA hlfe) hst
      (fun L Ls hL w ⟨hw', q⟩ => by
        have cl := hm.2.2.2 (U p) (fun z => ω z (U p) = true ∨ L z) (fun z hz hq' => by
          have hA' : jA m pt ph al (nx z (U p)) (U p) := hm.1.1 _ _ (hm.2.1 _ _ hz)
          rcases bdi (ω (nx z (U p)) (U p)) with hx | hx
          · rcases bdi (ω z (U p)) with hb | hb
            · rcases hq' with y | y
              · rw [hb] at y; exact absurd y (by decide)
              · exact Or.inr (hL z ⟨hz, hb⟩ y ⟨hA', hx⟩)
            · have w' := nxt z hz
              rcases bdi (pb (Lam u v upper U (nx z (U p)) (U p))) with hy | hy
              · rw [hx, hb, hy] at w'; exact absurd w' (by decide)
              · rcases (hsl _).1 (pb_i hy) with y | y
                · rw [y]; exact Or.inr Ls
                · rw [y, he] at hx; exact absurd hx (by decide)
          · exact Or.inl hx) s w hsA hw' (Or.inr Ls)
        rcases cl with y | y
        · rw [q] at y; exact absurd y (by decide)
        · exact y)
    refine ⟨fun i i0 i1 => ?_, st.2.1, st.2.2⟩
    have F := st.1 i i0 i1
    have rg : 0 ≤ (ts + i) % many ∧ (ts + i) % many < many := ⟨Int.emod_nonneg _ (by omega), Int.emod_lt_of_pos _ (by omega)⟩
    refine ⟨F.2, ?_⟩
    rw [← hst _ rg.1 rg.2 F, Int.emod_add_emod]
  have hlA := hl
  rcases bdi (ω (U (p - 1)) (U p)) with hx | hx
  · obtain ⟨c1, c2, c3⟩ := core _ _ at' (Or.inl ⟨rfl, rfl⟩) a0 a1 ha hx
    exact ⟨c3, rowA, rowD, Or.inl ⟨c2, c1⟩⟩
  · -- then the other one is inside
    have hx2 : ω (U (p + 1)) (U p) = false := by
      rcases bdi (ω (U (p + 1)) (U p)) with hb | hb
      · exact hb
      · exfalso
        obtain ⟨ks, ks0, ks1, ks2⟩ := pos _ hl
        obtain ⟨kp, kp0, kp1, kp2⟩ : ∃ kp, 0 ≤ kp ∧ kp < rm (U p) ∧ nr (rm (U p)) kp = ks := by
          by_cases z : ks = 0
          · exact ⟨rm (U p) - 1, by omega, by omega, by rw [nr_eq (by omega), z]⟩
          · exact ⟨ks - 1, by omega, by omega, by rw [nr_lt (by omega)]; omega⟩
        have f1 := hq (U p) x0 x1 kp kp0 kp1
        rw [kp2, ks2] at f1
        have cl := hm.2.2.2 (U p) (fun w => ω w (U p) = true) (fun w hw' q => by
          have w' := nxt w hw'
          rcases bdi (pb (Lam u v upper U (nx w (U p)) (U p))) with hy | hy
          · rw [q, hy] at w'; exact w'
          · exfalso
            rw [q, hy] at w'
            rcases (lam _).1 (pb_i hy) with z | z
            · rw [z, hx] at w'; exact absurd w' (by decide)
            · rw [z, hb] at w'; exact absurd w' (by decide)) _ _ hl (hA kp kp0 kp1) hx
        have w' := nxt _ (hA kp kp0 kp1)
        rw [f1, hx, cl, pb_t ((lam _).2 (Or.inl rfl))] at w'
        exact absurd w' (by decide)
    obtain ⟨tr, tr0, tr1, tr2⟩ := inrow _ hrr (hl0 _ (by omega) (by omega))
    obtain ⟨c1, c2, c3⟩ := core _ _ tr (Or.inr ⟨rfl, rfl⟩) tr0 tr1 tr2 hx2
    have rg : 0 ≤ (tr + (many - 1)) % many ∧ (tr + (many - 1)) % many < many := ⟨Int.emod_nonneg _ (by omega), Int.emod_lt_of_pos _ (by omega)⟩
    have ea : (tr + (many - 1)) % many = at' := by
      rcases Int.lt_trichotomy ((tr + (many - 1)) % many) at' with z | z | z
      · exact absurd (c2.trans ha.symm) (rowD _ _ rg.1 z a1)
      · exact z
      · exact absurd (ha.trans c2.symm) (rowD _ _ a0 z rg.2)
    exact ⟨c3, rowA, rowD, Or.inr ⟨tr, tr0, tr1, tr2, ea, c1⟩⟩
