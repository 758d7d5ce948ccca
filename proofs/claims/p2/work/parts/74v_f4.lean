/-! a new edge across a corner of a face; a new edge between two parts -/
theorem rot_chord {n m a c d x ka kc : Int} {pt ph al rm0 rot0 rm rot : Int → Int} (hg : GOK n (m + 1) pt ph) (m0 : 0 ≤ m) (m1 : m + 1 ≤ 80) (hal : al m = 1) (ht : pt m = a) (hh : ph m = c) (hR : ROT n m pt ph al rm0 rot0) (hd : liv m al d) (hN : NDT m pt ph rm0 rot0 d x) (da : dfr pt ph d = a) (xc : dto pt ph x = c) (hI : INS2 rm0 rot0 rm rot a c m ka kc) (ka1 : ka < rm0 a) (pa : rt rot0 a ka = d / 2) (kc0 : 1 ≤ kc) (pc : rt rot0 c (kc - 1) = x / 2) : ROT n (m + 1) pt ph al rm rot := by
  have hrow := rows_new2 hg m0 m1 hal ht hh hR hI
  have hgm : GOK n m pt ph := ⟨fun e e0 e1 => hg.1 e e0 (by omega), fun e f e0 ef f1 => hg.2 e f e0 ef (by omega)⟩
  obtain ⟨hR1, nx, ρ, q1, q2, q3⟩ := hR
  have ge := hg.1 m m0 (by omega)
  rw [ht, hh] at ge
  obtain ⟨⟨a1, a2⟩, ⟨c1, c2⟩, o1⟩ := hI
  have irr := JJ_irr (al := al) hgm
  have irr' := JJ_irr (al := al) hg
  have hE : EML n m pt ph al rm0 rot0 := eml_rot.2 ⟨hR1, nx, ρ, q1, q2, q3⟩
  have hx := ndt_liv hgm hE hd hN
  have jd := dart_J (pt := pt) (ph := ph) hd
  have jx := dart_J (pt := pt) (ph := ph) hx
  have hbx : dfr pt ph x = dto pt ph d := hN.2.2.1
  rw [da] at jd
  rw [xc, hbx] at jx
  -- the step from a over b to c
  have hnac : nx a (dto pt ph d) = c := by
    have := ndt_nx hgm hE.1 (fun i i0 i1 k k0 k1 => q3 i i0 i1 k k0 k1) hd hx hN
    rw [da, xc] at this; exact this.symm
  generalize hb : dto pt ph d = b at *
  have hab : jA m pt ph al a b := ⟨_, jd⟩
  have hbc : jA m pt ph al b c := ⟨_, jx⟩
  have nac : ¬ jA m pt ph al a c := fun ⟨e, j⟩ => by
    have w := hg.2 e m j.1 j.2.1 (by omega)
    rw [ht, hh] at w
    rcases j.2.2.2 with ⟨z1, z2⟩ | ⟨z1, z2⟩
    · exact w (Or.inl ⟨z1, z2⟩)
    · exact w (Or.inr ⟨z1, z2⟩)
  -- who stands ahead of b around a
  have ra := hR1 a ge.1 ge.2.1
  have rc' := hR1 c ge.2.2.1 ge.2.2.2.1
  have hpr : ∃ kp, 0 ≤ kp ∧ kp < rm0 a ∧ nr (rm0 a) kp = ka := by
    by_cases z : ka = 0
    · exact ⟨rm0 a - 1, by omega, by omega, by rw [nr_eq (by omega), z]⟩
    · exact ⟨ka - 1, by have := a2.1; omega, by omega, by rw [nr_lt (by omega)]; omega⟩
  obtain ⟨kp, kp0, kp1, kp2⟩ := hpr
  obtain ⟨p, jp⟩ := ra.2.1 kp kp0 kp1
  have ep : acr pt ph (rt rot0 a kp) a = p := acr_is (irr _ _ _ jp) jp
  have eb : acr pt ph (rt rot0 a ka) a = b := by rw [pa]; exact acr_is (irr _ _ _ jd) jd
  have hpa : jA m pt ph al p a := ⟨_, JJ_sym _ _ _ jp⟩
  have hpn : nx p a = b := by
    have := q3 a ge.1 ge.2.1 kp kp0 kp1
    rw [ep, kp2, eb] at this; exact this
  have ecb : acr pt ph (rt rot0 c (kc - 1)) c = b := by rw [pc]; exact acr_is (irr _ _ _ (JJ_sym _ _ _ jx)) (JJ_sym _ _ _ jx)
  have hab' : a ≠ b := irr _ _ _ jd
  have hbc' : b ≠ c := irr _ _ _ jx
  have hcp : c ≠ p := fun z => nac (by rw [z]; exact q1.1.1 _ _ hpa)
  have eAc : acr pt ph m a = c := by unfold acr; rw [if_pos ht]; exact hh
  have eCa : acr pt ph m c = a := by unfold acr; rw [if_neg (by omega)]; exact ht
  have hmp := chord_mp q1 hpa hbc nac ge.2.2.2.2
  have hpl := chord_pls (x := fun t => if t = 0 then a else if t = 1 then b else c) (n := 2) q1 q2 hpa hbc nac ge.2.2.2.2 (by omega) rfl (by rw [hpn]; rfl) rfl rfl (fun i hi => by
      rcases (by omega : i = 0 ∨ i = 1) with z | z
      · subst z; exact hab
      · subst z; exact hbc) (fun i hi => by
      have : i = 0 := by omega
      subst this; exact hnac) (fun i j ij j2 => by
      have : i = 0 := by omega
      have : j = 1 := by omega
      subst i; subst j
      exact fun z => hab' z.1)
  refine ⟨hrow, cnx nx p a b c, crh ρ a c, by rw [jA_last m0 hal ht hh]; exact hmp, by rw [jA_last m0 hal ht hh]; exact hpl, fun i i0 i1 k k0 k1 => ?_⟩
  have ent : ∀ i, 0 ≤ i → i < n → ∀ l, 0 ≤ l → l < rm0 i → jA m pt ph al (acr pt ph (rt rot0 i l) i) i := fun i i0 i1 l l0 l1 => by
    obtain ⟨y, j⟩ := (hR1 i i0 i1).2.1 l l0 l1
    rw [acr_is (irr _ _ _ j) j]; exact ⟨_, JJ_sym _ _ _ j⟩
  have einj : ∀ i, 0 ≤ i → i < n → ∀ l l', 0 ≤ l → l < rm0 i → 0 ≤ l' → l' < rm0 i → acr pt ph (rt rot0 i l) i = acr pt ph (rt rot0 i l') i → l = l' := fun i i0 i1 l l' l0 l1 l0' l1' z => by
    obtain ⟨y, j⟩ := (hR1 i i0 i1).2.1 l l0 l1
    obtain ⟨y', j'⟩ := (hR1 i i0 i1).2.1 l' l0' l1'
    have w := acr_inj hgm j j' z
    rcases Int.lt_trichotomy l l' with t | t | t
    · exact absurd w ((hR1 i i0 i1).2.2.1 l l' l0 t l1')
    · exact t
    · exact absurd w.symm ((hR1 i i0 i1).2.2.1 l' l l0' t l1)
  by_cases qa : i = a
  · subst qa
    rw [a1] at k1 ⊢
    by_cases qk : k = ka
    · rw [qk, a2.2.2.2.1, eAc, ins_new a2 (by omega), if_pos ka1, eb, cnx_2 hcp, hpn]
    · obtain ⟨l, l0, l1, l2, l3, l4, l5⟩ := ins_old a2 k0 k1 qk
      rw [l2]
      have hnc : acr pt ph (rt rot0 i l) i ≠ c := fun z => by
        have := ent i i0 i1 l l0 l1
        rw [z] at this; exact nac (q1.1.1 _ _ this)
      by_cases qn : nr (rm0 i + 1) k = ka
      · have w := l5 qn
        rw [if_pos ka1] at w
        have : l = kp := nr_inj l0 l1 kp0 kp1 (w.trans kp2.symm)
        rw [this, ep, qn, a2.2.2.2.1, eAc, cnx_1]
      · rw [l4 qn, cnx_o (fun z => ?_) (fun z => hnc z.1) (fun z => ge.2.2.2.2 z.2) (fun z => ge.2.2.2.2 z.2)]
        · exact q3 i i0 i1 l l0 l1
        · have : l = kp := einj i i0 i1 l kp l0 l1 kp0 kp1 (z.1.trans ep.symm)
          rw [this] at l3 l4
          -- then its successor is the new place
          by_cases w : k < ka
          · rw [if_pos w] at l3
            rw [nr_lt (by have := a2.2.1; omega)] at qn
            rw [← l3] at qn
            by_cases v : kp + 1 < rm0 i
            · rw [nr_lt v] at kp2; omega
            · omega
          · rw [if_neg w] at l3
            by_cases v : kp + 1 < rm0 i
            · rw [nr_lt v] at kp2; omega
            · rw [nr_eq (by omega)] at kp2
              rw [nr_eq (by omega)] at qn; omega
  · by_cases qc : i = c
    · subst qc
      rw [c1] at k1 ⊢
      by_cases qk : k = kc
      · rw [qk, c2.2.2.2.1, eCa, ins_new c2 (by have := c2.2.1; omega), cnx_4 (fun z => ge.2.2.2.2 z.symm) hab']
        have w := q3 i i0 i1 (kc - 1) (by omega) (by have := c2.2.1; omega)
        rw [ecb] at w
        rw [w]
        by_cases z : kc < rm0 i
        · rw [if_pos z, nr_lt (by omega), show kc - 1 + 1 = kc by omega]
        · rw [if_neg z, nr_eq (by have := c2.2.1; omega)]
      · obtain ⟨l, l0, l1, l2, l3, l4, l5⟩ := ins_old c2 k0 k1 qk
        rw [l2]
        by_cases qn : nr (rm0 i + 1) k = kc
        · have hk : k = kc - 1 := by
            by_cases z : k + 1 = rm0 i + 1
            · rw [nr_eq z] at qn; omega
            · rw [nr_lt (by omega)] at qn; omega
          rw [if_pos (by omega), hk] at l3
          rw [l3, ecb, qn, c2.2.2.2.1, eCa, cnx_3 (fun z => ge.2.2.2.2 z.symm)]
        · rw [l4 qn, cnx_o (fun z => qa z.2) (fun z => qa z.2) (fun z => ?_) (fun z => ?_)]
          · exact q3 i i0 i1 l l0 l1
          · have : l = kc - 1 := einj i i0 i1 l (kc - 1) l0 l1 (by omega) (by have := c2.2.1; omega) (z.1.trans ecb.symm)
            rw [this] at l3
            by_cases w : k < kc
            · rw [if_pos w] at l3
              rw [nr_lt (by have := c2.2.1; omega)] at qn; omega
            · rw [if_neg w] at l3; omega
          · have := ent i i0 i1 l l0 l1
            rw [z.1] at this; exact nac this
    · obtain ⟨o2, o3⟩ := o1 i i0 qa qc
      have r1 := (hR1 i i0 i1).1
      rw [o2] at k1 ⊢
      have z := nr_rng k0 k1
      rw [o3 k k0 (by omega), o3 _ z.1 (by omega), cnx_o (fun z => qa z.2) (fun z => qa z.2) (fun z => qc z.2) (fun z => qc z.2)]
      exact q3 i i0 i1 k k0 k1
/-- a new edge between two parts, at the ends of two rows -/
theorem rot_glue {n m a c : Int} {pt ph al rm0 rot0 rm rot : Int → Int} (hg : GOK n (m + 1) pt ph) (m0 : 0 ≤ m) (m1 : m + 1 ≤ 80) (hal : al m = 1) (ht : pt m = a) (hh : ph m = c) (hR : ROT n m pt ph al rm0 rot0) (hap : ¬ rc (jA m pt ph al) a c) (hI : INS2 rm0 rot0 rm rot a c m (rm0 a) (rm0 c)) : ROT n (m + 1) pt ph al rm rot := by
  have hrow := rows_new2 hg m0 m1 hal ht hh hR hI
  have ge := hg.1 m m0 (by omega)
  rw [ht, hh] at ge
  have hbl : ∀ e u v, JJ (m + 1) pt ph al e u v → (fun e => if e = m then (1 : Int) else 0) e < 2 := fun e u v _ => by show (if e = m then (1 : Int) else 0) < 2; split <;> omega
  have hl : lA (m + 1) pt ph al (fun e => if e = m then (1 : Int) else 0) 1 = jA m pt ph al := by
    funext u v
    apply propext
    constructor
    · rintro ⟨e, j, z⟩
      have z' : (if e = m then (1 : Int) else 0) < 1 := z
      rcases JJ_last.1 j with w | ⟨w, _⟩
      · exact ⟨e, w⟩
      · rw [if_pos w] at z'; omega
    · rintro ⟨e, j⟩
      exact ⟨e, JJ_last.2 (Or.inl j), by show (if e = m then (1 : Int) else 0) < 1; rw [if_neg (by have := j.2.1; omega)]; omega⟩
  have hm : EMI n (m + 1) pt ph al (fun e => if e = m then (1 : Int) else 0) rm0 rot0 1 := by
    unfold EMI
    rw [hl]
    refine ⟨fun i i0 i1 => ?_, hR.2⟩
    obtain ⟨r1, r2, r3, r4⟩ := hR.1 i i0 i1
    refine ⟨r1, fun k k0 k1 => ?_, r3, fun e x j z => ?_⟩
    · obtain ⟨x, j⟩ := r2 k k0 k1
      refine ⟨x, JJ_last.2 (Or.inl j), ?_⟩
      show (if rt rot0 i k = m then (1 : Int) else 0) < 1
      rw [if_neg (by have := j.2.1; omega)]; omega
    · have z' : (if e = m then (1 : Int) else 0) < 1 := z
      rcases JJ_last.1 j with w | ⟨w, _⟩
      · exact r4 e x w
      · rw [if_pos w] at z'; omega
  have one : ∀ e, inB (m + 1) al (fun e => if e = m then (1 : Int) else 0) 1 e → e = m := fun e h => by
    have z : (if e = m then (1 : Int) else 0) = 1 := h.2.2.2
    by_cases q : e = m
    · exact q
    · rw [if_neg q] at z; omega
  have inm : inB (m + 1) al (fun e => if e = m then (1 : Int) else 0) 1 m := ⟨m0, by omega, hal, by show (if m = m then (1 : Int) else 0) = 1; rw [if_pos rfl]⟩
  have hD : DRB (m + 1) 0 pt ph al (fun e => if e = m then (1 : Int) else 0) (fun _ => 0) (fun _ => 0) 1 := Or.inl ⟨rfl, m, inm, one⟩
  have jm : ∀ e i x, JJ (m + 1) pt ph al e i x → (if e = m then (1 : Int) else 0) = 1 → e = m ∧ ((i = a ∧ x = c) ∨ (i = c ∧ x = a)) := fun e i x j z => by
    have q : e = m := Classical.byContradiction (fun w => by rw [if_neg w] at z; omega)
    subst q
    refine ⟨rfl, ?_⟩
    rcases j.2.2.2 with ⟨z1, z2⟩ | ⟨z1, z2⟩
    · exact Or.inl ⟨by omega, by omega⟩
    · exact Or.inr ⟨by omega, by omega⟩
  have hsy : ∀ u v, jA m pt ph al u v → jA m pt ph al v u := fun u v ⟨e, j⟩ => ⟨e, JJ_sym _ _ _ j⟩
  have hmt : ∀ e f i j x y, JJ (m + 1) pt ph al e i x → JJ (m + 1) pt ph al f j y → (fun e => if e = m then (1 : Int) else 0) e = 1 → (fun e => if e = m then (1 : Int) else 0) f = 1 → rc (lA (m + 1) pt ph al (fun e => if e = m then (1 : Int) else 0) 1) i j → i = j := fun e f i j x y he hf be bf hr => by
    rw [hl] at hr
    rcases (jm e i x he be).2 with ⟨z, _⟩ | ⟨z, _⟩ <;> rcases (jm f j y hf bf).2 with ⟨w, _⟩ | ⟨w, _⟩
    · omega
    · rw [z, w] at hr; exact absurd hr hap
    · rw [z, w] at hr; exact absurd (rc_symm hsy hr) hap
    · omega
  have hM : MID n (m + 1) 0 pt ph al (fun e => if e = m then (1 : Int) else 0) (fun _ => 0) (fun _ => 0) rm rot 1 n := by
    refine ⟨rm0, rot0, hm, fun i i0 _ i1 => ?_, fun i i0 i1 i2 => by omega⟩
    have r1 := (hR.1 i i0 i1).1
    have b1 := (hrow i i0 i1).1
    obtain ⟨⟨a1, a2⟩, ⟨c1, c2⟩, o1⟩ := hI
    have new : ∀ y, JJ (m + 1) pt ph al m i y → rm i = rm0 i + 1 → insR (rm0 i) (rt rot0 i) (rt rot i) (rm0 i) m → EXT (m + 1) 0 pt ph al (fun e => if e = m then (1 : Int) else 0) (fun _ => 0) (fun _ => 0) rm0 rot0 rm rot 1 i := fun y jy e1 e2 => by
      have et : ∀ t : Int, 0 ≤ t → t < 1 → rt rot i (rm0 i + t) = m := fun t a b => by rw [show rm0 i + t = rm0 i by omega]; exact e2.2.2.2.1
      refine ⟨1, ⟨e1, r1.1, b1.2⟩, fun k k0 k1 => e2.2.2.1 k k0 k1, by omega, fun t t0 t1 => ?_, fun s t s0 st t1 => by omega, fun e x je be => ?_, fun z => by omega⟩
      · show ∃ x, JJ (m + 1) pt ph al (rt rot i (rm0 i + t)) i x ∧ (if rt rot i (rm0 i + t) = m then (1 : Int) else 0) = 1
        rw [et t t0 t1, if_pos rfl]; exact ⟨y, jy, rfl⟩
      · refine ⟨0, by omega, by omega, ?_⟩
        show rt rot i (rm0 i + 0) = e
        rw [et 0 (by omega) (by omega), (jm e i x je be).1]
    by_cases qa : i = a
    · subst qa; exact new c (JJ_last.2 (Or.inr ⟨rfl, m0, hal, Or.inl ⟨ht, hh⟩⟩)) a1 a2
    · by_cases qc : i = c
      · subst qc; exact new a (JJ_last.2 (Or.inr ⟨rfl, m0, hal, Or.inr ⟨ht, hh⟩⟩)) c1 c2
      · obtain ⟨o2, o3⟩ := o1 i i0 qa qc
        refine ⟨0, ⟨by omega, r1.1, b1.2⟩, fun k k0 k1 => o3 k k0 (by omega), by omega, fun t t0 t1 => by omega, fun s t s0 st t1 => by omega, fun e x je be => ?_, fun z => by omega⟩
        rcases (jm e i x je be).2 with ⟨z, _⟩ | ⟨z, _⟩
        · exact absurd z qa
        · exact absurd z qc
  exact (rot_emi (b := 2) hbl).1 (emi_glue hg hmt hD hM)
