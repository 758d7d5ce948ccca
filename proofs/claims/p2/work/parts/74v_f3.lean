/-! a new edge in the rows -/
def jA (m : Int) (pt ph al : Int → Int) (u v : Int) : Prop := ∃ e, JJ m pt ph al e u v
theorem lA_all {m : Int} {pt ph al bl : Int → Int} {b : Int} (h : ∀ e u v, JJ m pt ph al e u v → bl e < b) : lA m pt ph al bl b = jA m pt ph al := by
  funext u v
  exact propext ⟨fun ⟨e, j, _⟩ => ⟨e, j⟩, fun ⟨e, j⟩ => ⟨e, j, h e u v j⟩⟩
/-- rows that list every edge and follow a plane map -/
def ROT (n m : Int) (pt ph al rm rot : Int → Int) : Prop := (∀ i, 0 ≤ i → i < n → (0 ≤ rm i ∧ rm i ≤ 80) ∧ (∀ k, 0 ≤ k → k < rm i → ∃ x, JJ m pt ph al (rt rot i k) i x) ∧ (∀ k l, 0 ≤ k → k < l → l < rm i → rt rot i k ≠ rt rot i l) ∧ ∀ e x, JJ m pt ph al e i x → ∃ k, 0 ≤ k ∧ k < rm i ∧ rt rot i k = e) ∧ ∃ nx ρ, mp (jA m pt ph al) nx ∧ pls (jA m pt ph al) nx ρ ∧ ∀ i, 0 ≤ i → i < n → ∀ k, 0 ≤ k → k < rm i → nx (acr pt ph (rt rot i k) i) i = acr pt ph (rt rot i (nr (rm i) k)) i
theorem rot_emi {n m : Int} {pt ph al bl rm rot : Int → Int} {b : Int} (h : ∀ e u v, JJ m pt ph al e u v → bl e < b) : EMI n m pt ph al bl rm rot b ↔ ROT n m pt ph al rm rot := by
  unfold EMI ROT EMR
  rw [lA_all h]
  constructor
  · rintro ⟨h1, h2⟩
    refine ⟨fun i i0 i1 => ?_, h2⟩
    obtain ⟨r1, r2, r3, r4⟩ := h1 i i0 i1
    exact ⟨r1, fun k k0 k1 => by obtain ⟨x, j, _⟩ := r2 k k0 k1; exact ⟨x, j⟩, r3, fun e x j => r4 e x j (h e _ _ j)⟩
  · rintro ⟨h1, h2⟩
    refine ⟨fun i i0 i1 => ?_, h2⟩
    obtain ⟨r1, r2, r3, r4⟩ := h1 i i0 i1
    exact ⟨r1, fun k k0 k1 => by obtain ⟨x, j⟩ := r2 k k0 k1; exact ⟨x, j, h _ _ _ j⟩, r3, fun e x j _ => r4 e x j⟩
theorem eml_rot {n m : Int} {pt ph al rm rot : Int → Int} : EML n m pt ph al rm rot ↔ ROT n m pt ph al rm rot := rot_emi (fun _ _ _ _ => by show (0 : Int) < 1; omega)
theorem JJ_congr {m : Int} {pt ph al pt' ph' al' : Int → Int} (h : ∀ e, 0 ≤ e → e < m → pt' e = pt e ∧ ph' e = ph e ∧ al' e = al e) : JJ m pt' ph' al' = JJ m pt ph al := by
  funext e u v
  apply propext
  unfold JJ
  constructor
  · rintro ⟨a, b, c⟩
    rw [(h e a b).1, (h e a b).2.1, (h e a b).2.2] at c; exact ⟨a, b, c⟩
  · rintro ⟨a, b, c⟩
    rw [← (h e a b).1, ← (h e a b).2.1, ← (h e a b).2.2] at c; exact ⟨a, b, c⟩
theorem acr_congr {m : Int} {pt ph pt' ph' al al' : Int → Int} (h : ∀ e, 0 ≤ e → e < m → pt' e = pt e ∧ ph' e = ph e ∧ al' e = al e) {e i : Int} (a : 0 ≤ e) (b : e < m) : acr pt' ph' e i = acr pt ph e i := by
  unfold acr; rw [(h e a b).1, (h e a b).2.1]
theorem rot_congr {n m : Int} {pt ph al pt' ph' al' rm rot : Int → Int} (h : ∀ e, 0 ≤ e → e < m → pt' e = pt e ∧ ph' e = ph e ∧ al' e = al e) (hr : ROT n m pt ph al rm rot) : ROT n m pt' ph' al' rm rot := by
  have hj := JJ_congr h
  have hA : jA m pt' ph' al' = jA m pt ph al := by unfold jA; rw [hj]
  obtain ⟨h1, nx, ρ, h2, h3, h4⟩ := hr
  unfold ROT
  rw [hj, hA]
  refine ⟨h1, nx, ρ, h2, h3, fun i i0 i1 k k0 k1 => ?_⟩
  have z := nr_rng k0 k1
  obtain ⟨x, j⟩ := (h1 i i0 i1).2.1 k k0 k1
  obtain ⟨y, l⟩ := (h1 i i0 i1).2.1 _ z.1 z.2
  rw [acr_congr h j.1 j.2.1, acr_congr h l.1 l.2.1]
  exact h4 i i0 i1 k k0 k1
/-- a row with one more -/
def insR (L : Int) (R R' : Int → Int) (k e : Int) : Prop := 0 ≤ k ∧ k ≤ L ∧ (∀ l, 0 ≤ l → l < k → R' l = R l) ∧ R' k = e ∧ ∀ l, k ≤ l → l < L → R' (l + 1) = R l
theorem ins_old {L k e : Int} {R R' : Int → Int} (h : insR L R R' k e) {l : Int} (l0 : 0 ≤ l) (l1 : l < L + 1) (hk : l ≠ k) : ∃ l', 0 ≤ l' ∧ l' < L ∧ R' l = R l' ∧ l' = (if l < k then l else l - 1) ∧ (nr (L + 1) l ≠ k → R' (nr (L + 1) l) = R (nr L l')) ∧ (nr (L + 1) l = k → nr L l' = if k < L then k else 0) := by
  obtain ⟨h1, h2, h3, h4, h5⟩ := h
  by_cases q : l < k
  · refine ⟨l, l0, by omega, h3 l l0 q, by rw [if_pos q], fun z => ?_, fun z => ?_⟩
    · rw [nr_lt (by omega)] at z ⊢
      rw [nr_lt (by omega)]; exact h3 _ (by omega) (by omega)
    · rw [nr_lt (by omega)] at z
      by_cases w : k < L
      · rw [if_pos w, nr_lt (by omega)]; exact z
      · rw [if_neg w, nr_eq (by omega)]
  · have e1 := h5 (l - 1) (by omega) (by omega)
    rw [show l - 1 + 1 = l by omega] at e1
    refine ⟨l - 1, by omega, by omega, e1, by rw [if_neg q], fun z => ?_, fun z => ?_⟩
    · by_cases w : l = L
      · rw [nr_eq (by omega)] at z ⊢
        rw [nr_eq (by omega)]; exact h3 0 (by omega) (by omega)
      · rw [nr_lt (by omega), nr_lt (by omega)]
        have := h5 l (by omega) (by omega)
        rw [show l - 1 + 1 = l by omega]; exact this
    · by_cases w : l = L
      · rw [nr_eq (by omega)] at z
        rw [nr_eq (by omega), ← z]
        split <;> rfl
      · rw [nr_lt (by omega)] at z; omega
theorem ins_new {L k e : Int} {R R' : Int → Int} (h : insR L R R' k e) (hL : 1 ≤ L) : R' (nr (L + 1) k) = R (if k < L then k else 0) := by
  obtain ⟨h1, h2, h3, h4, h5⟩ := h
  by_cases q : k < L
  · rw [if_pos q, nr_lt (by omega)]; exact h5 k (by omega) q
  · rw [if_neg q, nr_eq (by omega)]; exact h3 0 (by omega) (by omega)
theorem ins_all {L k e : Int} {R R' : Int → Int} (h : insR L R R' k e) {l : Int} (l0 : 0 ≤ l) (l1 : l < L) : ∃ l', 0 ≤ l' ∧ l' < L + 1 ∧ R' l' = R l := by
  obtain ⟨h1, h2, h3, h4, h5⟩ := h
  by_cases q : l < k
  · exact ⟨l, l0, by omega, h3 l l0 q⟩
  · exact ⟨l + 1, by omega, by omega, h5 l (by omega) l1⟩
theorem ins_dist {L k e : Int} {R R' : Int → Int} (h : insR L R R' k e) (hd : ∀ k l, 0 ≤ k → k < l → l < L → R k ≠ R l) (hn : ∀ l, 0 ≤ l → l < L → R l ≠ e) : ∀ k l, 0 ≤ k → k < l → l < L + 1 → R' k ≠ R' l := by
  intro a b a0 ab b1
  by_cases qa : a = k
  · obtain ⟨b', b0', b1', b2', _⟩ := ins_old h (l := b) (by omega) b1 (by omega)
    rw [qa, h.2.2.2.1, b2']; exact fun z => hn b' b0' b1' z.symm
  · obtain ⟨a', a0', a1', a2', a3', _⟩ := ins_old h a0 (by omega) qa
    by_cases qb : b = k
    · rw [qb, h.2.2.2.1, a2']; exact hn a' a0' a1'
    · obtain ⟨b', b0', b1', b2', b3', _⟩ := ins_old h (l := b) (by omega) b1 qb
      rw [a2', b2']
      exact hd a' b' a0' (by rw [a3', b3']; split <;> split <;> omega) b1'
/-- a row of distinct numbers is no longer than they are many -/
theorem rw_len {L M : Int} {R : Int → Int} (hM : 0 ≤ M) (hr : ∀ k, 0 ≤ k → k < L → 0 ≤ R k ∧ R k < M) (hd : ∀ k l, 0 ≤ k → k < l → l < L → R k ≠ R l) : L ≤ M := by
  by_cases q : L ≤ 0
  · omega
  · have := php L.toNat M.toNat (fun t => (R t).toNat) (fun t ht => by have := hr t (by omega) (by omega); show (R t).toNat < M.toNat; omega) (fun s t hs ht z => by
      have z' : (R s).toNat = (R t).toNat := z
      have a := hr s (by omega) (by omega)
      have b := hr t (by omega) (by omega)
      rcases Nat.lt_trichotomy s t with w | w | w
      · exact absurd (by omega) (hd s t (by omega) (by omega) (by omega))
      · exact w
      · exact absurd (by omega) (hd t s (by omega) (by omega) (by omega)))
    omega
def INS (rm0 rot0 rm rot : Int → Int) (i e k : Int) : Prop := rm i = rm0 i + 1 ∧ insR (rm0 i) (rt rot0 i) (rt rot i) k e ∧ ∀ j, 0 ≤ j → j ≠ i → rm j = rm0 j ∧ ∀ l, 0 ≤ l → l < 80 → rt rot j l = rt rot0 j l
/-- the last edge, and those before it -/
theorem JJ_last {m e u v : Int} {pt ph al : Int → Int} : JJ (m + 1) pt ph al e u v ↔ JJ m pt ph al e u v ∨ (e = m ∧ 0 ≤ m ∧ al m = 1 ∧ ((pt m = u ∧ ph m = v) ∨ (pt m = v ∧ ph m = u))) := by
  unfold JJ
  constructor
  · rintro ⟨a, b, c, d⟩
    by_cases q : e = m
    · subst q; exact Or.inr ⟨rfl, a, c, d⟩
    · exact Or.inl ⟨a, by omega, c, d⟩
  · rintro (⟨a, b, c, d⟩ | ⟨a, b, c, d⟩)
    · exact ⟨a, by omega, c, d⟩
    · subst a; exact ⟨b, by omega, c, d⟩
theorem jA_last {m a c : Int} {pt ph al : Int → Int} (m0 : 0 ≤ m) (ha : al m = 1) (ht : pt m = a) (hh : ph m = c) : jA (m + 1) pt ph al = chA (jA m pt ph al) a c := by
  funext u v
  apply propext
  unfold jA chA
  constructor
  · rintro ⟨e, j⟩
    rcases JJ_last.1 j with k | ⟨_, _, _, k⟩
    · exact Or.inl ⟨e, k⟩
    · rcases k with ⟨k1, k2⟩ | ⟨k1, k2⟩
      · exact Or.inr (Or.inl ⟨by omega, by omega⟩)
      · exact Or.inr (Or.inr ⟨by omega, by omega⟩)
  · rintro (⟨e, j⟩ | ⟨k1, k2⟩ | ⟨k1, k2⟩)
    · exact ⟨e, JJ_last.2 (Or.inl j)⟩
    · exact ⟨m, JJ_last.2 (Or.inr ⟨rfl, m0, ha, Or.inl ⟨by omega, by omega⟩⟩)⟩
    · exact ⟨m, JJ_last.2 (Or.inr ⟨rfl, m0, ha, Or.inr ⟨by omega, by omega⟩⟩)⟩
/-- two rows have got the new edge, the others are as they were -/
def INS2 (rm0 rot0 rm rot : Int → Int) (a c e ka kc : Int) : Prop := (rm a = rm0 a + 1 ∧ insR (rm0 a) (rt rot0 a) (rt rot a) ka e) ∧ (rm c = rm0 c + 1 ∧ insR (rm0 c) (rt rot0 c) (rt rot c) kc e) ∧ ∀ j, 0 ≤ j → j ≠ a → j ≠ c → rm j = rm0 j ∧ ∀ l, 0 ≤ l → l < 80 → rt rot j l = rt rot0 j l
theorem ins_two {rm0 rot0 rm1 rot1 rm rot : Int → Int} {a c e ka kc : Int} (h1 : INS rm0 rot0 rm1 rot1 a e ka) (h2 : INS rm1 rot1 rm rot c e kc) (a0 : 0 ≤ a) (c0 : 0 ≤ c) (hne : a ≠ c) (ha : rm1 a ≤ 80) (hc : rm0 c ≤ 80) : INS2 rm0 rot0 rm rot a c e ka kc := by
  obtain ⟨p1, p2, p3⟩ := h1
  obtain ⟨q1, q2, q3⟩ := h2
  have x1 := p3 c c0 (fun z => hne z.symm)
  have x2 := q3 a a0 hne
  refine ⟨⟨by rw [x2.1]; exact p1, ?_⟩, ⟨by rw [q1, x1.1], ?_⟩, fun j j0 ja jc => ?_⟩
  · obtain ⟨i1, i2, i3, i4, i5⟩ := p2
    refine ⟨i1, i2, fun l l0 l1 => ?_, ?_, fun l l0 l1 => ?_⟩
    · rw [x2.2 l l0 (by omega)]; exact i3 l l0 l1
    · rw [x2.2 ka i1 (by omega)]; exact i4
    · rw [x2.2 (l + 1) (by omega) (by omega)]; exact i5 l l0 l1
  · obtain ⟨i1, i2, i3, i4, i5⟩ := q2
    rw [x1.1] at i2
    refine ⟨i1, i2, fun l l0 l1 => ?_, i4, fun l l0 l1 => ?_⟩
    · rw [← x1.2 l l0 (by omega)]; exact i3 l l0 l1
    · rw [← x1.2 l (by omega) (by omega)]; exact i5 l l0 (by rw [x1.1]; exact l1)
  · refine ⟨by rw [(q3 j j0 jc).1, (p3 j j0 ja).1], fun l l0 l1 => by rw [(q3 j j0 jc).2 l l0 l1, (p3 j j0 ja).2 l l0 l1]⟩
/-- the rows list the edges, the new one too -/
theorem rows_new2 {n m a c ka kc : Int} {pt ph al rm0 rot0 rm rot : Int → Int} (hg : GOK n (m + 1) pt ph) (m0 : 0 ≤ m) (m1 : m + 1 ≤ 80) (hal : al m = 1) (ht : pt m = a) (hh : ph m = c) (hR : ROT n m pt ph al rm0 rot0) (hI : INS2 rm0 rot0 rm rot a c m ka kc) : ∀ i, 0 ≤ i → i < n → (0 ≤ rm i ∧ rm i ≤ 80) ∧ (∀ k, 0 ≤ k → k < rm i → ∃ x, JJ (m + 1) pt ph al (rt rot i k) i x) ∧ (∀ k l, 0 ≤ k → k < l → l < rm i → rt rot i k ≠ rt rot i l) ∧ ∀ e x, JJ (m + 1) pt ph al e i x → ∃ k, 0 ≤ k ∧ k < rm i ∧ rt rot i k = e := by
  obtain ⟨⟨a1, a2⟩, ⟨c1, c2⟩, o1⟩ := hI
  have ge := hg.1 m m0 (by omega)
  rw [ht, hh] at ge
  have key : ∀ i y, 0 ≤ i → i < n → (JJ (m + 1) pt ph al m i y) → ∀ k, rm i = rm0 i + 1 → insR (rm0 i) (rt rot0 i) (rt rot i) k m → (0 ≤ rm i ∧ rm i ≤ 80) ∧ (∀ k, 0 ≤ k → k < rm i → ∃ x, JJ (m + 1) pt ph al (rt rot i k) i x) ∧ (∀ k l, 0 ≤ k → k < l → l < rm i → rt rot i k ≠ rt rot i l) ∧ ∀ e x, JJ (m + 1) pt ph al e i x → ∃ k, 0 ≤ k ∧ k < rm i ∧ rt rot i k = e := by
    intro i y i0 i1 jy k hk hi
    obtain ⟨r1, r2, r3, r4⟩ := hR.1 i i0 i1
    have ent : ∀ l, 0 ≤ l → l < rm i → ∃ x, JJ (m + 1) pt ph al (rt rot i l) i x := fun l l0 l1 => by
      by_cases q : l = k
      · rw [q, hi.2.2.2.1]; exact ⟨y, jy⟩
      · obtain ⟨l', b0, b1, b2, _⟩ := ins_old hi l0 (by omega) q
        obtain ⟨x, jx⟩ := r2 l' b0 b1
        rw [b2]; exact ⟨x, JJ_last.2 (Or.inl jx)⟩
    have dst := ins_dist hi r3 (fun l l0 l1 z => by obtain ⟨x, jx⟩ := r2 l l0 l1; rw [z] at jx; have := jx.2.1; omega)
    rw [← hk] at dst
    have len := rw_len (L := rm i) (M := m + 1) (by omega) (fun l l0 l1 => by obtain ⟨x, jx⟩ := ent l l0 l1; exact ⟨jx.1, jx.2.1⟩) dst
    refine ⟨by omega, ent, dst, fun e x j => ?_⟩
    rcases JJ_last.1 j with z | ⟨z, _⟩
    · obtain ⟨l, l0, l1, l2⟩ := r4 e x z
      obtain ⟨l', b0, b1, b2⟩ := ins_all hi l0 l1
      exact ⟨l', b0, by omega, by rw [b2]; exact l2⟩
    · exact ⟨k, hi.1, by have := hi.2.1; omega, by rw [z]; exact hi.2.2.2.1⟩
  intro i i0 i1
  by_cases qa : i = a
  · rw [qa] at i0 i1 ⊢
    exact key a c i0 i1 (JJ_last.2 (Or.inr ⟨rfl, m0, hal, Or.inl ⟨ht, hh⟩⟩)) ka a1 a2
  · by_cases qc : i = c
    · rw [qc] at i0 i1 ⊢
      exact key c a i0 i1 (JJ_last.2 (Or.inr ⟨rfl, m0, hal, Or.inr ⟨ht, hh⟩⟩)) kc c1 c2
    · obtain ⟨o2, o3⟩ := o1 i i0 qa qc
      obtain ⟨r1, r2, r3, r4⟩ := hR.1 i i0 i1
      rw [o2]
      refine ⟨r1, fun k k0 k1 => ?_, fun k l k0 kl l1 => ?_, fun e x j => ?_⟩
      · rw [o3 k k0 (by omega)]
        obtain ⟨x, jx⟩ := r2 k k0 k1
        exact ⟨x, JJ_last.2 (Or.inl jx)⟩
      · rw [o3 k k0 (by omega), o3 l (by omega) (by omega)]; exact r3 k l k0 kl l1
      · rcases JJ_last.1 j with z | ⟨_, _, _, z⟩
        · obtain ⟨k, k0, k1, k2⟩ := r4 e x z
          exact ⟨k, k0, k1, by rw [o3 k k0 (by omega)]; exact k2⟩
        · omega
