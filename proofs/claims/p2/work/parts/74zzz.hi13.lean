/-! the heights of the house's drawings -/
theorem hy_le {w : va_W} {H : Value} {n m : Int} (h : HY w H n) (hm : n ≤ m) : HY w H m := ⟨h.1, fun g hg d hd v v0 v1 => by
  have := h.2 g hg d hd v v0 v1; omega⟩
theorem hy_pO {w0 w1 : va_W} {H : Value} {A I : Nat} {V : Int} (s : (∀ b j, w_el w1 b j = if b = A ∧ j = I then V else w_el w0 b j) ∧ ∀ b k, w_fd w1 b k = w_fd w0 b k) (hne : A ≠ w_ar w0 H 3) (g : Nat) : pO w1 H 3 g = pO w0 H 3 g := by
  have e : w_ar w1 H 3 = w_ar w0 H 3 := by unfold w_ar; rw [s.2]
  unfold pO
  rw [e, s.1, if_neg (fun q => hne q.1.symm)]
theorem hy_pO0 {w0 w1 : va_W} {H : Value} {A I : Nat} {V : Int} (s : (∀ b j, w_el w1 b j = if b = A ∧ j = I then V else w_el w0 b j) ∧ ∀ b k, w_fd w1 b k = w_fd w0 b k) (hne : A ≠ w_ar w0 H 0) (g : Nat) : pO w1 H 0 g = pO w0 H 0 g := by
  have e : w_ar w1 H 0 = w_ar w0 H 0 := by unfold w_ar; rw [s.2]
  unfold pO
  rw [e, s.1, if_neg (fun q => hne q.1.symm)]
/-- a height that is stored -/
theorem hy_st {w0 w1 : va_W} {H : Value} {n : Int} {A I : Nat} {V : Int} (h : HY w0 H n) (s : (∀ b j, w_el w1 b j = if b = A ∧ j = I then V else w_el w0 b j) ∧ ∀ b k, w_fd w1 b k = w_fd w0 b k) (hne : A ≠ w_ar w0 H 3) (hn0 : A ≠ w_ar w0 H 0) (v0 : -1000000 ≤ V) (v1 : V ≤ 70000000 + 200000 * n) : HY w1 H n := ⟨fun g hg => by rw [hy_pO s hne, hy_pO0 s hn0, s.2]; exact h.1 g hg, fun g hg d hd v a b => by
  rw [hy_pO s hne, s.2] at hd
  have e : w_ei w1 d v = if d = A ∧ v.toNat = I then V else w_ei w0 d v := s.1 d v.toNat
  rw [e]
  split
  · exact ⟨v0, v1⟩
  · exact h.2 g hg d hd v a b⟩
theorem hyd_st {w0 w1 : va_W} {H x : Value} {A I : Nat} {V : Int} (h : HYD w0 H x) (s : (∀ b j, w_el w1 b j = if b = A ∧ j = I then V else w_el w0 b j) ∧ ∀ b k, w_fd w1 b k = w_fd w0 b k) (hne : A ≠ w_ar w0 H 3) : HYD w1 H x := by
  obtain ⟨g, hg, e⟩ := h
  exact ⟨g, hg, by rw [hy_pO s hne]; exact e⟩
/-- an array of heights is not the array of the drawings -/
theorem hy_ne {kA : Nat → ClassId} {G : List rg_T} {A : Nat → Prop} {ta : Nat → Option Nat} {w0 w1 : va_W} {H : Value} {a r ra k : Nat} {g : rg_T} {t : tv_T} (hD : va_D A w1) (hth : th_ok kA G ta w1) (hr : ta (v_ad H) = some r) (hg : G[r]? = some g) (h10 : 10 ≤ g.1) (hk : g.2.2.2.2[k]? = some t) (h2 : t.1 = 2) (ha : ta a = some ra) (hn : ra ∉ t.2.2.2) (s : ∀ b k, w_fd w1 b k = w_fd w0 b k) : a ≠ w_ar w0 H k := by
  intro e
  have q := th_fd hD hth hr hg hk (decide_eq_true h10)
  obtain ⟨c, r2, e1, e2, e3⟩ := tv_ref q h2
  have e4 : w_ar w0 H k = c := by unfold w_ar; rw [← s, e1]; rfl
  rw [e, e4, e2] at ha
  exact hn (by rw [← Option.some.inj ha]; exact e3)
theorem hy_use {w : va_W} {H x : Value} {n : Int} (h : HY w H n) (hd : HYD w H x) (hx : ∃ c, w_fd w (v_ad x) 3 = .ref c) : DYB (w_ei w (w_ar w x 3)) n := by
  obtain ⟨g, hg, e⟩ := hd
  obtain ⟨c, hc⟩ := hx
  have e2 : w_ar w x 3 = c := by unfold w_ar; rw [hc]; rfl
  rw [e] at hc
  rw [e2]
  exact fun v a b => h.2 g hg c hc v a b
/-- a drawing taken out of the house's array -/
theorem hyd_of {w : va_W} {H a x g : Value} (ha : a = w_fd w (v_ad H) 3) (hx : ((v_ad x : Nat) : Int) = w_el w (v_ad a) (v_iv g).toNat) (g0 : 0 ≤ v_iv g) (g1 : v_iv g < 4) : HYD w H x := by
  refine ⟨(v_iv g).toNat, by omega, ?_⟩
  unfold pO w_ar
  rw [← ha, ← hx]
  omega
/-- a drawing taken out of the house's array, with its place -/
theorem hyp_of {w : va_W} {H a x g : Value} (ha : a = w_fd w (v_ad H) 3) (hx : ((v_ad x : Nat) : Int) = w_el w (v_ad a) (v_iv g).toNat) (g0 : 0 ≤ v_iv g) (g1 : v_iv g < 4) : HYP w H x g := by
  refine ⟨⟨g0, g1⟩, ?_⟩
  unfold pO w_ar
  rw [← ha, ← hx]
  omega
/-- a drawing's graph is the graph of its place -/
theorem hdg_eq {w : va_W} {H b d x y g : Value} {n : Int} (h : HY w H n) (hp : HYP w H d g) (hb : b = w_fd w (v_ad H) 0) (hx : ((v_ad x : Nat) : Int) = w_el w (v_ad b) (v_iv g).toNat) (hy : y = w_fd w (v_ad d) 0) (hr : ∃ c, x = .ref c) : y = x := by
  obtain ⟨c, rfl⟩ := hr
  obtain ⟨⟨g0, g1⟩, pd⟩ := hp
  have e := h.1 (v_iv g).toNat (by omega)
  have px : pO w H 0 (v_iv g).toNat = c := by
    unfold pO w_ar
    rw [← hb, ← hx]
    show ((c : Nat) : Int).toNat = c
    omega
  rw [← pd, px] at e
  rw [hy, e]
