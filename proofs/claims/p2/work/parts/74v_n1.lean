/-! the route: costs spread from the goal -/
def dxf (d : Int) : Int := if d = 0 then 1 else if d = 2 then -1 else 0
def dyf (d : Int) : Int := if d = 1 then 1 else if d = 3 then -1 else 0
/-- from p in direction d one comes to q -/
def nb (W T p d q : Int) : Prop := (0 ≤ p % W + dxf d ∧ p % W + dxf d < W) ∧ (0 ≤ p / W + dyf d ∧ p / W + dyf d < T) ∧ q = (p / W + dyf d) * W + (p % W + dxf d)
def gok (W T : Int) : Prop := 1 ≤ W ∧ 1 ≤ T ∧ W * T ≤ 6000
theorem cell_ix {W T x y p : Int} (w : 1 ≤ W) (x0 : 0 ≤ x) (x1 : x < W) (y0 : 0 ≤ y) (y1 : y < T) (hp : p = y * W + x) : p % W = x ∧ p / W = y ∧ 0 ≤ p ∧ p < W * T := by
  have h1 : p / W = y := by rw [hp, Int.add_comm, Int.add_mul_ediv_right _ _ (by omega), Int.ediv_eq_zero_of_lt x0 x1]; omega
  have h2 : p % W = x := by rw [hp, Int.add_comm, Int.add_mul_emod_self_right, Int.emod_eq_of_lt x0 x1]
  have h3 : 0 ≤ y * W := Int.mul_nonneg y0 (by omega)
  have h4 : W * (y + 1) ≤ W * T := Int.mul_le_mul_of_nonneg_left (by omega) (by omega)
  rw [Int.mul_add, Int.mul_one, Int.mul_comm W y] at h4
  exact ⟨h2, h1, by omega, by omega⟩
theorem cell_of {W T p : Int} (w : 1 ≤ W) (p0 : 0 ≤ p) (p1 : p < W * T) : (0 ≤ p % W ∧ p % W < W) ∧ (0 ≤ p / W ∧ p / W < T) ∧ p = (p / W) * W + p % W := by
  refine ⟨⟨Int.emod_nonneg _ (by omega), Int.emod_lt_of_pos _ (by omega)⟩, ⟨Int.ediv_nonneg p0 (by omega), Int.ediv_lt_of_lt_mul (by omega) (by rw [Int.mul_comm]; exact p1)⟩, ?_⟩
  have := Int.mul_ediv_add_emod p W
  rw [Int.mul_comm] at this; omega
theorem nb_in {W T p d q : Int} (h : nb W T p d q) (w : 1 ≤ W) : 0 ≤ q ∧ q < W * T := by
  have := cell_ix w h.1.1 h.1.2 h.2.1.1 h.2.1.2 h.2.2
  exact this.2.2
theorem nb_un {W T p d q q' : Int} (h : nb W T p d q) (h' : nb W T p d q') : q = q' := by rw [h.2.2, h'.2.2]
/-- going back -/
theorem nb_back {W T q d x y p : Int} (w : 1 ≤ W) (q0 : 0 ≤ q) (q1 : q < W * T) (hx : x = q % W - dxf d) (hy : y = q / W - dyf d) (x0 : 0 ≤ x) (x1 : x < W) (y0 : 0 ≤ y) (y1 : y < T) (hp : p = y * W + x) : nb W T p d q ∧ 0 ≤ p ∧ p < W * T := by
  have c := cell_ix w x0 x1 y0 y1 hp
  have e := cell_of w q0 q1
  refine ⟨⟨by omega, by omega, ?_⟩, c.2.2⟩
  rw [c.1, c.2.1, show y + dyf d = q / W by omega, show x + dxf d = q % W by omega]
  exact e.2.2
def cw (a d : Int) : Int := if a = d then 1 else 3
theorem cw_bd (a d : Int) : 1 ≤ cw a d ∧ cw a d ≤ 3 := by unfold cw; split <;> omega
/-- why a state has its cost -/
def wit (W T : Int) (ba co : Int → Int) (to c s v : Int) : Prop := (v = 0 ∧ s / 4 = to) ∨ ∃ d q, (0 ≤ d ∧ d < 4) ∧ nb W T (s / 4) d q ∧ ba q = 0 ∧ co (4 * q + d) = v - cw (s % 4) d ∧ 0 ≤ co (4 * q + d) ∧ co (4 * q + d) ≤ c
def vv (c b : Int) : Int := c + (b - c) % 4
def bkt (N : Int) (co bk bm : Int → Int) (c b : Int) : Prop := 0 ≤ bm b ∧ (∀ k, 0 ≤ k → k < bm b → (0 ≤ bk (24010 * b + k) ∧ bk (24010 * b + k) < N) ∧ co (bk (24010 * b + k)) ≤ vv c b) ∧ (∀ j k, 0 ≤ j → j < k → k < bm b → bk (24010 * b + j) ≠ bk (24010 * b + k)) ∧ (0 < bm b → vv c b ≤ 999999)
def cok (W T : Int) (ba co : Int → Int) (to c : Int) : Prop := ∀ s, 0 ≤ s → s < 4 * (W * T) → (0 ≤ co s ∧ co s ≤ 1000000) ∧ (co s < 1000000 → ba (s / 4) = 0 ∧ wit W T ba co to c s (co s))
def RTQ (W T : Int) (ba co bk bm : Int → Int) (to c : Int) : Prop := gok W T ∧ 0 ≤ c ∧ cok W T ba co to c ∧ ∀ b, 0 ≤ b → b < 4 → bkt (4 * (W * T)) co bk bm c b
theorem bkt_len {N c b : Int} {co bk bm : Int → Int} (h : bkt N co bk bm c b) (n0 : 0 ≤ N) : bm b ≤ N := pigeon (q := fun k => bk (24010 * b + k)) n0 (fun k a d => (h.2.1 k a d).1) (fun j k a d e => h.2.2.1 j k a d e)
theorem vv_at {c v b : Int} (h1 : c ≤ v) (h2 : v ≤ c + 3) (hb : b = v % 4) : vv c b = v := by unfold vv; omega
theorem spr_room {W T c to v s : Int} {ba co bk bm : Int → Int} (h : RTQ W T ba co bk bm to c) (h1 : c ≤ v) (h2 : v ≤ c + 3) (s0 : 0 ≤ s) (s1 : s < 4 * (W * T)) (gt : v < co s) : bm (v % 4) + 1 ≤ 24000 := by
  have b := h.2.2.2 (v % 4) (by omega) (by omega)
  have hv := vv_at h1 h2 rfl
  have no : ∀ k, 0 ≤ k → k < bm (v % 4) → bk (24010 * (v % 4) + k) ≠ s := fun k a d e => by
    have := (b.2.1 k a d).2
    rw [e, hv] at this; omega
  have n := h.1
  have := pigeon (q := fun k => if k = bm (v % 4) then s else bk (24010 * (v % 4) + k)) (n := 4 * (W * T)) (m := bm (v % 4) + 1) (by omega) (fun k a d => by
    (try simp only [])
    split
    · omega
    · exact (b.2.1 k a (by omega)).1) (fun j k a d e => by
    (try simp only [])
    rw [if_neg (show ¬ j = bm (v % 4) by omega)]
    by_cases z : k = bm (v % 4)
    · rw [if_pos z]; exact no j a (by omega)
    · rw [if_neg z]; exact b.2.2.1 j k a d (by omega))
  unfold gok at n; omega
/-- a state gets a smaller cost -/
theorem spr_reach {W T c to s v b o p : Int} {ba co co' bk bk' bm bm' : Int → Int} (h : RTQ W T ba co bk bm to c) (h1 : c ≤ v) (h2 : v ≤ c + 3) (s0 : 0 ≤ s) (s1 : s < 4 * (W * T)) (gt : v < co s) (hbar : ba (s / 4) = 0) (hw : wit W T ba co to c s v) (hs : st1 co co' s v) (hb : b = v % 4) (hp : p = 24010 * b + bm b) (ht : st1 bk bk' p s) (ho : o = bm b + 1) (hu : st1 bm bm' b o) : RTQ W T ba co' bk' bm' to c := by
  have room := spr_room h h1 h2 s0 s1 gt
  rw [← hb] at room
  obtain ⟨g, c0, hc, hk⟩ := h
  have es : co' s = v := (hs s s0).1 rfl
  have ne : ∀ t, 0 ≤ t → t ≠ s → co' t = co t := fun t a e => (hs t a).2 e
  have low : ∀ t, 0 ≤ t → co t ≤ c → co' t = co t := fun t a e => ne t a (fun z => by rw [z] at e; omega)
  have wk : ∀ t x, wit W T ba co to c t x → wit W T ba co' to c t x := fun t x w => by
    rcases w with w | ⟨d, q, w1, w2, w3, w4, w5, w6⟩
    · exact Or.inl w
    · have qn := nb_in w2 g.1
      have e := low (4 * q + d) (by omega) w6
      exact Or.inr ⟨d, q, w1, w2, w3, by rw [e]; exact w4, by rw [e]; exact w5, by rw [e]; exact w6⟩
  have cs := (hc s s0 s1).1
  refine ⟨g, c0, fun t a d => ?_, fun e a d => ?_⟩
  · by_cases z : t = s
    · subst z
      rw [es]
      exact ⟨by omega, fun _ => ⟨hbar, wk t v hw⟩⟩
    · rw [ne t a z]
      exact ⟨(hc t a d).1, fun lt => ⟨((hc t a d).2 lt).1, wk t _ ((hc t a d).2 lt).2⟩⟩
  · have old := hk e a d
    have len := bkt_len old (by have := g.2; omega)
    have g6 := g.2.2
    have vb := vv_at h1 h2 hb
    have b0 : 0 ≤ b ∧ b < 4 := by omega
    have lenb := bkt_len (hk b b0.1 b0.2) (by have := g.2; omega)
    by_cases z : e = b
    · subst z
      have em : bm' e = bm e + 1 := by rw [(hu e a).1 rfl, ho]
      have ek : ∀ k, 0 ≤ k → k < bm e → bk' (24010 * e + k) = bk (24010 * e + k) := fun k x y => (ht _ (by omega)).2 (by omega)
      have el : bk' (24010 * e + bm e) = s := by rw [(ht _ (by have := old.1; omega)).1 hp.symm]
      have no : ∀ k, 0 ≤ k → k < bm e → bk (24010 * e + k) ≠ s := fun k x y w => by
        have := (old.2.1 k x y).2
        rw [w, vb] at this; omega
      refine ⟨by have := old.1; omega, fun k x y => ?_, fun j k x y w => ?_, fun _ => by rw [vb]; omega⟩
      · by_cases q : k = bm e
        · rw [q, el, es, vb]; omega
        · rw [ek k x (by omega), ne _ (old.2.1 k x (by omega)).1.1 (no k x (by omega))]
          exact old.2.1 k x (by omega)
      · rw [ek j x (by omega)]
        by_cases q : k = bm e
        · rw [q, el]; exact no j x (by omega)
        · rw [ek k (by omega) (by omega)]; exact old.2.2.1 j k x y (by omega)
    · have em : bm' e = bm e := (hu e a).2 z
      have ek : ∀ k, 0 ≤ k → k < bm e → bk' (24010 * e + k) = bk (24010 * e + k) := fun k x y => (ht _ (by omega)).2 (by have := (hk b b0.1 b0.2).1; omega)
      refine ⟨by rw [em]; exact old.1, fun k x y => ?_, fun j k x y w => ?_, fun w => old.2.2.2 (by omega)⟩
      · rw [em] at y
        have q := old.2.1 k x y
        rw [ek k x y]
        refine ⟨q.1, ?_⟩
        by_cases zz : bk (24010 * e + k) = s
        · rw [zz, es]; rw [zz] at q; omega
        · rw [ne _ q.1.1 zz]; exact q.2
      · rw [em] at w
        rw [ek j x (by omega), ek k (by omega) w]; exact old.2.2.1 j k x y w
/-- one level further, its bucket emptied -/
theorem spr_next {W T c c' to b v : Int} {ba co bk bm bm' : Int → Int} (h : RTQ W T ba co bk bm to c) (hb : b = c % 4) (hs : st1 bm bm' b v) (hv : v = 0) (hc : c' = c + 1) : RTQ W T ba co bk bm' to c' := by
  obtain ⟨g, c0, hk, hB⟩ := h
  refine ⟨g, by omega, fun s a d => ⟨(hk s a d).1, fun lt => ⟨((hk s a d).2 lt).1, ?_⟩⟩, fun e a d => ?_⟩
  · rcases ((hk s a d).2 lt).2 with w | ⟨d', q, w1, w2, w3, w4, w5, w6⟩
    · exact Or.inl w
    · exact Or.inr ⟨d', q, w1, w2, w3, w4, w5, by omega⟩
  · by_cases z : e = b
    · have em : bm' e = 0 := by rw [(hs e a).1 z, hv]
      exact ⟨by omega, fun k x y => by omega, fun j k x y w => by omega, fun w => by omega⟩
    · have em : bm' e = bm e := (hs e a).2 z
      have ev : vv c' e = vv c e := by unfold vv; omega
      have old := hB e a d
      refine ⟨by rw [em]; exact old.1, fun k x y => ?_, fun j k x y w => ?_, fun w => ?_⟩
      · rw [em] at y; rw [ev]; exact old.2.1 k x y
      · rw [em] at w; exact old.2.2.1 j k x y w
      · rw [ev]; exact old.2.2.2 (by omega)
/-- what is left of it for those that walk -/
def RTV (W T : Int) (ba co : Int → Int) (to : Int) : Prop := gok W T ∧ ∃ c, cok W T ba co to c
theorem spd_of {W T c to : Int} {ba co bk bm : Int → Int} (h : RTQ W T ba co bk bm to c) : RTV W T ba co to := ⟨h.1, c, h.2.2.1⟩
