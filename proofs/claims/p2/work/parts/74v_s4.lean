/-! layers of the class: an edge's upper and lower end, arcs as they are added -/
def upE (tl hd tu : Int → Int) (e : Int) : Int := if tu e = 0 then tl e else hd e
def loE (tl hd tu : Int → Int) (e : Int) : Int := if tu e = 0 then hd e else tl e
def UPX (tl hd tu : Int → Int) (e an : Int) : Prop := an = upE tl hd tu e
def LOX (tl hd tu : Int → Int) (e an : Int) : Prop := an = loE tl hd tu e
theorem upx_t {tl hd tu : Int → Int} {e an t : Int} (ht : t = tu e) (h0 : t ≠ 0) (ha : an = hd e) : UPX tl hd tu e an := by unfold UPX upE; rw [if_neg (by omega)]; exact ha
theorem upx_f {tl hd tu : Int → Int} {e an t : Int} (ht : t = tu e) (h0 : t = 0) (ha : an = tl e) : UPX tl hd tu e an := by unfold UPX upE; rw [if_pos (by omega)]; exact ha
theorem lox_t {tl hd tu : Int → Int} {e an t : Int} (ht : t = tu e) (h0 : t ≠ 0) (ha : an = tl e) : LOX tl hd tu e an := by unfold LOX loE; rw [if_neg (by omega)]; exact ha
theorem lox_f {tl hd tu : Int → Int} {e an t : Int} (ht : t = tu e) (h0 : t = 0) (ha : an = hd e) : LOX tl hd tu e an := by unfold LOX loE; rw [if_pos (by omega)]; exact ha
theorem up_in {n m : Int} {tl hd tu : Int → Int} (h : GKE n m tl hd) {e : Int} (e0 : 0 ≤ e) (e1 : e < m) : 0 ≤ upE tl hd tu e ∧ upE tl hd tu e < n ∧ 0 ≤ loE tl hd tu e ∧ loE tl hd tu e < n := by
  have q := h e e0 e1
  unfold upE loE
  split <;> omega
def apF (tl hd tu : Int → Int) (k : Int) : Int := if k % 2 = 0 then upE tl hd tu (k / 4) else loE tl hd tu (k / 4)
def apT (tl hd tu : Int → Int) (k : Int) : Int := if k % 2 = 0 then loE tl hd tu (k / 4) else upE tl hd tu (k / 4)
def apR (wt : Int → Int) (k : Int) : Int := if k % 4 = 0 ∨ k % 4 = 1 then wt (k / 4) else if k % 4 = 2 then 1000000000 else 0
def apG (k : Int) : Int := if k % 4 = 2 then 1 else if k % 4 = 3 then -1 else 0
def AP (a : Int) (fr to' rm gn tl hd wt tu : Int → Int) (k : Int) : Prop := a = k ∧ 0 ≤ k ∧ ∀ j, 0 ≤ j → j < k → fr j = apF tl hd tu j ∧ to' j = apT tl hd tu j ∧ rm j = apR wt j ∧ gn j = apG j
def APA (a : Int) (fr to' rm gn tl hd wt tu : Int → Int) (k : Int) : Prop := AP a fr to' rm gn tl hd wt tu (k + 1)
def APB (a : Int) (fr to' rm gn tl hd wt tu : Int → Int) (k : Int) : Prop := AP a fr to' rm gn tl hd wt tu (k + 2)
def AP4 (a : Int) (fr to' rm gn tl hd wt tu : Int → Int) (e : Int) : Prop := AP a fr to' rm gn tl hd wt tu (4 * e)
def APX (tl hd wt tu : Int → Int) (k a b l g : Int) : Prop := a = apF tl hd tu k ∧ b = apT tl hd tu k ∧ l = apR wt k ∧ g = apG k
/-- an edge's ends and weight -/
def APQ (tl hd wt tu : Int → Int) (k a b c : Int) : Prop := k % 4 = 0 ∧ a = upE tl hd tu (k / 4) ∧ b = loE tl hd tu (k / 4) ∧ c = wt (k / 4)
def APH (tl hd wt tu : Int → Int) (k a b : Int) : Prop := k % 4 = 2 ∧ a = upE tl hd tu (k / 4) ∧ b = loE tl hd tu (k / 4)
theorem ap_add {a a' k p1 v1 p2 v2 p3 v3 p4 v4 : Int} {fr fr' to' to2 rm rm' gn gn' tl hd wt tu : Int → Int} (h : AP a fr to' rm gn tl hd wt tu k) (hn : APX tl hd wt tu k v1 v2 v3 v4) (s1 : st1 fr fr' p1 v1) (q1 : p1 = a) (s2 : st1 to' to2 p2 v2) (q2 : p2 = a) (s3 : st1 rm rm' p3 v3) (q3 : p3 = a) (s4 : st1 gn gn' p4 v4) (q4 : p4 = a) (ha : a' = a + 1) : APA a' fr' to2 rm' gn' tl hd wt tu k := by
  obtain ⟨h1, h2, h3⟩ := h
  obtain ⟨n1, n2, n3, n4⟩ := hn
  refine ⟨by omega, by omega, fun j j0 j1 => ?_⟩
  by_cases e : j = k
  · rw [(s1 j j0).1 (by omega), (s2 j j0).1 (by omega), (s3 j j0).1 (by omega), (s4 j j0).1 (by omega), e]; exact ⟨n1, n2, n3, n4⟩
  · rw [(s1 j j0).2 (by omega), (s2 j j0).2 (by omega), (s3 j j0).2 (by omega), (s4 j j0).2 (by omega)]; exact h3 j j0 (by omega)
theorem apn_q0 {k k' a b c g : Int} {tl hd wt tu : Int → Int} (h : APQ tl hd wt tu k a b c) (hk : k' = k) (hg : g = 0) : APX tl hd wt tu k' a b c g := by
  obtain ⟨h1, h2, h3, h4⟩ := h
  subst hk
  refine ⟨?_, ?_, ?_, ?_⟩
  · unfold apF; rw [if_pos (by omega)]; exact h2
  · unfold apT; rw [if_pos (by omega)]; exact h3
  · unfold apR; rw [if_pos (by omega)]; exact h4
  · unfold apG; rw [if_neg (by omega), if_neg (by omega)]; exact hg
theorem apn_q1 {k k' a b c g : Int} {tl hd wt tu : Int → Int} (h : APQ tl hd wt tu k a b c) (hk : k' = k + 1) (hg : g = 0) : APX tl hd wt tu k' b a c g := by
  obtain ⟨h1, h2, h3, h4⟩ := h
  have q : k' / 4 = k / 4 := by omega
  refine ⟨?_, ?_, ?_, ?_⟩
  · unfold apF; rw [if_neg (by omega), q]; exact h3
  · unfold apT; rw [if_neg (by omega), q]; exact h2
  · unfold apR; rw [if_pos (by omega), q]; exact h4
  · unfold apG; rw [if_neg (by omega), if_neg (by omega)]; exact hg
theorem apn_h0 {k k' a b c g : Int} {tl hd wt tu : Int → Int} (h : APH tl hd wt tu k a b) (hk : k' = k) (hc : c = 1000000000) (hg : g = 1) : APX tl hd wt tu k' a b c g := by
  obtain ⟨h1, h2, h3⟩ := h
  subst hk
  refine ⟨?_, ?_, ?_, ?_⟩
  · unfold apF; rw [if_pos (by omega)]; exact h2
  · unfold apT; rw [if_pos (by omega)]; exact h3
  · unfold apR; rw [if_neg (by omega), if_pos (by omega)]; exact hc
  · unfold apG; rw [if_pos (by omega)]; exact hg
theorem apn_h1 {k k' a b c g : Int} {tl hd wt tu : Int → Int} (h : APH tl hd wt tu k a b) (hk : k' = k + 1) (hc : c = 0) (hg : g = -1) : APX tl hd wt tu k' b a c g := by
  obtain ⟨h1, h2, h3⟩ := h
  have q : k' / 4 = k / 4 := by omega
  refine ⟨?_, ?_, ?_, ?_⟩
  · unfold apF; rw [if_neg (by omega), q]; exact h3
  · unfold apT; rw [if_neg (by omega), q]; exact h2
  · unfold apR; rw [if_neg (by omega), if_neg (by omega)]; exact hc
  · unfold apG; rw [if_neg (by omega), if_pos (by omega)]; exact hg
theorem ap_start {a e : Int} {fr to' rm gn tl hd wt tu : Int → Int} (ha : a = 0) (he : e = 0) : AP4 a fr to' rm gn tl hd wt tu e := ⟨by omega, by omega, fun j a b => by omega⟩
theorem apq_of {k e a b c : Int} {tl hd wt tu : Int → Int} (hk : k = 4 * e) (ha : UPX tl hd tu e a) (hb : LOX tl hd tu e b) (hc : c = wt e) : APQ tl hd wt tu k a b c := by
  have q : k / 4 = e := by omega
  exact ⟨by omega, by rw [q]; exact ha, by rw [q]; exact hb, by rw [q]; exact hc⟩
theorem aph_of {k e a b : Int} {tl hd wt tu : Int → Int} (hk : k = 4 * e + 2) (ha : UPX tl hd tu e a) (hb : LOX tl hd tu e b) : APH tl hd wt tu k a b := by
  have q : k / 4 = e := by omega
  exact ⟨by omega, by rw [q]; exact ha, by rw [q]; exact hb⟩
/-- a potential of the edges as they are turned -/
def TPO (m : Int) (tl hd tu : Int → Int) : Prop := ∃ h : Int → Int, ∀ e, 0 ≤ e → e < m → h (upE tl hd tu e) < h (loE tl hd tu e)
/-- pressed together: how many nodes lie lower -/
theorem tpo_press {n m : Int} {tl hd tu : Int → Int} (h : TPO m tl hd tu) (hg : GKE n m tl hd) (n0 : 0 ≤ n) (n24 : n ≤ 24) : ∃ h : Int → Int, (∀ v, 0 ≤ v → v < n → 0 ≤ h v ∧ h v ≤ 23) ∧ ∀ e, 0 ≤ e → e < m → 1 ≤ h (loE tl hd tu e) - h (upE tl hd tu e) := by
  obtain ⟨p, hp⟩ := h
  refine ⟨fun v => cnb (fun u => p u < p v) n.toNat, fun v v0 v1 => ?_, fun e e0 e1 => ?_⟩
  · have c0 := cnb_le (fun u => p u < p v) n.toNat
    have c1 := cnb_more (P := fun u => p u < p v) (Q := fun _ => True) n.toNat (fun _ _ _ _ => trivial) v0 (by omega) (Int.lt_irrefl (p v)) trivial
    have c2 := cnb_le (fun _ => True) n.toNat
    show 0 ≤ cnb (fun u => p u < p v) n.toNat ∧ cnb (fun u => p u < p v) n.toNat ≤ 23
    omega
  · have q := up_in (tu := tu) hg e0 e1
    have := cnb_more (P := fun u => p u < p (upE tl hd tu e)) (Q := fun u => p u < p (loE tl hd tu e)) n.toNat (fun j _ _ a => Int.lt_trans a (hp e e0 e1)) q.1 (by omega) (Int.lt_irrefl _) (hp e e0 e1)
    show 1 ≤ cnb (fun u => p u < p (loE tl hd tu e)) n.toNat - cnb (fun u => p u < p (upE tl hd tu e)) n.toNat
    omega
theorem flo_ap {n m a e : Int} {fr to' rm gn tl hd wt tu : Int → Int} (h : AP4 a fr to' rm gn tl hd wt tu e) (he : e = m) (m0 : 0 ≤ m) (m48 : m ≤ 48) (n0 : 0 ≤ n) (n24 : n ≤ 24) (hg : GKE n m tl hd) (hp : TPO m tl hd tu) (hw : ∀ j, 0 ≤ j → j < 48 → 0 ≤ wt j ∧ wt j ≤ 9) : FLO0 n a fr to' rm gn := by
  obtain ⟨h1, h2, h3⟩ := h
  subst he
  have am : a / 4 = e := by omega
  have at4 : ∀ i r : Int, 0 ≤ i → i < e → 0 ≤ r → r < 4 → fr (4 * i + r) = apF tl hd tu (4 * i + r) ∧ to' (4 * i + r) = apT tl hd tu (4 * i + r) ∧ rm (4 * i + r) = apR wt (4 * i + r) ∧ gn (4 * i + r) = apG (4 * i + r) := fun i r i0 i1 r0 r1 => h3 _ (by omega) (by omega)
  have d4 : ∀ i r : Int, 0 ≤ r → r < 4 → (4 * i + r) / 4 = i := fun i r a b => by omega
  have f0 : ∀ i, 0 ≤ i → i < e → fr (4 * i) = upE tl hd tu i ∧ to' (4 * i) = loE tl hd tu i ∧ rm (4 * i) = wt i ∧ gn (4 * i) = 0 := fun i i0 i1 => by
    have q := at4 i 0 i0 i1 (by omega) (by omega)
    rw [show 4 * i + 0 = 4 * i by omega] at q
    have z : 4 * i / 4 = i := by omega
    unfold apF apT apR apG at q
    rw [if_pos (by omega), if_pos (by omega), if_pos (by omega), if_neg (by omega), if_neg (by omega), z] at q; exact q
  have f1 : ∀ i, 0 ≤ i → i < e → fr (4 * i + 1) = loE tl hd tu i ∧ to' (4 * i + 1) = upE tl hd tu i ∧ rm (4 * i + 1) = wt i ∧ gn (4 * i + 1) = 0 := fun i i0 i1 => by
    have q := at4 i 1 i0 i1 (by omega) (by omega)
    unfold apF apT apR apG at q
    rw [if_neg (by omega), if_neg (by omega), if_pos (by omega), if_neg (by omega), if_neg (by omega), d4 i 1 (by omega) (by omega)] at q; exact q
  have f2 : ∀ i, 0 ≤ i → i < e → fr (4 * i + 2) = upE tl hd tu i ∧ to' (4 * i + 2) = loE tl hd tu i ∧ rm (4 * i + 2) = 1000000000 ∧ gn (4 * i + 2) = 1 := fun i i0 i1 => by
    have q := at4 i 2 i0 i1 (by omega) (by omega)
    unfold apF apT apR apG at q
    rw [if_pos (by omega), if_pos (by omega), if_neg (by omega), if_pos (by omega), if_pos (by omega), d4 i 2 (by omega) (by omega)] at q; exact q
  have f3 : ∀ i, 0 ≤ i → i < e → fr (4 * i + 3) = loE tl hd tu i ∧ to' (4 * i + 3) = upE tl hd tu i ∧ rm (4 * i + 3) = 0 ∧ gn (4 * i + 3) = -1 := fun i i0 i1 => by
    have q := at4 i 3 i0 i1 (by omega) (by omega)
    unfold apF apT apR apG at q
    rw [if_neg (by omega), if_neg (by omega), if_neg (by omega), if_neg (by omega), if_neg (by omega), if_pos (by omega), d4 i 3 (by omega) (by omega)] at q; exact q
  have nwl : NWL n a fr to' gn := by
    refine ⟨n0, n24, by omega, by omega, fun k k0 k1 => ?_⟩
    have q := up_in (tu := tu) hg (e := k / 4) (by omega) (by omega)
    have r : k = 4 * (k / 4) ∨ k = 4 * (k / 4) + 1 ∨ k = 4 * (k / 4) + 2 ∨ k = 4 * (k / 4) + 3 := by omega
    have i0 : 0 ≤ k / 4 := by omega
    have i1 : k / 4 < e := by omega
    rcases r with r | r | r | r
    · have z := f0 _ i0 i1; rw [← r] at z; omega
    · have z := f1 _ i0 i1; rw [← r] at z; omega
    · have z := f2 _ i0 i1; rw [← r] at z; omega
    · have z := f3 _ i0 i1; rw [← r] at z; omega
  obtain ⟨g, g1, g2⟩ := tpo_press hp hg n0 n24
  refine ⟨nwl, by omega, fun i i0 i1 => ?_, g, ⟨g1, fun i i0 i1 => ?_⟩, ?_, ?_⟩
  · have z0 := f0 i i0 (by omega); have z1 := f1 i i0 (by omega); have z2 := f2 i i0 (by omega); have z3 := f3 i i0 (by omega)
    have w := hw i i0 (by omega)
    unfold LWB
    omega
  · rw [(f0 i i0 (by omega)).1, (f0 i i0 (by omega)).2.1]; exact g2 i i0 (by omega)
  · refine sm_nil (fun i i0 i1 => ?_)
    have z0 := f0 i i0 (by omega); have z1 := f1 i i0 (by omega); have z3 := f3 i i0 (by omega)
    unfold lwW
    rw [z0.2.2.1, z1.2.2.1, z3.2.2.1, show wt i - wt i - 2 * 0 = 0 by omega, Int.zero_mul]
  · exact sm_nn (fun i i0 i1 => by show 0 ≤ rm (4 * i + 3); rw [(f3 i i0 (by omega)).2.2.1]; omega)
/-- where the arcs of edges begin and end -/
def AFT (m : Int) (fr to' tl hd tu : Int → Int) : Prop := ∀ e, 0 ≤ e → e < m → fr (4 * e) = upE tl hd tu e ∧ to' (4 * e) = loE tl hd tu e
theorem aft_of {a e : Int} {fr to' rm gn tl hd wt tu : Int → Int} (h : AP4 a fr to' rm gn tl hd wt tu e) : AFT e fr to' tl hd tu := fun i i0 i1 => by
  have q := h.2.2 (4 * i) (by omega) (by omega)
  have z : 4 * i / 4 = i := by omega
  unfold apF apT at q
  rw [if_pos (by omega), if_pos (by omega), z] at q
  exact ⟨q.1, q.2.1⟩
/-! layers -/
def LYG (lc n m : Int) (lo tl hd tu : Int → Int) : Prop := GKE n m tl hd ∧ 0 ≤ n ∧ n ≤ 24 ∧ (1 ≤ n → 1 ≤ lc) ∧ (∀ v, 0 ≤ v → v < n → 0 ≤ lo v ∧ lo v < lc) ∧ ∀ e, 0 ≤ e → e < m → lo (upE tl hd tu e) + 1 ≤ lo (loE tl hd tu e)
def LYF (lc : Int) (lo pl : Int → Int) (v : Int) : Prop := 0 ≤ v ∧ (1 ≤ v → 1 ≤ lc) ∧ ∀ u, 0 ≤ u → u < v → lo u = pl u ∧ lo u < lc ∧ 0 ≤ lo u
theorem lyf_start {lc v : Int} {lo pl : Int → Int} (hv : v = 0) : LYF lc lo pl v := ⟨by omega, fun _ => by omega, fun u a b => by omega⟩
theorem lyf_step {lc lc' v v' p x y z : Int} {lo lo' pl : Int → Int} (h : LYF lc lo pl v) (hs : st1 lo lo' p x) (hp : p = v) (hx : x = pl v) (x0 : 0 ≤ x) (hy : y = lo' v) (hz : z = y + 1) (h1 : lc ≤ lc') (h2 : z ≤ lc') (hv : v' = v + 1) : LYF lc' lo' pl v' := by
  obtain ⟨a1, a2, a3⟩ := h
  have lv : lo' v = x := (hs v a1).1 (by omega)
  refine ⟨by omega, fun _ => by omega, fun u u0 u1 => ?_⟩
  by_cases e : u = v
  · rw [e, lv]; omega
  · rw [(hs u u0).2 (by omega)]; have := a3 u u0 (by omega); omega
theorem lyg_of {lc n a m v : Int} {lo pl fr to' tl hd tu : Int → Int} (h : LYF lc lo pl v) (hv : v = n) (hq : LYQ n a fr to' pl) (ha : a = 4 * m) (hf : AFT m fr to' tl hd tu) (hg : GKE n m tl hd) (n0 : 0 ≤ n) (n24 : n ≤ 24) : LYG lc n m lo tl hd tu := by
  subst hv
  refine ⟨hg, n0, n24, h.2.1, fun u a b => ⟨(h.2.2 u a b).2.2, (h.2.2 u a b).2.1⟩, fun e e0 e1 => ?_⟩
  have q := up_in (tu := tu) hg e0 e1
  have r := hq.2 e e0 (by omega)
  rw [(hf e e0 e1).1, (hf e e0 e1).2] at r
  rw [(h.2.2 _ q.1 q.2.1).1, (h.2.2 _ q.2.2.1 q.2.2.2).1]; exact r
/-! joints -/
def joE (lo tl hd tu : Int → Int) (e : Int) : Int := lo (loE tl hd tu e) - lo (upE tl hd tu e) - 1
def MI1 (it lc n m : Int) (lo fj tl hd tu : Int → Int) (e : Int) : Prop := LYG lc n m lo tl hd tu ∧ 0 ≤ e ∧ it = n + sm (joE lo tl hd tu) e ∧ n ≤ it ∧ it ≤ 72 ∧ (∀ i, 0 ≤ i → i < it → 0 ≤ lo i ∧ lo i < lc) ∧ ∀ j, 0 ≤ j → j < e → n ≤ fj j ∧ fj j + joE lo tl hd tu j ≤ it
def MI2 (it lc n m : Int) (lo fj tl hd tu : Int → Int) (e tp jo k : Int) : Prop := LYG lc n m lo tl hd tu ∧ 0 ≤ e ∧ e < m ∧ it = n + sm (joE lo tl hd tu) e + k ∧ 0 ≤ k ∧ k ≤ jo ∧ jo = joE lo tl hd tu e ∧ tp = lo (upE tl hd tu e) ∧ n ≤ it - k ∧ it - k + jo ≤ 72 ∧ fj e = it - k ∧ (∀ i, 0 ≤ i → i < it → 0 ≤ lo i ∧ lo i < lc) ∧ ∀ j, 0 ≤ j → j < e → n ≤ fj j ∧ fj j + joE lo tl hd tu j ≤ it
def MIT (it lc n m : Int) (lo fj tl hd tu : Int → Int) : Prop := LYG lc n m lo tl hd tu ∧ it = n + sm (joE lo tl hd tu) m ∧ n ≤ it ∧ it ≤ 72 ∧ (∀ i, 0 ≤ i → i < it → 0 ≤ lo i ∧ lo i < lc) ∧ ∀ j, 0 ≤ j → j < m → n ≤ fj j ∧ fj j + joE lo tl hd tu j ≤ it
def MIA (it lc n m : Int) (lo fj tl hd tu : Int → Int) (an : Int) : Prop := an = 0 ∨ MIT it lc n m lo fj tl hd tu
theorem lyg_jo {lc n m : Int} {lo tl hd tu : Int → Int} (h : LYG lc n m lo tl hd tu) {e : Int} (e0 : 0 ≤ e) (e1 : e < m) : 0 ≤ joE lo tl hd tu e ∧ 0 ≤ lo (upE tl hd tu e) ∧ lo (loE tl hd tu e) < lc := by
  have q := up_in (tu := tu) h.1 e0 e1
  have r := h.2.2.2.2.2 e e0 e1
  have a := h.2.2.2.2.1 _ q.1 q.2.1
  have b := h.2.2.2.2.1 _ q.2.2.1 q.2.2.2
  unfold joE; omega
theorem mi1_start {it lc n m e : Int} {lo fj tl hd tu : Int → Int} (h : LYG lc n m lo tl hd tu) (hi : it = n) (he : e = 0) : MI1 it lc n m lo fj tl hd tu e := by
  subst he
  exact ⟨h, by omega, by rw [sm_zero (Int.le_refl 0)]; omega, by omega, by have := h.2.2.1; omega, fun i a b => h.2.2.2.2.1 i a (by omega), fun j a b => by omega⟩
theorem mi2_start {it lc n m e tp a b d jo k p v q1 q2 s1 s2 : Int} {lo fj fj' tl hd tu : Int → Int} (h : MI1 it lc n m lo fj tl hd tu e) (e1 : e < m) (hs : st1 fj fj' p v) (hp : p = e) (hv : v = it) (ha : UPX tl hd tu e a) (htp : tp = lo a) (hb : LOX tl hd tu e b) (hd' : d = lo b) (h1 : s1 = d - tp) (h2 : jo = s1 - q1) (hq : q1 = 1) (h3 : s2 = it + jo) (h4 : s2 ≤ q2) (hq2 : q2 = 72) (hk : k = 0) : MI2 it lc n m lo fj' tl hd tu e tp jo k := by
  obtain ⟨a1, a2, a3, a4, a5, a6, a7⟩ := h
  have ja : jo = joE lo tl hd tu e := by unfold joE; rw [← ha, ← hb]; omega
  have jn := lyg_jo a1 a2 e1
  refine ⟨a1, a2, e1, by omega, by omega, by omega, ja, by rw [← ha]; exact htp, by omega, by omega, by rw [(hs e a2).1 (by omega)]; omega, a6, fun j j0 j1 => ?_⟩
  rw [(hs j j0).2 (by omega)]; exact a7 j j0 j1
theorem mi2_room {it lc n m e tp jo k : Int} {lo fj tl hd tu : Int → Int} (h : MI2 it lc n m lo fj tl hd tu e tp jo k) (hk : k < jo) (lc24 : lc ≤ 24) : 0 ≤ it ∧ it ≤ 71 ∧ 0 ≤ tp + 1 + k ∧ tp + 1 + k < lc ∧ tp + 1 + k ≤ 23 := by
  obtain ⟨a1, a2, a3, a4, a5, a6, a7, a8, a9, a10, a11, a12, a13⟩ := h
  have jn := lyg_jo a1 a2 a3
  have := a1.2.1
  unfold joE at a7 jn
  omega
theorem lyg_set {lc n m p v : Int} {lo lo' tl hd tu : Int → Int} (h : LYG lc n m lo tl hd tu) (hs : st1 lo lo' p v) (hp : n ≤ p) : LYG lc n m lo' tl hd tu ∧ ∀ e, 0 ≤ e → e < m → joE lo' tl hd tu e = joE lo tl hd tu e ∧ lo' (upE tl hd tu e) = lo (upE tl hd tu e) := by
  obtain ⟨h1, h2, h3, h3b, h4, h5⟩ := h
  have old : ∀ u, 0 ≤ u → u < n → lo' u = lo u := fun u a b => (hs u a).2 (by omega)
  have eq : ∀ e, 0 ≤ e → e < m → lo' (upE tl hd tu e) = lo (upE tl hd tu e) ∧ lo' (loE tl hd tu e) = lo (loE tl hd tu e) := fun e e0 e1 => by
    have q := up_in (tu := tu) h1 e0 e1
    exact ⟨old _ q.1 q.2.1, old _ q.2.2.1 q.2.2.2⟩
  refine ⟨⟨h1, h2, h3, h3b, fun v a b => by rw [old v a b]; exact h4 v a b, fun e e0 e1 => by rw [(eq e e0 e1).1, (eq e e0 e1).2]; exact h5 e e0 e1⟩, fun e e0 e1 => ⟨?_, (eq e e0 e1).1⟩⟩
  unfold joE; rw [(eq e e0 e1).1, (eq e e0 e1).2]
theorem mi2_step {it it' lc n m e tp jo k k' p v : Int} {lo lo' fj tl hd tu : Int → Int} (h : MI2 it lc n m lo fj tl hd tu e tp jo k) (hk : k < jo) (lc24 : lc ≤ 24) (hs : st1 lo lo' p v) (hp : p = it) (hv : v = tp + 1 + k) (hi : it' = it + 1) (hk' : k' = k + 1) : MI2 it' lc n m lo' fj tl hd tu e tp jo k' := by
  have rm := mi2_room h hk lc24
  obtain ⟨a1, a2, a3, a4, a5, a6, a7, a8, a9, a10, a11, a12, a13⟩ := h
  obtain ⟨b1, b2⟩ := lyg_set a1 hs (by omega)
  have ss : sm (joE lo' tl hd tu) e = sm (joE lo tl hd tu) e := sm_congr (fun j j0 j1 => (b2 j j0 (by omega)).1)
  refine ⟨b1, a2, a3, by rw [ss]; omega, by omega, by omega, by rw [(b2 e a2 a3).1]; exact a7, by rw [(b2 e a2 a3).2]; exact a8, by omega, by omega, by omega, fun i i0 i1 => ?_, fun j j0 j1 => by rw [(b2 j j0 (by omega)).1]; have := a13 j j0 j1; omega⟩
  by_cases c : i = it
  · rw [(hs i i0).1 (by omega)]; omega
  · rw [(hs i i0).2 (by omega)]; exact a12 i i0 (by omega)
theorem mi1_next {it lc n m e e' tp jo k : Int} {lo fj tl hd tu : Int → Int} (h : MI2 it lc n m lo fj tl hd tu e tp jo k) (hk : jo ≤ k) (he : e' = e + 1) : MI1 it lc n m lo fj tl hd tu e' := by
  obtain ⟨a1, a2, a3, a4, a5, a6, a7, a8, a9, a10, a11, a12, a13⟩ := h
  have jn := lyg_jo a1 a2 a3
  refine ⟨a1, by omega, by rw [sm_succ a2 he]; omega, by omega, by omega, a12, fun j j0 j1 => ?_⟩
  by_cases c : j = e
  · rw [c, ← a7]; omega
  · exact a13 j j0 (by omega)
theorem mit_of {it lc n m e : Int} {lo fj tl hd tu : Int → Int} (h : MI1 it lc n m lo fj tl hd tu e) (he : e = m) : MIT it lc n m lo fj tl hd tu := by
  subst he
  exact ⟨h.1, h.2.2.1, h.2.2.2.1, h.2.2.2.2.1, h.2.2.2.2.2.1, h.2.2.2.2.2.2⟩
/-! pieces: each edge has one between each two layers that it spans -/
def pcX (a b x : Int) : Int := if x ≤ a then 0 else if b ≤ x then b - a else x - a
def pcE (lo tl hd tu : Int → Int) (l e' : Int) (e : Int) : Int := pcX (lo (upE tl hd tu e)) (lo (loE tl hd tu e)) (if e < e' then l + 1 else l)
theorem pcE_lt {lo tl hd tu : Int → Int} {l e' e : Int} (h : e < e') : pcE lo tl hd tu l e' e = pcX (lo (upE tl hd tu e)) (lo (loE tl hd tu e)) (l + 1) := by unfold pcE; rw [if_pos h]
theorem pcE_ge {lo tl hd tu : Int → Int} {l e' e : Int} (h : e' ≤ e) : pcE lo tl hd tu l e' e = pcX (lo (upE tl hd tu e)) (lo (loE tl hd tu e)) l := by unfold pcE; rw [if_neg (by omega)]
theorem pcX_rng {a b x : Int} (h : a ≤ b) : 0 ≤ pcX a b x ∧ pcX a b x ≤ b - a := by unfold pcX; split <;> (try split) <;> omega
def MPI (it lc n m : Int) (lo fj tl hd tu pl : Int → Int) (l e pc : Int) : Prop := MIT it lc n m lo fj tl hd tu ∧ 0 ≤ l ∧ 0 ≤ e ∧ e ≤ m ∧ pc = sm (pcE lo tl hd tu l e) m ∧ ∀ j, 0 ≤ j → j < pc → 0 ≤ pl j ∧ pl j < it
theorem pc_le {it lc n m : Int} {lo fj tl hd tu : Int → Int} (h : MIT it lc n m lo fj tl hd tu) (m0 : 0 ≤ m) (l e : Int) : 0 ≤ sm (pcE lo tl hd tu l e) m ∧ sm (pcE lo tl hd tu l e) m ≤ it - n + m := by
  have hs : sm (fun j => joE lo tl hd tu j + 1) m = sm (joE lo tl hd tu) m + m := by
    rw [sm_add2 (f := joE lo tl hd tu) (g := fun _ => 1) (fun j _ _ => rfl)]
    have := smrg (f := fun _ => (1 : Int)) (lo := 1) (hi := 1) m0 (fun j _ _ => ⟨Int.le_refl _, Int.le_refl _⟩)
    omega
  have key : ∀ j, 0 ≤ j → j < m → 0 ≤ pcE lo tl hd tu l e j ∧ pcE lo tl hd tu l e j ≤ joE lo tl hd tu j + 1 := fun j j0 j1 => by
    have q := lyg_jo h.1 j0 j1
    unfold joE at q
    have r := pcX_rng (a := lo (upE tl hd tu j)) (b := lo (loE tl hd tu j)) (x := if j < e then l + 1 else l) (by omega)
    unfold joE
    unfold pcE
    omega
  refine ⟨sm_nn (fun j a b => (key j a b).1), ?_⟩
  have := sm_mono (fun j a b => (key j a b).2)
  have := h.2.1
  omega
theorem pc_more {it lc n m l e : Int} {lo fj tl hd tu : Int → Int} (h : MIT it lc n m lo fj tl hd tu) (e0 : 0 ≤ e) (e1 : e < m) (h1 : lo (upE tl hd tu e) ≤ l) (h2 : l < lo (loE tl hd tu e)) : sm (pcE lo tl hd tu l (e + 1)) m = sm (pcE lo tl hd tu l e) m + 1 := by
  rw [sm_pt (f := pcE lo tl hd tu l e) e0 e1 (fun j j0 j1 ne => ?_)]
  · rw [pcE_lt (show e < e + 1 by omega), pcE_ge (Int.le_refl e)]
    unfold pcX
    split <;> split <;> (try split) <;> (try split) <;> omega
  · by_cases c : j < e
    · rw [pcE_lt (show j < e + 1 by omega), pcE_lt c]
    · rw [pcE_ge (show e + 1 ≤ j by omega), pcE_ge (show e ≤ j by omega)]
theorem pc_skip {lo tl hd tu : Int → Int} {m l e : Int} (h : l < lo (upE tl hd tu e) ∨ lo (loE tl hd tu e) ≤ l) (hu : lo (upE tl hd tu e) + 1 ≤ lo (loE tl hd tu e)) : sm (pcE lo tl hd tu l (e + 1)) m = sm (pcE lo tl hd tu l e) m := sm_congr (fun j j0 j1 => by
  by_cases c : j < e
  · rw [pcE_lt (show j < e + 1 by omega), pcE_lt c]
  · by_cases d : j = e
    · subst d
      rw [pcE_lt (show j < j + 1 by omega), pcE_ge (Int.le_refl j)]
      unfold pcX
      split <;> split <;> (try split) <;> (try split) <;> omega
    · rw [pcE_ge (show e + 1 ≤ j by omega), pcE_ge (show e ≤ j by omega)])
theorem mpi_start {it lc n m l e pc : Int} {lo fj tl hd tu pl : Int → Int} (h : MIT it lc n m lo fj tl hd tu) (m0 : 0 ≤ m) (hl : l = 0) (he : e = 0) (hp : pc = 0) : MPI it lc n m lo fj tl hd tu pl l e pc := by
  subst hl he hp
  refine ⟨h, by omega, by omega, m0, ?_, fun j a b => by omega⟩
  exact (sm_nil (fun j j0 j1 => by
    have q := lyg_jo h.1 j0 j1
    rw [pcE_ge j0]
    unfold pcX
    rw [if_pos (by omega)])).symm
theorem mpi_next {it lc n m l l' e e' pc : Int} {lo fj tl hd tu pl : Int → Int} (h : MPI it lc n m lo fj tl hd tu pl l e pc) (he : m ≤ e) (hl : l' = l + 1) (he' : e' = 0) : MPI it lc n m lo fj tl hd tu pl l' e' pc := by
  obtain ⟨a1, a2, a3, a4, a5, a6⟩ := h
  refine ⟨a1, by omega, by omega, by omega, ?_, a6⟩
  rw [a5]
  exact sm_congr (fun j j0 j1 => by rw [pcE_lt (show j < e by omega), pcE_ge (show e' ≤ j by omega), hl])
theorem mpi_skip {it lc n m l e e' pc a b tp bt : Int} {lo fj tl hd tu pl : Int → Int} (h : MPI it lc n m lo fj tl hd tu pl l e pc) (e1 : e < m) (ha : UPX tl hd tu e a) (htp : tp = lo a) (hb : LOX tl hd tu e b) (hbt : bt = lo b) (hc : l < tp ∨ bt ≤ l) (he : e' = e + 1) : MPI it lc n m lo fj tl hd tu pl l e' pc := by
  obtain ⟨a1, a2, a3, a4, a5, a6⟩ := h
  have q := lyg_jo a1.1 a3 e1
  unfold joE at q
  refine ⟨a1, a2, by omega, by omega, ?_, a6⟩
  rw [he, pc_skip (by rw [← ha, ← hb]; omega) (by omega)]; exact a5
theorem mpi_room {it lc n m l e pc a b tp bt : Int} {lo fj tl hd tu pl : Int → Int} (h : MPI it lc n m lo fj tl hd tu pl l e pc) (e1 : e < m) (m48 : m ≤ 48) (ha : UPX tl hd tu e a) (htp : tp = lo a) (hb : LOX tl hd tu e b) (hbt : bt = lo b) (h1 : tp ≤ l) (h2 : l < bt) : 0 ≤ pc ∧ pc ≤ 119 := by
  obtain ⟨a1, a2, a3, a4, a5, a6⟩ := h
  have q := pc_more (l := l) a1 a3 e1 (by rw [← ha]; omega) (by rw [← hb]; omega)
  have r := pc_le a1 (by omega) l (e + 1)
  have s := pc_le a1 (by omega) l e
  have := a1.2.2.2.1
  have g := up_in (tu := tu) a1.1.1 a3 e1
  omega
theorem mpi_fj {it lc n m l e pc a b tp bt f : Int} {lo fj tl hd tu pl : Int → Int} (h : MPI it lc n m lo fj tl hd tu pl l e pc) (e1 : e < m) (ha : UPX tl hd tu e a) (htp : tp = lo a) (hb : LOX tl hd tu e b) (hbt : bt = lo b) (hf : f = fj e) : 0 ≤ a ∧ a < it ∧ 0 ≤ b ∧ b < it ∧ n ≤ f ∧ f + (bt - tp - 1) ≤ it ∧ it ≤ 72 ∧ 0 ≤ n := by
  obtain ⟨a1, a2, a3, a4, a5, a6⟩ := h
  have g := up_in (tu := tu) a1.1.1 a3 e1
  have q := a1.2.2.2.2.2 e a3 e1
  unfold joE at q
  rw [← ha, ← hb] at g q
  have := a1.2.2.1; have := a1.2.2.2.1; have := a1.1.2.1
  omega
theorem mpi_take {it lc n m l e e' pc pc' a b tp bt p v : Int} {lo fj tl hd tu pl pl' : Int → Int} (h : MPI it lc n m lo fj tl hd tu pl l e pc) (e1 : e < m) (ha : UPX tl hd tu e a) (htp : tp = lo a) (hb : LOX tl hd tu e b) (hbt : bt = lo b) (h1 : tp ≤ l) (h2 : l < bt) (hs : st1 pl pl' p v) (hp : p = pc) (v0 : 0 ≤ v) (v1 : v < it) (he : e' = e + 1) (hc : pc' = pc + 1) : MPI it lc n m lo fj tl hd tu pl' l e' pc' := by
  obtain ⟨a1, a2, a3, a4, a5, a6⟩ := h
  have q := pc_more (l := l) a1 a3 e1 (by rw [← ha]; omega) (by rw [← hb]; omega)
  refine ⟨a1, a2, by omega, by omega, by rw [he, q]; omega, fun j j0 j1 => ?_⟩
  by_cases c : j = pc
  · rw [(hs j j0).1 (by omega)]; exact ⟨v0, v1⟩
  · rw [(hs j j0).2 (by omega)]; exact a6 j j0 (by omega)
theorem mpi_end {it lc n m l e pc : Int} {lo fj tl hd tu pl : Int → Int} (h : MPI it lc n m lo fj tl hd tu pl l e pc) (m48 : m ≤ 48) : 0 ≤ pc ∧ pc ≤ 120 := by
  obtain ⟨a1, a2, a3, a4, a5, a6⟩ := h
  have r := pc_le a1 (by omega) l e
  have := a1.2.2.2.1; have := a1.1.2.1
  omega
def MPL (it lc n m : Int) (lo fj pl ps tl hd tu : Int → Int) (l pc : Int) : Prop := MPI it lc n m lo fj tl hd tu pl l 0 pc ∧ ∀ l', 0 ≤ l' → l' < l → 0 ≤ ps l' ∧ ps l' ≤ pc
def MPM (it lc n m : Int) (lo fj pl ps tl hd tu : Int → Int) (l e pc : Int) : Prop := MPI it lc n m lo fj tl hd tu pl l e pc ∧ ∀ l', 0 ≤ l' → l' ≤ l → 0 ≤ ps l' ∧ ps l' ≤ pc
def PCL (it lc : Int) (pl ps : Int → Int) : Prop := ∀ l, 0 ≤ l → l < lc → 0 ≤ ps l ∧ ∀ j, 0 ≤ j → j < ps l → 0 ≤ pl j ∧ pl j < it
theorem mpl_start {it lc n m l pc : Int} {lo fj pl ps tl hd tu : Int → Int} (h : MIT it lc n m lo fj tl hd tu) (m0 : 0 ≤ m) (hl : l = 0) (hp : pc = 0) : MPL it lc n m lo fj pl ps tl hd tu l pc := ⟨mpi_start h m0 hl rfl hp, fun l' a b => by omega⟩
theorem mpm_start {it lc n m l e pc p v : Int} {lo fj pl ps ps' tl hd tu : Int → Int} (h : MPL it lc n m lo fj pl ps tl hd tu l pc) (hs : st1 ps ps' p v) (hp : p = l) (hv : v = pc) (pc0 : 0 ≤ pc) (he : e = 0) : MPM it lc n m lo fj pl ps' tl hd tu l e pc := by
  subst he
  refine ⟨h.1, fun l' a b => ?_⟩
  by_cases c : l' = l
  · rw [(hs l' a).1 (by omega)]; omega
  · rw [(hs l' a).2 (by omega)]; exact h.2 l' a (by omega)
theorem mpl_next {it lc n m l l' e pc : Int} {lo fj pl ps tl hd tu : Int → Int} (h : MPM it lc n m lo fj pl ps tl hd tu l e pc) (he : m ≤ e) (hl : l' = l + 1) : MPL it lc n m lo fj pl ps tl hd tu l' pc := ⟨mpi_next h.1 he hl rfl, fun k a b => h.2 k a (by omega)⟩
theorem pcl_of {it lc n m l pc p v : Int} {lo fj pl ps ps' tl hd tu : Int → Int} (h : MPL it lc n m lo fj pl ps tl hd tu l pc) (hl : lc ≤ l + 1) (hs : st1 ps ps' p v) (hp : p = lc - 1) (hv : v = pc) (pc0 : 0 ≤ pc) : PCL it lc pl ps' := fun k k0 k1 => by
  have q : 0 ≤ ps' k ∧ ps' k ≤ pc := by
    by_cases c : k = lc - 1
    · rw [(hs k k0).1 (by omega)]; omega
    · rw [(hs k k0).2 (by omega)]; exact h.2 k k0 (by omega)
  exact ⟨q.1, fun j j0 j1 => h.1.2.2.2.2.2 j j0 (by omega)⟩
/-! bends of an edge are its joints -/
def WRS (lo tl hd tu : Int → Int) (e sp : Int) : Prop := sp = joE lo tl hd tu e + 1
theorem wrs_of {lo tl hd tu : Int → Int} {e sp a b x y : Int} (ha : UPX tl hd tu e a) (hb : LOX tl hd tu e b) (hx : x = lo a) (hy : y = lo b) (hs : sp = y - x) : WRS lo tl hd tu e sp := by
  unfold WRS joE; rw [← ha, ← hb]; omega
theorem wrs_in {it lc n m e sp f : Int} {lo fj tl hd tu : Int → Int} (h : MIT it lc n m lo fj tl hd tu) (hw : WRS lo tl hd tu e sp) (e0 : 0 ≤ e) (e1 : e < m) (hf : f = fj e) (lc24 : lc ≤ 24) : 0 ≤ f ∧ f + sp - 1 ≤ 72 ∧ 1 ≤ sp ∧ sp ≤ 23 := by
  have q := h.2.2.2.2.2 e e0 e1
  have j := lyg_jo h.1 e0 e1
  have := h.2.2.2.1; have := h.1.2.1
  unfold WRS at hw
  unfold joE at q j hw
  omega
theorem mpm_take {it lc n m l e e' pc pc' a b tp bt p v : Int} {lo fj pl pl' ps tl hd tu : Int → Int} (h : MPM it lc n m lo fj pl ps tl hd tu l e pc) (e1 : e < m) (ha : UPX tl hd tu e a) (htp : tp = lo a) (hb : LOX tl hd tu e b) (hbt : bt = lo b) (h1 : tp ≤ l) (h2 : l < bt) (hs : st1 pl pl' p v) (hp : p = pc) (hv : 0 ≤ v ∧ v < it) (he : e' = e + 1) (hc : pc' = pc + 1) : MPM it lc n m lo fj pl' ps tl hd tu l e' pc' := ⟨mpi_take h.1 e1 ha htp hb hbt h1 h2 hs hp hv.1 hv.2 he hc, fun l' x y => by have := h.2 l' x y; omega⟩
theorem mpm_lo {it lc n m l e pc b : Int} {lo fj pl ps tl hd tu : Int → Int} (h : MPM it lc n m lo fj pl ps tl hd tu l e pc) (e1 : e < m) (hb : LOX tl hd tu e b) : 0 ≤ b ∧ b < it := by
  have g := up_in (tu := tu) h.1.1.1.1 h.1.2.2.1 e1
  have := h.1.1.2.2.1
  rw [← hb] at g; omega
