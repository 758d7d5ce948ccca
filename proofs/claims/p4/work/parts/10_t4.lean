/-- neighbours and the first edges -/
def GNK (n : Int) (nr tl hd : Int → Int) (k : Int) : Prop := GNO n nr ∧ GEN n k nr tl hd
def GNL (n : Int) (nr tl hd : Int → Int) (k : Int) : Prop := GNK n nr tl hd (k + 1)
theorem gnk_zero {n k : Int} {nr tl hd : Int → Int} (n24 : n ≤ 24) (h : ∀ j, 0 ≤ j → j < 24 → nr j = 0) (hk : k = 0) : GNK n nr tl hd k := ⟨gnb_zero n24 h, fun e a b => by omega, fun u w u0 u1 _ _ z => by
  rw [h u u0 (by omega)] at z
  exact absurd z (by unfold bit bvp; simp)⟩
theorem gnk_tie {n k a b x y q1 q2 z1 z2 o1 o2 s1 s2 : Int} {nr nr1 nr2 tl hd : Int → Int} (h : GNK n nr tl hd k) (hc : ∀ e, 0 ≤ e → e < k → (0 ≤ tl e ∧ tl e < n) ∧ 0 ≤ hd e ∧ hd e < n) (k0 : 0 ≤ k) (ha : tl k = a) (hb : hd k = b) (n24 : n ≤ 24) (a0 : 0 ≤ a) (an : a < n) (b0 : 0 ≤ b) (bn : b < n) (ne : a ≠ b) (hq1 : bvp q1 = bvp o1 <<< s1.toNat) (h1 : o1 = 1) (e1 : s1 = b) (hz1 : z1 = nr a) (hx : bvp x = bvp z1 ||| bvp q1) (hs1 : st1 nr nr1 a x) (hq2 : bvp q2 = bvp o2 <<< s2.toNat) (h2 : o2 = 1) (e2 : s2 = a) (hz2 : z2 = nr1 b) (hy : bvp y = bvp z2 ||| bvp q2) (hs2 : st1 nr1 nr2 b y) : GNL n nr2 tl hd k := by
  subst h1; subst h2; subst e1; subst e2
  have T := fun {u w : Int} (u0 : 0 ≤ u) (w0 : 0 ≤ w) (w1 : w < 32) => tie_bits a0 (by omega) b0 (by omega) ne hq1 hz1 hx hs1 rfl hq2 hz2 hy hs2 rfl u0 w0 w1
  refine ⟨gnb_tie h.1 n24 a0 an b0 bn ne hq1 hz1 hx hs1 rfl hq2 hz2 hy hs2 rfl, fun e e0 e1 => ?_, fun u w u0 u1 w0 w1 z => ?_⟩
  · by_cases c : e = k
    · rw [c, ha, hb]
      exact ⟨(T a0 b0 (by omega)).2 (Or.inr (Or.inl ⟨rfl, rfl⟩)), (T b0 a0 (by omega)).2 (Or.inr (Or.inr ⟨rfl, rfl⟩))⟩
    · have q := h.2.1 e e0 (by omega)
      have r := hc e e0 (by omega)
      exact ⟨(T r.1.1 r.2.1 (by omega)).2 (Or.inl q.1), (T r.2.1 r.1.1 (by omega)).2 (Or.inl q.2)⟩
  · rcases (T u0 w0 (by omega)).1 z with c | ⟨c, d⟩ | ⟨c, d⟩
    · obtain ⟨e, e0, e1, e2⟩ := h.2.2 u w u0 u1 w0 w1 c
      exact ⟨e, e0, by omega, e2⟩
    · exact ⟨k, k0, by omega, Or.inl ⟨by omega, by omega⟩⟩
    · exact ⟨k, k0, by omega, Or.inr ⟨by omega, by omega⟩⟩
theorem gnk_edge {n m k p1 p2 a b : Int} {nr tl tl' hd hd' : Int → Int} (h : GNB n m nr tl hd) (m0 : 0 ≤ m) (hs1 : st1 tl tl' p1 a) (hp1 : p1 = m) (hs2 : st1 hd hd' p2 b) (hp2 : p2 = m) (hk : k = m) : GNK n nr tl' hd' k := by
  refine ⟨h.1, fun e e0 e1 => ?_, fun u w u0 u1 w0 w1 z => ?_⟩
  · rw [(hs1 e e0).2 (by omega), (hs2 e e0).2 (by omega)]; exact h.2.1 e e0 (by omega)
  · obtain ⟨e, e0, e1, e2⟩ := h.2.2 u w u0 u1 w0 w1 z
    exact ⟨e, e0, by omega, by rw [(hs1 e e0).2 (by omega), (hs2 e e0).2 (by omega)]; exact e2⟩
theorem gnb_ofk {n m k : Int} {nr tl hd : Int → Int} (h : GNK n nr tl hd k) (hk : k = m) : GNB n m nr tl hd := by rw [← hk]; exact h
theorem gnb_ofl {n m k : Int} {nr tl hd : Int → Int} (h : GNL n nr tl hd k) (hk : m = k + 1) : GNB n m nr tl hd := by rw [hk]; exact h
theorem gnk_ofl {n m k : Int} {nr tl hd : Int → Int} (h : GNL n nr tl hd k) (hk : m = k + 1) : GNK n nr tl hd m := by rw [hk]; exact h
/-- graphs: nodes and edges come and go -/
theorem gnb_node {n x p n' : Int} {nr nr' : Int → Int} (h : GNO n nr) (n0 : 0 ≤ n) (n23 : n ≤ 23) (hs : st1 nr nr' p x) (hp : p = n) (hx : x = 0) (hn : n' = n + 1) : GNO n' nr' := fun u w u0 u1 w0 w1 hb => by
  subst hn
  by_cases c : u = n
  · rw [(hs u u0).1 (by omega), hx] at hb
    exact absurd hb (by unfold bit bvp; simp)
  · rw [(hs u u0).2 (by omega)] at hb
    have q := h u w u0 (by omega) w0 w1 hb
    refine ⟨by omega, ?_⟩
    rw [(hs w w0).2 (by omega)]; exact q.2
theorem gnb_node2 {n m x p n' : Int} {nr nr' tl hd : Int → Int} (h : GNB n m nr tl hd) (hc : GKE n m tl hd) (n0 : 0 ≤ n) (n23 : n ≤ 23) (hs : st1 nr nr' p x) (hp : p = n) (hx : x = 0) (hn : n' = n + 1) : GNB n' m nr' tl hd := by
  refine ⟨gnb_node h.1 n0 n23 hs hp hx hn, fun e e0 e1 => ?_, fun u w u0 u1 w0 w1 z => ?_⟩
  · have q := hc e e0 e1
    rw [(hs _ (by omega)).2 (by omega), (hs _ (by omega)).2 (by omega)]; exact h.2.1 e e0 e1
  · by_cases c : u = n
    · rw [(hs u u0).1 (by omega), hx] at z
      exact absurd z (by unfold bit bvp; simp)
    · rw [(hs u u0).2 (by omega)] at z
      have q := h.1 u w u0 (by omega) w0 (by omega) z
      exact h.2.2 u w u0 (by omega) w0 q.1 z
theorem gnb_none2 {n m : Int} {nr tl hd : Int → Int} (hn : n ≤ 0) (hm : m ≤ 0) : GNB n m nr tl hd := ⟨fun u w u0 u1 => by omega, fun e a b => by omega, fun u w u0 u1 => by omega⟩
theorem gke_node {n n' m : Int} {tl hd : Int → Int} (h : GKE n m tl hd) (hn : n' = n + 1) : GKE n' m tl hd := fun e a b => by
  have q := h e a b; omega
theorem gke_none {n m : Int} {tl hd : Int → Int} (hm : m ≤ 0) : GKE n m tl hd := fun e a b => by omega
theorem gnb_none {n : Int} {nr : Int → Int} (hn : n ≤ 0) : GNO n nr := fun u w u0 u1 => by omega
theorem gke_edge {n m m' p1 p2 a b : Int} {tl tl' hd hd' : Int → Int} (h : GKE n m tl hd) (a0 : 0 ≤ a) (a1 : a < n) (b0 : 0 ≤ b) (b1 : b < n) (ne : a ≠ b) (hs1 : st1 tl tl' p1 a) (hp1 : p1 = m) (hs2 : st1 hd hd' p2 b) (hp2 : p2 = m) (hm : m' = m + 1) : GKE n m' tl' hd' := fun e e0 e1 => by
  by_cases c : e = m
  · rw [(hs1 e e0).1 (by omega), (hs2 e e0).1 (by omega)]; omega
  · rw [(hs1 e e0).2 (by omega), (hs2 e e0).2 (by omega)]; exact h e e0 (by omega)
/-- an edge is taken out: the ends of those behind it move up by one -/
def NOE (tl hd : Int → Int) (a b i : Int) : Prop := ∀ j, a ≤ j → j < b → tl j ≠ i ∧ hd j ≠ i
def RT1n (d s h : Int → Int) (sp dp n N M i : Int) : Prop := GKE N M d h ∧ NOE d h (dp + 1) M i ∧ sp = dp + 1 ∧ n = M - dp - 1 ∧ 0 ≤ dp ∧ dp < M ∧ ∀ j, s j = d j
def RT2n (d s h : Int → Int) (sp dp n N M i : Int) : Prop := ∃ t, RT1n t t h sp dp n N M i ∧ ∀ j, 0 ≤ j → d j = if dp ≤ j ∧ j < dp + n then t (sp + (j - dp)) else t j
def RH1n (d s t : Int → Int) (sp dp n N M i : Int) : Prop := RT2n t t d sp dp n N M i ∧ ∀ j, s j = d j
def RH2n (d s t : Int → Int) (sp dp n N M i : Int) : Prop := GKE N (M - 1) t d ∧ NOE t d dp (M - 1) i
def RT1 (d s h : Int → Int) (sp dp n N M : Int) : Prop := RT1n d s h sp dp n N M (-1)
def RT2 (d s h : Int → Int) (sp dp n N M : Int) : Prop := RT2n d s h sp dp n N M (-1)
def RH1 (d s h : Int → Int) (sp dp n N M : Int) : Prop := RH1n d s h sp dp n N M (-1)
def RH2 (d s h : Int → Int) (sp dp n N M : Int) : Prop := RH2n d s h sp dp n N M (-1)
def NOQ (m : Int) (tl hd : Int → Int) (e i : Int) : Prop := NOE tl hd (e + 1) m i
def NOS (m : Int) (tl hd : Int → Int) (e i : Int) : Prop := NOE tl hd e m i
theorem rt1n_of {N M i sp dp n N' M' i' : Int} {tl hd : Int → Int} (h : GKE N M tl hd) (ho : NOQ M tl hd dp i) (e1 : sp = dp + 1) (e2 : n = M - dp - 1) (d0 : 0 ≤ dp) (d1 : dp < M) (eN : N' = N) (eM : M' = M) (ei : i' = i) : RT1n tl tl hd sp dp n N' M' i' := by
  subst eN; subst eM; subst ei; exact ⟨h, ho, e1, e2, d0, d1, fun _ => rfl⟩
theorem rt1_of {N M sp dp n N' M' : Int} {tl hd : Int → Int} (h : GKE N M tl hd) (e1 : sp = dp + 1) (e2 : n = M - dp - 1) (d0 : 0 ≤ dp) (d1 : dp < M) (eN : N' = N) (eM : M' = M) : RT1 tl tl hd sp dp n N' M' :=
  rt1n_of h (fun j a b => by have q := h j (by omega) b; omega) e1 e2 d0 d1 eN eM rfl
theorem rt_copy {D S H D' : Int → Int} {sp dp n N M i : Int} (h1 : ∀ j, 0 ≤ j → D' j = if dp ≤ j ∧ j < dp + n then S (sp + (j - dp)) else D j) (h : RT1n D S H sp dp n N M i) {S' H' : Int → Int} (hh : ∀ j, H' j = H j) : RT2n D' S' H' sp dp n N M i := by
  have e : H' = H := funext hh
  subst e
  refine ⟨D, ⟨h.1, h.2.1, h.2.2.1, h.2.2.2.1, h.2.2.2.2.1, h.2.2.2.2.2.1, fun _ => rfl⟩, fun j a => ?_⟩
  rw [h1 j a, h.2.2.2.2.2.2]
theorem rh_copy {D S T D' : Int → Int} {sp dp n N M i : Int} (h1 : ∀ j, 0 ≤ j → D' j = if dp ≤ j ∧ j < dp + n then S (sp + (j - dp)) else D j) (h : RH1n D S T sp dp n N M i) {S' T' : Int → Int} (hh : ∀ j, T' j = T j) : RH2n D' S' T' sp dp n N M i := by
  have e : T' = T := funext hh
  subst e
  obtain ⟨⟨t, ⟨hg, hn, e1, e2, d0, d1, _⟩, ht⟩, hs⟩ := h
  refine ⟨fun j a b => ?_, fun j a b => ?_⟩
  · rw [ht j a, h1 j a]
    by_cases c : dp ≤ j ∧ j < dp + n
    · rw [if_pos c, if_pos c, hs]; exact hg _ (by omega) (by omega)
    · rw [if_neg c, if_neg c]; exact hg j a (by omega)
  · have c : dp ≤ j ∧ j < dp + n := ⟨a, by omega⟩
    rw [ht j (by omega), h1 j (by omega), if_pos c, if_pos c, hs]; exact hn _ (by omega) (by omega)
theorem rt1n_rt2n {U U' : Nat → Int → Int} {xs : List Int} {sp dp n : Int} (_ : 0 ≤ sp) (_ : 0 ≤ dp) (_ : 0 ≤ n) (h1 : ∀ j, 0 ≤ j → U' 0 j = if dp ≤ j ∧ j < dp + n then U 1 (sp + (j - dp)) else U 0 j) (_ : (∀ j, U' 1 j = U 1 j) ∨ ((∀ j, U' 1 j = U' 0 j) ∧ ∀ j, U 1 j = U 0 j)) (h3 : ∀ i, 2 ≤ i → ∀ j, U' i j = U i j) (e1 : xs.getD 3 0 = sp) (e2 : xs.getD (3 + 1) 0 = dp) (e3 : xs.getD (3 + 2) 0 = n) (h : RT1n (U 0) (U 1) (U 2) (xs.getD 3 0) (xs.getD 4 0) (xs.getD 5 0) (xs.getD 6 0) (xs.getD 7 0) (xs.getD 8 0)) : RT2n (U' 0) (U' 1) (U' 2) (xs.getD 3 0) (xs.getD 4 0) (xs.getD 5 0) (xs.getD 6 0) (xs.getD 7 0) (xs.getD 8 0) := by
  subst e1; subst e2; subst e3
  exact rt_copy h1 h (h3 2 (by omega))
theorem rt1_rt2 {U U' : Nat → Int → Int} {xs : List Int} {sp dp n : Int} (_ : 0 ≤ sp) (_ : 0 ≤ dp) (_ : 0 ≤ n) (h1 : ∀ j, 0 ≤ j → U' 0 j = if dp ≤ j ∧ j < dp + n then U 1 (sp + (j - dp)) else U 0 j) (_ : (∀ j, U' 1 j = U 1 j) ∨ ((∀ j, U' 1 j = U' 0 j) ∧ ∀ j, U 1 j = U 0 j)) (h3 : ∀ i, 2 ≤ i → ∀ j, U' i j = U i j) (e1 : xs.getD 3 0 = sp) (e2 : xs.getD (3 + 1) 0 = dp) (e3 : xs.getD (3 + 2) 0 = n) (h : RT1 (U 0) (U 1) (U 2) (xs.getD 3 0) (xs.getD 4 0) (xs.getD 5 0) (xs.getD 6 0) (xs.getD 7 0)) : RT2 (U' 0) (U' 1) (U' 2) (xs.getD 3 0) (xs.getD 4 0) (xs.getD 5 0) (xs.getD 6 0) (xs.getD 7 0) := by
  subst e1; subst e2; subst e3
  exact rt_copy h1 h (h3 2 (by omega))
theorem rh1n_rh2n {U U' : Nat → Int → Int} {xs : List Int} {sp dp n : Int} (_ : 0 ≤ sp) (_ : 0 ≤ dp) (_ : 0 ≤ n) (h1 : ∀ j, 0 ≤ j → U' 0 j = if dp ≤ j ∧ j < dp + n then U 1 (sp + (j - dp)) else U 0 j) (_ : (∀ j, U' 1 j = U 1 j) ∨ ((∀ j, U' 1 j = U' 0 j) ∧ ∀ j, U 1 j = U 0 j)) (h3 : ∀ i, 2 ≤ i → ∀ j, U' i j = U i j) (e1 : xs.getD 3 0 = sp) (e2 : xs.getD (3 + 1) 0 = dp) (e3 : xs.getD (3 + 2) 0 = n) (h : RH1n (U 0) (U 1) (U 2) (xs.getD 3 0) (xs.getD 4 0) (xs.getD 5 0) (xs.getD 6 0) (xs.getD 7 0) (xs.getD 8 0)) : RH2n (U' 0) (U' 1) (U' 2) (xs.getD 3 0) (xs.getD 4 0) (xs.getD 5 0) (xs.getD 6 0) (xs.getD 7 0) (xs.getD 8 0) := by
  subst e1; subst e2; subst e3
  exact rh_copy h1 h (h3 2 (by omega))
theorem rh1_rh2 {U U' : Nat → Int → Int} {xs : List Int} {sp dp n : Int} (_ : 0 ≤ sp) (_ : 0 ≤ dp) (_ : 0 ≤ n) (h1 : ∀ j, 0 ≤ j → U' 0 j = if dp ≤ j ∧ j < dp + n then U 1 (sp + (j - dp)) else U 0 j) (_ : (∀ j, U' 1 j = U 1 j) ∨ ((∀ j, U' 1 j = U' 0 j) ∧ ∀ j, U 1 j = U 0 j)) (h3 : ∀ i, 2 ≤ i → ∀ j, U' i j = U i j) (e1 : xs.getD 3 0 = sp) (e2 : xs.getD (3 + 1) 0 = dp) (e3 : xs.getD (3 + 2) 0 = n) (h : RH1 (U 0) (U 1) (U 2) (xs.getD 3 0) (xs.getD 4 0) (xs.getD 5 0) (xs.getD 6 0) (xs.getD 7 0)) : RH2 (U' 0) (U' 1) (U' 2) (xs.getD 3 0) (xs.getD 4 0) (xs.getD 5 0) (xs.getD 6 0) (xs.getD 7 0) := by
  subst e1; subst e2; subst e3
  exact rh_copy h1 h (h3 2 (by omega))
theorem rh1n_of {d s t : Int → Int} {sp dp n N M i sp' dp' n' N' M' i' : Int} (h : RT2n t s d sp dp n N M i) (a : sp' = sp) (b : dp' = dp) (c : n' = n) (e : N' = N) (f : M' = M) (g : i' = i) : RH1n d d t sp' dp' n' N' M' i' := by
  subst a; subst b; subst c; subst e; subst f; subst g; exact ⟨h, fun _ => rfl⟩
theorem rh1_of {d s t : Int → Int} {sp dp n N M sp' dp' n' N' M' : Int} (h : RT2 t s d sp dp n N M) (a : sp' = sp) (b : dp' = dp) (c : n' = n) (e : N' = N) (f : M' = M) : RH1 d d t sp' dp' n' N' M' := rh1n_of h a b c e f rfl
theorem gke_rh {d s t : Int → Int} {sp dp n N M i N' M' : Int} (h : RH2n d s t sp dp n N M i) (e : N' = N) (f : M' = M - 1) : GKE N' M' t d := by
  subst e; subst f; exact h.1
theorem nos_rh {d s t : Int → Int} {sp dp n N M i M' x i' : Int} (h : RH2n d s t sp dp n N M i) (f : M' = M - 1) (hx : x = dp) (g : i' = i) : NOS M' t d x i' := by
  subst g; subst f; subst hx; exact h.2
/-- a node is taken out -/
def RN1 (m : Int) (tl hd : Int → Int) (i e : Int) : Prop := -1 ≤ e ∧ e < m ∧ NOE tl hd (e + 1) m i
def RN2 (n m : Int) (tl hd : Int → Int) (i e : Int) : Prop := 0 ≤ e ∧ (∀ j, 0 ≤ j → j < e → 0 ≤ tl j ∧ tl j < n - 1 ∧ 0 ≤ hd j ∧ hd j < n - 1 ∧ tl j ≠ hd j) ∧ ∀ j, e ≤ j → j < m → 0 ≤ tl j ∧ tl j < n ∧ 0 ≤ hd j ∧ hd j < n ∧ tl j ≠ hd j ∧ tl j ≠ i ∧ hd j ≠ i
theorem rn1_noq {m i e x y : Int} {tl hd : Int → Int} (h : RN1 m tl hd i e) (hx : x = e) (hy : y = i) : NOQ m tl hd x y := by subst hx; subst hy; exact h.2.2
theorem rn1_keep {m i e e' : Int} {tl hd : Int → Int} (h : RN1 m tl hd i e) (e0 : 0 ≤ e) (h1 : tl e ≠ i) (h2 : hd e ≠ i) (he : e' = e - 1) : RN1 m tl hd i e' := by
  refine ⟨by omega, by have := h.2.1; omega, fun j a b => ?_⟩
  by_cases c : j = e
  · subst c; exact ⟨h1, h2⟩
  · exact h.2.2 j (by omega) b
theorem rn1_drop {m i i' e x e' : Int} {tl hd : Int → Int} (h : NOS m tl hd x i) (hm : e ≤ m) (hx : x = e) (e0 : 0 ≤ e) (he : e' = e - 1) (hi : i' = i) : RN1 m tl hd i' e' := by
  subst hi; exact ⟨by omega, by omega, fun j a b => h j (by omega) b⟩
theorem rn2_start {n m i e e' : Int} {tl hd : Int → Int} (h : RN1 m tl hd i e) (hg : GKE n m tl hd) (he : e < 0) (hz : e' = 0) : RN2 n m tl hd i e' := by
  refine ⟨by omega, fun j a b => by omega, fun j a b => ?_⟩
  have q := hg j (by omega) b
  have r := h.2.2 j (by omega) b
  omega
theorem rn2_step {n m i e e' x y p1 p2 : Int} {tl hd tl' hd' : Int → Int} (h : RN2 n m tl hd i e) (i0 : 0 ≤ i) (i1 : i < n) (he : e < m) (hx : (tl e ≤ i ∧ x = tl e) ∨ (i < tl e ∧ x = tl e - 1)) (hy : (hd e ≤ i ∧ y = hd e) ∨ (i < hd e ∧ y = hd e - 1)) (hs1 : st1 tl tl' p1 x) (hp1 : p1 = e) (hs2 : st1 hd hd' p2 y) (hp2 : p2 = e) (he' : e' = e + 1) : RN2 n m tl' hd' i e' := by
  obtain ⟨e0, ha, hb⟩ := h
  refine ⟨by omega, fun j a b => ?_, fun j a b => ?_⟩
  · by_cases c : j = e
    · have q := hb e (by omega) he
      rw [(hs1 j a).1 (by omega), (hs2 j a).1 (by omega)]
      omega
    · rw [(hs1 j a).2 (by omega), (hs2 j a).2 (by omega)]; exact ha j a (by omega)
  · rw [(hs1 j (by omega)).2 (by omega), (hs2 j (by omega)).2 (by omega)]; exact hb j (by omega) b
theorem rn2_end {n m i e n' : Int} {tl hd : Int → Int} (h : RN2 n m tl hd i e) (he : m ≤ e) (hn : n' = n - 1) : GKE n' m tl hd := fun j a b => by
  have q := h.2.1 j a (by omega); omega
theorem rn2_lo {n m i e : Int} {tl hd : Int → Int} (h : RN2 n m tl hd i e) (he : e < m) : 0 ≤ tl e ∧ tl e < n ∧ 0 ≤ hd e ∧ hd e < n ∧ tl e ≠ i ∧ hd e ≠ i := by
  have q := h.2.2 e (by omega) he; omega
/-- a graph is copied -/
def CA1 (d s h : Int → Int) (sp dp n N M : Int) : Prop := sp = 0 ∧ dp = 0 ∧ n = 48 ∧ M ≤ 48 ∧ GKE N M s h
def CA2 (d s h : Int → Int) (sp dp n N M : Int) : Prop := GKE N M d h
def CB1 (d s t : Int → Int) (sp dp n N M : Int) : Prop := sp = 0 ∧ dp = 0 ∧ n = 48 ∧ M ≤ 48 ∧ GKE N M t s
def CB2 (d s t : Int → Int) (sp dp n N M : Int) : Prop := GKE N M t d
theorem ca1_ca2 {U U' : Nat → Int → Int} {xs : List Int} {sp dp n : Int} (_ : 0 ≤ sp) (_ : 0 ≤ dp) (_ : 0 ≤ n) (h1 : ∀ j, 0 ≤ j → U' 0 j = if dp ≤ j ∧ j < dp + n then U 1 (sp + (j - dp)) else U 0 j) (_ : (∀ j, U' 1 j = U 1 j) ∨ ((∀ j, U' 1 j = U' 0 j) ∧ ∀ j, U 1 j = U 0 j)) (h3 : ∀ i, 2 ≤ i → ∀ j, U' i j = U i j) (e1 : xs.getD 3 0 = sp) (e2 : xs.getD (3 + 1) 0 = dp) (e3 : xs.getD (3 + 2) 0 = n) (h : CA1 (U 0) (U 1) (U 2) (xs.getD 3 0) (xs.getD 4 0) (xs.getD 5 0) (xs.getD 6 0) (xs.getD 7 0)) : CA2 (U' 0) (U' 1) (U' 2) (xs.getD 3 0) (xs.getD 4 0) (xs.getD 5 0) (xs.getD 6 0) (xs.getD 7 0) := fun j a b => by
  obtain ⟨q1, q2, q3, q4, hg⟩ := h
  have r1 : sp = 0 := by rw [← e1]; exact q1
  have r2 : dp = 0 := by rw [← e2]; exact q2
  have r3 : n = 48 := by rw [← e3]; exact q3
  rw [h1 j a, if_pos (by omega), h3 2 (by omega), show sp + (j - dp) = j by omega]
  exact hg j a b
theorem cb1_cb2 {U U' : Nat → Int → Int} {xs : List Int} {sp dp n : Int} (_ : 0 ≤ sp) (_ : 0 ≤ dp) (_ : 0 ≤ n) (h1 : ∀ j, 0 ≤ j → U' 0 j = if dp ≤ j ∧ j < dp + n then U 1 (sp + (j - dp)) else U 0 j) (_ : (∀ j, U' 1 j = U 1 j) ∨ ((∀ j, U' 1 j = U' 0 j) ∧ ∀ j, U 1 j = U 0 j)) (h3 : ∀ i, 2 ≤ i → ∀ j, U' i j = U i j) (e1 : xs.getD 3 0 = sp) (e2 : xs.getD (3 + 1) 0 = dp) (e3 : xs.getD (3 + 2) 0 = n) (h : CB1 (U 0) (U 1) (U 2) (xs.getD 3 0) (xs.getD 4 0) (xs.getD 5 0) (xs.getD 6 0) (xs.getD 7 0)) : CB2 (U' 0) (U' 1) (U' 2) (xs.getD 3 0) (xs.getD 4 0) (xs.getD 5 0) (xs.getD 6 0) (xs.getD 7 0) := fun j a b => by
  obtain ⟨q1, q2, q3, q4, hg⟩ := h
  have r1 : sp = 0 := by rw [← e1]; exact q1
  have r2 : dp = 0 := by rw [← e2]; exact q2
  have r3 : n = 48 := by rw [← e3]; exact q3
  rw [h1 j a, if_pos (by omega), h3 2 (by omega), show sp + (j - dp) = j by omega]
  exact hg j a b
theorem cb1_of {d s t t' : Int → Int} {a b c sp dp n N M N' M' : Int} (h : CA2 t t' s a b c N M) (h1 : sp = 0) (h2 : dp = 0) (h3 : n = 48) (h4 : M ≤ 48) (e1 : N' = N) (e2 : M' = M) : CB1 d s t sp dp n N' M' := by
  subst e1; subst e2; exact ⟨h1, h2, h3, h4, h⟩
theorem gke_cb {d s t : Int → Int} {sp dp n N M N' M' : Int} (h : CB2 d s t sp dp n N M) (e1 : N' = N) (e2 : M' = M) : GKE N' M' t d := by subst e1; subst e2; exact h
def GKN (tl hd : Int → Int) (n m : Int) : Prop := GKE n m tl hd
theorem gkn_of {n m n' m' : Int} {tl hd : Int → Int} (h : GKE n m tl hd) (e1 : n' = n) (e2 : m' = m) : GKN tl hd n' m' := by subst e1; subst e2; exact h
/-- rows of the past -/
theorem gkn_keep {tl hd : Int → Int} {n m n' m' : Int} (h : GKN tl hd n m) (e1 : n' = n) (e2 : m' = m) : GKE n' m' tl hd := by subst e1; subst e2; exact h
def PNI (pa : Int → Int) (r : Int) : Prop := PRI pa r
def PNO (pa : Int → Int) (r : Int) : Prop := PRO pa r
theorem pro_zero {pa : Int → Int} {r : Int} (r1 : r ≤ 30) (h : ∀ j, 0 ≤ j → j < 3782 → pa j = 0) : PRO pa r := fun q a b => by
  have z0 := h (122 * q) (by omega) (by omega)
  have z1 := h (122 * q + 1) (by omega) (by omega)
  exact ⟨by omega, by omega, by omega, by omega, fun i i0 i1 => by omega, fun i i0 i1 => by omega⟩
theorem pro_pdq {dn un r : Int} {pa : Int → Int} (h : PDQ dn un pa) (u0 : 0 ≤ un) (hr : r = dn) : PRO pa r := fun q a b => h (by omega) q a (by omega)
theorem pri_pro {pa : Int → Int} {r r' : Int} (h : PRI pa r) (hr : r' ≤ r + 1) : PRO pa r' := fun q a b => h q a (by omega)
theorem pri_pdq {dn un r : Int} {pa : Int → Int} (h : PRI pa r) (hr : r = dn) (hu : un = 0) : PDQ dn un pa := fun _ q a b => h q a (by omega)
def MV1 (d s : Int → Int) (sp dp n : Int) : Prop := sp = 122 ∧ dp = 0 ∧ n = 3660 ∧ PRI s 30
def MV2 (d s : Int → Int) (sp dp n : Int) : Prop := PRO d 30
theorem mv1_mv2 {Dd S D' S' : Int → Int} {sp dp n : Int} (_ : 0 ≤ sp) (_ : 0 ≤ dp) (_ : 0 ≤ n) (h1 : ∀ j, 0 ≤ j → D' j = if dp ≤ j ∧ j < dp + n then S (sp + (j - dp)) else Dd j) (_ : (∀ j, S' j = S j) ∨ ((∀ j, S' j = D' j) ∧ ∀ j, S j = Dd j)) (h : MV1 Dd S sp dp n) : MV2 D' S' sp dp n := fun r r0 r1 => by
  obtain ⟨e1, e2, e3, h⟩ := h
  subst e1; subst e2; subst e3
  have hm : ∀ j, 0 ≤ j → j < 3660 → D' j = S (j + 122) := fun j a b => by
    rw [h1 j a, if_pos (by omega), show (122 + (j - 0)) = j + 122 by omega]
  have q := h (r + 1) (by omega) (by omega)
  obtain ⟨h0, h1, h2, h3, h4, h5⟩ := q
  have a := hm (122 * r) (by omega) (by omega); have b := hm (122 * r + 1) (by omega) (by omega)
  rw [show 122 * r + 122 = 122 * (r + 1) by omega] at a
  rw [show 122 * r + 1 + 122 = 122 * (r + 1) + 1 by omega] at b
  refine ⟨by omega, by omega, by omega, by omega, fun i i0 i1 => ?_, fun e e0 e1 => ?_⟩
  · rw [hm _ (by omega) (by omega), show 122 * r + 4 + 3 * i + 122 = 122 * (r + 1) + 4 + 3 * i by omega]; exact h4 i i0 (by omega)
  · rw [a, hm (122 * r + 74 + e) (by omega) (by omega), show 122 * r + 74 + e + 122 = 122 * (r + 1) + 74 + e by omega]; exact h5 e e0 (by omega)
