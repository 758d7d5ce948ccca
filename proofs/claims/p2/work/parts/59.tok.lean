/-! what is known exactly: facts about names and about the world, oldest last; those from 100 on change the world -/
def n_v (vs : List Value) (n : Nat) : Value := (vs[n]?).getD .null
def n_iv (vs : List Value) (n : Nat) : Int := v_iv (n_v vs n)
def n_ad (vs : List Value) (n : Nat) : Nat := v_ad (n_v vs n)
abbrev fc_T : Type := Nat × List Nat × List Int
def cq (q x y : Int) : Prop := match q with
  | 0 => x = y
  | 1 => x ≠ y
  | 2 => x < y
  | 3 => y ≤ x
  | 4 => y < x
  | 5 => x ≤ y
  | _ => True
def v_lin : List Int → List Value → Int
  | k :: ks, x :: xs => k * v_iv x + v_lin ks xs
  | _, _ => 0
def fc_m (c : Nat) (xs : List Value) (is : List Int) (ws : va_W) : Prop := match c, xs, is with
  | 1, [n, a, b], _ => v_iv n = v_iv a + v_iv b
  | 2, [n, a, b], _ => v_iv n = v_iv a - v_iv b
  | 3, [n, a, b], _ => v_iv n = v_iv a * v_iv b
  | 4, [n, a, b], _ => v_iv n = (v_iv a).tdiv (v_iv b)
  | 5, [n, a, b], _ => v_iv n = (v_iv a).tmod (v_iv b)
  | 6, [n, a], [d] => v_iv n = v_iv a + d
  | 7, [a, b], [q] => cq q (v_iv a) (v_iv b)
  | 8, [a], [q] => cq q (v_iv a) 0
  | 9, [n, o], [k] => n = w_fd ws (v_ad o) k.toNat
  | 10, [n, a, i], _ => v_iv n = w_el ws (v_ad a) (v_iv i).toNat
  | 11, [n, a], [d] => v_iv n = v_iv a / d
  | 12, [n, a], [d] => v_iv n = v_iv a % d
  | 13, [n, a, b], _ => v_iv n ≤ v_iv a + v_iv b ∧ v_iv a ≤ v_iv n ∧ v_iv b ≤ v_iv n ∧ (v_iv n).toNat = (v_iv a).toNat ||| (v_iv b).toNat
  | 14, [n, a, i], _ => ((v_ad n : Nat) : Int) = w_el ws (v_ad a) (v_iv i).toNat
  | 15, [n, a], [d] => v_iv n = v_iv a * d
  | 16, [n, a, b], [o] => bv (v_iv n) = (match o with | 0 => bv (v_iv a) &&& bv (v_iv b) | 1 => bv (v_iv a) ||| bv (v_iv b) | 2 => bv (v_iv a) ^^^ bv (v_iv b) | 3 => bv (v_iv a) <<< (v_iv b).toNat | 4 => bv (v_iv a) >>> (v_iv b).toNat | _ => bv (v_iv n))
  | 18, [j, v], [c] => pl_ok c.toNat (v_iv j).toNat (v_iv v)
  | 20, xs, t :: is => tk_ok t.toNat is xs ws
  | 21, [a, b], [c] => v_iv a + v_iv b ≤ c
  | 22, [n, a], _ => v_iv n = v_iv a
  | 23, xs, c :: ks => v_lin ks xs ≤ c
  | 24, [a, b], _ => a = b
  | _, _, _ => True
def fc_1 (f : fc_T) (ws : va_W) (vs : List Value) : Prop := (∀ n ∈ f.2.1, n < vs.length) ∧ fc_m f.1 (f.2.1.map (n_v vs)) f.2.2 ws
def fc_s (f : fc_T) (ta0 : Nat → Option Nat) (w0 w1 : va_W) (vs : List Value) : Prop := (∀ n ∈ f.2.1, n < vs.length) ∧ match f with
  | (100, [a, i, v], _) => (∀ b j, w_el w1 b j = if b = n_ad vs a ∧ j = (n_iv vs i).toNat then n_iv vs v else w_el w0 b j) ∧ ∀ b k, w_fd w1 b k = w_fd w0 b k
  | (101, [o, v], [k]) => (∀ b j, w_el w1 b j = w_el w0 b j) ∧ ∀ b j, w_fd w1 b j = if b = n_ad vs o ∧ j = k.toNat then n_v vs v else w_fd w0 b j
  | (102, ns, m :: ks) => (∀ b r, ta0 b = some r → m.toNat.testBit r = false → ∀ j, w_el w1 b j = w_el w0 b j) ∧ (∀ b ci fs k, w_at w0 b = some (.inr (ci, fs)) → ((1000 * ci + k : Nat) : Int) ∉ ks → w_fd w1 b k = w_fd w0 b k) ∧ (∀ n0 ∈ ns, ∀ n, n ≤ n0 → ∀ a, n_v vs n = .ref a → (ta0 a).isSome = true) ∧ (∀ b ci fs k, (ta0 b).isSome = true → w_at w1 b = some (.inr (ci, fs)) → ((1000 * ci + k : Nat) : Int) ∉ ks → w_fd w1 b k = w_fd w0 b k) ∧ (∀ b k c, (ta0 b).isSome = true → w_fd w0 b k = .ref c → (ta0 c).isSome = true) ∧ ∀ b r j c, ta0 b = some r → m.toNat.testBit r = false → (∃ cl n f, w_at w1 b = some (.inl (cl, n, .inr (.inr (.inr (.inr f))))) ∧ j < n ∧ f j = some c) → (ta0 c).isSome = true
  | (103, [a], _) => (∀ b j, b ≠ n_ad vs a → w_el w1 b j = w_el w0 b j) ∧ ∀ b k, w_fd w1 b k = w_fd w0 b k
  | _ => True
def fc_ok : List fc_T → (Nat → Option Nat) → va_W → List Value → Prop
  | [], _, _, _ => True
  | f :: r, ta, ws, vs => if f.1 < 100 then fc_1 f ws vs ∧ fc_ok r ta ws vs else ∃ ta0 w0, ta_le ta0 ta ∧ fc_s f ta0 w0 ws vs ∧ fc_ok r ta0 w0 vs
theorem n_v_pre {vs vs' : List Value} (h : vs <+: vs') {n : Nat} (hn : n < vs.length) : n_v vs' n = n_v vs n := by
  obtain ⟨t, rfl⟩ := h
  unfold n_v
  rw [List.getElem?_append_left hn]
theorem n_iv_pre {vs vs' : List Value} (h : vs <+: vs') {n : Nat} (hn : n < vs.length) : n_iv vs' n = n_iv vs n := by unfold n_iv; rw [n_v_pre h hn]
theorem n_ad_pre {vs vs' : List Value} (h : vs <+: vs') {n : Nat} (hn : n < vs.length) : n_ad vs' n = n_ad vs n := by unfold n_ad; rw [n_v_pre h hn]
theorem pre_len {vs vs' : List Value} (h : vs <+: vs') {n : Nat} (hn : n < vs.length) : n < vs'.length := by
  obtain ⟨t, rfl⟩ := h
  rw [List.length_append]; omega
theorem fc_1_pre {vs vs' : List Value} (h : vs <+: vs') {f : fc_T} {ws : va_W} (hf : fc_1 f ws vs) : fc_1 f ws vs' := by
  obtain ⟨h1, h2⟩ := hf
  refine ⟨fun n hn => pre_len h (h1 n hn), ?_⟩
  rw [show f.2.1.map (n_v vs') = f.2.1.map (n_v vs) from List.map_congr_left (fun n hn => n_v_pre h (h1 n hn))]
  exact h2
/-- names set otherwise -/
def fc_map (g : Nat → Nat) (f : fc_T) : fc_T := (f.1, f.2.1.map g, f.2.2)
theorem fc_1_map {f : fc_T} {g : Nat → Nat} {ws : va_W} {vs vs2 : List Value} (h : ∀ n ∈ f.2.1, n < vs2.length → g n < vs.length ∧ n_v vs (g n) = n_v vs2 n) (hf : fc_1 f ws vs2) : fc_1 (fc_map g f) ws vs := by
  obtain ⟨h1, h2⟩ := hf
  refine ⟨fun n hn => ?_, ?_⟩
  · obtain ⟨q, hq, e⟩ := List.mem_map.mp hn
    rw [← e]; exact (h q hq (h1 q hq)).1
  · show fc_m f.1 ((f.2.1.map g).map (n_v vs)) f.2.2 ws
    rw [List.map_map, show f.2.1.map (n_v vs ∘ g) = f.2.1.map (n_v vs2) from List.map_congr_left (fun n hn => (h n hn (h1 n hn)).2)]
    exact h2
theorem fc_1_unmap {f : fc_T} {g : Nat → Nat} {ws : va_W} {vs vs2 : List Value} (h : ∀ n ∈ f.2.1, g n < vs.length → n < vs2.length ∧ n_v vs (g n) = n_v vs2 n) (hf : fc_1 (fc_map g f) ws vs) : fc_1 f ws vs2 := by
  obtain ⟨h1, h2⟩ := hf
  have h3 : ∀ n ∈ f.2.1, g n < vs.length := fun n hn => h1 (g n) (List.mem_map_of_mem hn)
  refine ⟨fun n hn => (h n hn (h3 n hn)).1, ?_⟩
  have h2' : fc_m f.1 ((f.2.1.map g).map (n_v vs)) f.2.2 ws := h2
  rw [List.map_map, show f.2.1.map (n_v vs ∘ g) = f.2.1.map (n_v vs2) from List.map_congr_left (fun n hn => (h n hn (h3 n hn)).2)] at h2'
  exact h2'
theorem fc_s_pre {vs vs' : List Value} (h : vs <+: vs') {f : fc_T} {ta0 : Nat → Option Nat} {w0 w1 : va_W} (hf : fc_s f ta0 w0 w1 vs) : fc_s f ta0 w0 w1 vs' := by
  obtain ⟨h1, h2⟩ := hf
  refine ⟨fun n hn => pre_len h (h1 n hn), ?_⟩
  have iv : ∀ n ∈ f.2.1, n_iv vs' n = n_iv vs n := fun n hn => n_iv_pre h (h1 n hn)
  have ad : ∀ n ∈ f.2.1, n_ad vs' n = n_ad vs n := fun n hn => n_ad_pre h (h1 n hn)
  have vv : ∀ n ∈ f.2.1, n_v vs' n = n_v vs n := fun n hn => n_v_pre h (h1 n hn)
  split
  · simp only [List.mem_cons, List.not_mem_nil, or_false, forall_eq_or_imp, forall_eq] at iv ad; simp only at h2; rw [ad.1, iv.2.1, iv.2.2]; exact h2
  · simp only [List.mem_cons, List.not_mem_nil, or_false, forall_eq_or_imp, forall_eq] at ad vv; simp only at h2; rw [ad.1, vv.2]; exact h2
  · rename_i ns m ks
    have h2' := h2
    simp only at h2' ⊢
    refine ⟨h2'.1, h2'.2.1, fun n0 hn0 n hn a ha => ?_, h2'.2.2.2⟩
    have hl := h1 n0 hn0
    rw [n_v_pre h (Nat.lt_of_le_of_lt hn hl)] at ha
    exact h2'.2.2.1 n0 hn0 n hn a ha
  · simp only [List.mem_cons, List.not_mem_nil, or_false, forall_eq] at ad; simp only at h2; rw [ad]; exact h2
  · trivial
theorem fc_pre {vs vs' : List Value} (h : vs <+: vs') : ∀ {fs : List fc_T} {ta : Nat → Option Nat} {ws : va_W}, fc_ok fs ta ws vs → fc_ok fs ta ws vs'
  | [], _, _, _ => trivial
  | f :: r, ta, ws, hf => by
    unfold fc_ok at hf ⊢
    split at hf
    · rename_i hq; rw [if_pos hq]; exact ⟨fc_1_pre h hf.1, fc_pre h hf.2⟩
    · rename_i hq
      rw [if_neg hq]
      obtain ⟨ta0, w0, a, b, d⟩ := hf
      exact ⟨ta0, w0, a, fc_s_pre h b, fc_pre h d⟩
theorem fc_cons {f : fc_T} {fs : List fc_T} {ta : Nat → Option Nat} {ws : va_W} {vs : List Value} (hl : f.1 < 100) (h1 : fc_1 f ws vs) (h : fc_ok fs ta ws vs) : fc_ok (f :: fs) ta ws vs := by
  unfold fc_ok; rw [if_pos hl]; exact ⟨h1, h⟩
theorem fc_step {f : fc_T} {fs : List fc_T} {ta tb : Nat → Option Nat} {ws w1 : va_W} {vs : List Value} (hl : ¬ f.1 < 100) (hle : ta_le ta tb) (h1 : fc_s f ta ws w1 vs) (h : fc_ok fs ta ws vs) : fc_ok (f :: fs) tb w1 vs := by
  unfold fc_ok; rw [if_neg hl]; exact ⟨ta, ws, hle, h1, h⟩
/-- the facts of the present world -/
def fc_now : List fc_T → List fc_T
  | [] => []
  | f :: r => if f.1 < 100 then f :: fc_now r else []
theorem fc_now_ok : ∀ {fs : List fc_T} {ta : Nat → Option Nat} {ws : va_W} {vs : List Value}, fc_ok fs ta ws vs → ∀ f ∈ fc_now fs, f.1 < 100 ∧ fc_1 f ws vs
  | [], _, _, _, _, f, hf => by cases hf
  | g :: r, ta, ws, vs, h, f, hf => by
    unfold fc_ok at h
    unfold fc_now at hf
    split at h
    · rename_i hq
      rw [if_pos hq] at hf
      rcases List.mem_cons.mp hf with rfl | hf
      · exact ⟨hq, h.1⟩
      · exact fc_now_ok h.2 f hf
    · rename_i hq
      rw [if_neg hq] at hf
      cases hf
/-- some facts left out -/
def fc_sub : List fc_T → List fc_T → Bool
  | [], _ => true
  | f :: r, [] => false
  | f :: r, g :: s => if f = g then fc_sub r s else if g.1 < 100 then fc_sub (f :: r) s else false
theorem fc_sub_ok : ∀ {fs gs : List fc_T} {ta : Nat → Option Nat} {ws : va_W} {vs : List Value}, fc_sub fs gs = true → fc_ok gs ta ws vs → fc_ok fs ta ws vs
  | [], _, _, _, _, _, _ => trivial
  | f :: r, [], _, _, _, h, _ => by cases h
  | f :: r, g :: s, ta, ws, vs, h, hg => by
    unfold fc_sub at h
    unfold fc_ok at hg
    split at h
    · rename_i e
      subst e
      split at hg
      · rename_i hq; exact fc_cons hq hg.1 (fc_sub_ok h hg.2)
      · rename_i hq
        obtain ⟨ta0, w0, a, b, d⟩ := hg
        exact fc_step hq a b (fc_sub_ok h d)
    · split at h
      · rename_i hq
        rw [if_pos hq] at hg
        exact fc_sub_ok h hg.2
      · cases h
theorem w_at_mem {A : Nat → Prop} {ws : va_W} (hD : va_D A ws) {a : Nat} {e : va_E} (h : (a, e) ∈ ws) : w_at ws a = some e := by
  unfold w_at
  obtain ⟨j, hj⟩ := List.mem_iff_getElem?.mp h
  cases hf : ws.find? (fun q => q.1 == a) with
  | none => exact absurd (List.find?_eq_none.mp hf _ h) (by simp)
  | some q =>
    have h1 := List.mem_of_find?_eq_some hf
    have h2 : q.1 = a := by simpa using List.find?_some hf
    obtain ⟨i, hi⟩ := List.mem_iff_getElem?.mp h1
    have e1 := hD.1 i j _ _ hi hj h2
    rw [e1, hj] at hi
    rw [← Option.some.inj hi]; rfl
