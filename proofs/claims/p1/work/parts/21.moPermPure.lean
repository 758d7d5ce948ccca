/-- permutations: the row 0, 1, .. laid; a row copied as bytes; one size's rows; all sizes' rows -/
def idf (f : Nat → Int32) (n : Nat) : Nat → Int32 := fun j => if j < n then nI j else f j
theorem idf_0 (f : Nat → Int32) : idf f 0 = f := by funext j; simp only [idf]; rw [if_neg (by omega)]
theorem idf_s (f : Nat → Int32) (n : Nat) : upd (idf f n) n (nI n) = idf f (n + 1) := by
  funext j; simp only [upd, idf]
  by_cases h : j = n
  · subst h; simp
  · by_cases h2 : j < n
    · rw [if_neg h, if_pos h2, if_pos (by omega)]
    · rw [if_neg h, if_neg h2, if_neg (by omega)]
def cpB (pm : Nat → Int32) (b : Nat) (f : Nat → Int32) (n : Nat) : Nat → Int32 := fun j => if b ≤ j ∧ j < b + n then vp_nar .byte ((f (j - b)).toInt8.toInt32) else pm j
theorem cpB_0 (pm : Nat → Int32) (b : Nat) (f : Nat → Int32) : cpB pm b f 0 = pm := by funext j; simp only [cpB]; rw [if_neg (by omega)]
theorem cpB_s (pm : Nat → Int32) (b : Nat) (f : Nat → Int32) (n : Nat) : upd (cpB pm b f n) (b + n) (vp_nar .byte ((f n).toInt8.toInt32)) = cpB pm b f (n + 1) := by
  funext j; simp only [upd, cpB]
  by_cases h : j = b + n
  · subst h; rw [if_pos rfl, if_pos (by omega), Nat.add_sub_cancel_left]
  · by_cases h2 : b ≤ j ∧ j < b + n
    · rw [if_neg h, if_pos h2, if_pos (by omega)]
    · rw [if_neg h, if_neg h2, if_neg (by omega)]
def finf : Nat → Nat → (Nat → Int32) → Bool
  | 0, _, _ => false
  | k + 1, n, f => if ds f (n - 1) = 0 then true else finf k n (nof f n)
def whl : Nat → Nat → (Nat → Int32) → (Nat → Int32) → Nat → (Nat → Int32) → (Nat → Int32) × (Nat → Int32) × Nat × (Nat → Int32)
  | 0, _, f, pm, b, my => (f, pm, b, my)
  | k + 1, n, f, pm, b, my => if ds f (n - 1) = 0 then (f, cpB pm b f n, b + n, upd my n (my n + 1)) else whl k n (nof f n) (cpB pm b f n) (b + n) (upd my n (my n + 1))
theorem whl_at : ∀ (k n : Nat) (f pm : Nat → Int32) (b : Nat) (my : Nat → Int32), (whl k n f pm b my).2.2.1 ≤ b + n * k
  | 0, n, f, pm, b, my => by show b ≤ b + n * 0; omega
  | k + 1, n, f, pm, b, my => by
    simp only [whl]
    have ih := whl_at k n (nof f n) (cpB pm b f n) (b + n) (upd my n (my n + 1))
    have e : n * (k + 1) = n * k + n := Nat.mul_succ n k
    by_cases h : ds f (n - 1) = 0
    · rw [if_pos h]; show b + n ≤ _; omega
    · rw [if_neg h]; omega
theorem ds_cg {f g : Nat → Int32} : ∀ k, (∀ i, i ≤ k → f i = g i) → ds f k = ds g k
  | 0, _ => rfl
  | k + 1, h => by
    simp only [ds]
    rw [h k (by omega), h (k + 1) (by omega), ds_cg k (fun i hi => h i (by omega))]
theorem dj_cg {f g : Nat → Int32} (v : Int32) : ∀ k, (∀ i, i ≤ k → f i = g i) → dj f v k = dj g v k
  | 0, _ => rfl
  | k + 1, h => by
    simp only [dj]
    rw [h (k + 1) (by omega), dj_cg v k (fun i hi => h i (by omega))]
theorem upd_cg {f g : Nat → Int32} {n i : Nat} {v w : Int32} (h : ∀ j, j < n → f j = g j) (hv : v = w) : ∀ j, j < n → upd f i v j = upd g i w j := fun j hj => by
  simp only [upd]; rw [hv, h j hj]
theorem rvf_cg : ∀ (k n : Nat) (f g : Nat → Int32) (a b : Nat), b < n → (∀ i, i < n → f i = g i) → ∀ i, i < n → rvf k f a b i = rvf k g a b i
  | 0, n, f, g, a, b, _, h, i, hi => h i hi
  | k + 1, n, f, g, a, b, hb, h, i, hi => by
    simp only [rvf]
    by_cases c : a < b
    · rw [if_pos c, if_pos c]
      exact rvf_cg k n _ _ (a + 1) (b - 1) (by omega) (upd_cg (upd_cg h (h b hb)) (h a (by omega))) i hi
    · rw [if_neg c, if_neg c]; exact h i hi
theorem nof_cg {f g : Nat → Int32} {n : Nat} (hn : 1 ≤ n) (h : ∀ i, i < n → f i = g i) : ∀ i, i < n → nof f n i = nof g n i := fun i hi => by
  have e := ds_cg (f := f) (g := g) (n - 1) (fun j hj => h j (by omega))
  have hl := ds_le g (n - 1)
  unfold nof
  rw [e]
  by_cases c : ds g (n - 1) = 0
  · rw [if_pos c, if_pos c]; exact h i hi
  · rw [if_neg c, if_neg c]
    have e1 : f (ds g (n - 1) - 1) = g (ds g (n - 1) - 1) := h _ (by omega)
    rw [e1, dj_cg (f := f) (g := g) _ (n - 1) (fun j hj => h j (by omega))]
    have hj : dj g (g (ds g (n - 1) - 1)) (n - 1) ≤ n - 1 := by
      obtain ⟨i0, hi0⟩ : ∃ z, ds g (n - 1) = z + 1 := ⟨ds g (n - 1) - 1, by omega⟩
      obtain ⟨k0, hk0⟩ : ∃ k, n - 1 = i0 + 1 + k := ⟨n - 1 - (i0 + 1), by omega⟩
      have h1 := dj_in g (g i0) i0 (Int32.not_lt.mp (ds_up g (n - 1) i0 hi0)) k0
      rw [← hk0] at h1
      rw [hi0]; exact h1.2
    exact rvf_cg n n _ _ _ _ (by omega) (upd_cg (upd_cg h (h _ (by omega))) rfl) i hi
/-- the same over lists, which a program can go through -/
def nxL (n : Nat) (L : List Int32) : List Int32 := (List.range n).map (nof (fun i => L.getD i 0) n)
def finL : Nat → Nat → List Int32 → Bool
  | 0, _, _ => false
  | k + 1, n, L => if ds (fun i => L.getD i 0) (n - 1) = 0 then true else finL k n (nxL n L)
theorem finf_L : ∀ (k n : Nat) (f : Nat → Int32) (L : List Int32), 1 ≤ n → (∀ i, i < n → f i = L.getD i 0) → finL k n L = true → finf k n f = true
  | 0, n, f, L, _, _, h => by simp [finL] at h
  | k + 1, n, f, L, hn, hf, h => by
    simp only [finL] at h
    simp only [finf]
    have e := ds_cg (f := f) (g := fun i => L.getD i 0) (n - 1) (fun j hj => hf j (by omega))
    rw [e]
    by_cases c : ds (fun i => L.getD i 0) (n - 1) = 0
    · rw [if_pos c]
    · rw [if_neg c] at h ⊢
      refine finf_L k n (nof f n) (nxL n L) hn (fun i hi => ?_) h
      rw [nof_cg hn hf i hi]
      simp only [nxL, List.getD]
      rw [List.getElem?_map, List.getElem?_range hi]
      rfl
def fct : Nat → Nat
  | 0 => 1
  | n + 1 => (n + 1) * fct n
set_option maxRecDepth 100000 in
theorem finL_1 : finL 1 1 [0] = true := by decide +kernel
set_option maxRecDepth 100000 in
theorem finL_2 : finL 2 2 [0, 1] = true := by decide +kernel
set_option maxRecDepth 100000 in
theorem finL_3 : finL 6 3 [0, 1, 2] = true := by decide +kernel
set_option maxRecDepth 100000 in
theorem finL_4 : finL 24 4 [0, 1, 2, 3] = true := by decide +kernel
set_option maxRecDepth 100000 in
theorem finL_5 : finL 120 5 [0, 1, 2, 3, 4] = true := by decide +kernel
set_option maxRecDepth 100000 in
theorem finL_6 : finL 720 6 [0, 1, 2, 3, 4, 5] = true := by decide +kernel
theorem finf_id (f : Nat → Int32) : ∀ n, n ≤ 6 → finf (fct n) n (idf f n) = true := by
  have key : ∀ (n : Nat) (L : List Int32), 1 ≤ n → (∀ i, i < n → nI i = L.getD i 0) → finL (fct n) n L = true → finf (fct n) n (idf f n) = true := fun n L hn hL h =>
    finf_L (fct n) n (idf f n) L hn (fun i hi => by simp only [idf]; rw [if_pos hi]; exact hL i hi) h
  intro n hn
  match n, hn with
  | 0, _ => rfl
  | 1, _ => exact key 1 _ (by omega) (by decide) finL_1
  | 2, _ => exact key 2 _ (by omega) (by decide) finL_2
  | 3, _ => exact key 3 _ (by omega) (by decide) finL_3
  | 4, _ => exact key 4 _ (by omega) (by decide) finL_4
  | 5, _ => exact key 5 _ (by omega) (by decide) finL_5
  | 6, _ => exact key 6 _ (by omega) (by decide) finL_6
