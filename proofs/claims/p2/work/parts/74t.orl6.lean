/-! counts, sums and numbers of the first elements -/
theorem cnt_0 (f : Int → Int) (t : Int) : cntN f t 0 = 0 := rfl
theorem cnt_s (f : Int → Int) (t : Int) (n : Nat) : cntN f t (n + 1) = cntN f t n + (if f ((n : Nat) : Int) ≤ t then 1 else 0) := rfl
theorem sum_0 (f : Int → Int) : sumN f 0 = 0 := rfl
theorem sum_s (f : Int → Int) (n : Nat) : sumN f (n + 1) = sumN f n + f ((n : Nat) : Int) := rfl
theorem num_0 (f : Int → Int) : numN f 0 = 0 := rfl
theorem num_s (f : Int → Int) (n : Nat) : numN f (n + 1) = 32 * numN f n + f ((n : Nat) : Int) := rfl
theorem cnt_bdN (f : Int → Int) (t : Int) : ∀ n : Nat, 0 ≤ cntN f t n ∧ cntN f t n ≤ n
  | 0 => by rw [cnt_0]; omega
  | n + 1 => by
    have := cnt_bdN f t n
    rw [cnt_s]
    split <;> omega
theorem cnt_eqN {f1 f0 : Int → Int} {t : Int} : ∀ {n : Nat}, (∀ j : Int, 0 ≤ j → j < n → f1 j = f0 j) → cntN f1 t n = cntN f0 t n
  | 0, _ => by rw [cnt_0, cnt_0]
  | n + 1, h => by
    simp only [cnt_s]
    rw [cnt_eqN (fun j h0 h1 => h j h0 (by omega)), h (n : Nat) (by omega) (by omega)]
theorem cnt_setN {f1 f0 : Int → Int} {t i v : Int} : ∀ {n : Nat}, (∀ j : Int, 0 ≤ j → (j = i → f1 j = v) ∧ (j ≠ i → f1 j = f0 j)) → 0 ≤ i → i < n → cntN f1 t n + (if f0 i ≤ t then 1 else 0) = cntN f0 t n + (if v ≤ t then 1 else 0)
  | 0, _, h0, h1 => by omega
  | n + 1, h, h0, h1 => by
    simp only [cnt_s]
    by_cases e : i = (n : Nat)
    · have e1 : cntN f1 t n = cntN f0 t n := cnt_eqN (fun j g0 g1 => (h j g0).2 (by omega))
      have e2 := (h (n : Nat) (by omega)).1 e.symm
      rw [e1, e2, e]; omega
    · have ih := cnt_setN (t := t) (n := n) h h0 (by omega)
      have e2 := (h (n : Nat) (by omega)).2 (fun q => e q.symm)
      rw [e2]; omega
theorem cnt_allN {f : Int → Int} {t : Int} : ∀ {n : Nat}, (∀ j : Int, 0 ≤ j → j < n → f j ≤ t) → cntN f t n = n
  | 0, _ => by rw [cnt_0]; rfl
  | n + 1, h => by
    simp only [cnt_s]
    rw [cnt_allN (fun j h0 h1 => h j h0 (by omega)), if_pos (h (n : Nat) (by omega) (by omega))]; omega
theorem cnt_noneN {f : Int → Int} {t : Int} : ∀ {n : Nat}, (∀ j : Int, 0 ≤ j → j < n → t < f j) → cntN f t n = 0
  | 0, _ => cnt_0 f t
  | n + 1, h => by
    simp only [cnt_s]
    have := h (n : Nat) (by omega) (by omega)
    rw [cnt_noneN (fun j h0 h1 => h j h0 (by omega)), if_neg (by omega)]; omega
theorem cnt_exN {f : Int → Int} {t : Int} {n : Nat} (h : cntN f t n < n) : ∃ j : Int, 0 ≤ j ∧ j < n ∧ t < f j := by
  apply Classical.byContradiction
  intro hn
  have : ∀ j : Int, 0 ≤ j → j < n → f j ≤ t := fun j h0 h1 => by
    apply Classical.byContradiction
    intro h2
    exact hn ⟨j, h0, h1, by omega⟩
  rw [cnt_allN this] at h
  omega
theorem cnt_hasN {f : Int → Int} {t : Int} {n : Nat} (h : 0 < cntN f t n) : ∃ j : Int, 0 ≤ j ∧ j < n ∧ f j ≤ t := by
  apply Classical.byContradiction
  intro hn
  have : ∀ j : Int, 0 ≤ j → j < n → t < f j := fun j h0 h1 => by
    apply Classical.byContradiction
    intro h2
    exact hn ⟨j, h0, h1, by omega⟩
  rw [cnt_noneN this] at h
  omega
/-- one element is above: not all count -/
theorem cnt_ltN {f : Int → Int} {t i : Int} : ∀ {n : Nat}, 0 ≤ i → i < n → t < f i → cntN f t n + 1 ≤ n
  | 0, h0, h1, _ => by omega
  | n + 1, h0, h1, h2 => by
    simp only [cnt_s]
    by_cases e : i = (n : Nat)
    · have := cnt_bdN f t n
      rw [e] at h2
      rw [if_neg (by omega)]; omega
    · have := cnt_ltN (n := n) h0 (by omega) h2
      split <;> omega
theorem cnt_gtN {f : Int → Int} {t i : Int} : ∀ {n : Nat}, 0 ≤ i → i < n → f i ≤ t → 1 ≤ cntN f t n
  | 0, h0, h1, _ => by omega
  | n + 1, h0, h1, h2 => by
    simp only [cnt_s]
    have b := cnt_bdN f t n
    by_cases e : i = (n : Nat)
    · rw [e] at h2
      rw [if_pos h2]; omega
    · have := cnt_gtN (n := n) h0 (by omega) h2
      split <;> omega
theorem sum_eqN {f1 f0 : Int → Int} : ∀ {n : Nat}, (∀ j : Int, 0 ≤ j → j < n → f1 j = f0 j) → sumN f1 n = sumN f0 n
  | 0, _ => by rw [sum_0, sum_0]
  | n + 1, h => by
    simp only [sum_s]
    rw [sum_eqN (fun j h0 h1 => h j h0 (by omega)), h (n : Nat) (by omega) (by omega)]
theorem sum_setN {f1 f0 : Int → Int} {i v : Int} : ∀ {n : Nat}, (∀ j : Int, 0 ≤ j → (j = i → f1 j = v) ∧ (j ≠ i → f1 j = f0 j)) → 0 ≤ i → i < n → sumN f1 n + f0 i = sumN f0 n + v
  | 0, _, h0, h1 => by omega
  | n + 1, h, h0, h1 => by
    simp only [sum_s]
    by_cases e : i = (n : Nat)
    · have e1 : sumN f1 n = sumN f0 n := sum_eqN (fun j g0 g1 => (h j g0).2 (by omega))
      have e2 := (h (n : Nat) (by omega)).1 e.symm
      rw [e1, e2, e]; omega
    · have ih := sum_setN (n := n) h h0 (by omega)
      have e2 := (h (n : Nat) (by omega)).2 (fun q => e q.symm)
      rw [e2]; omega
theorem num_eqN {f1 f0 : Int → Int} : ∀ {n : Nat}, (∀ j : Int, 0 ≤ j → j < n → f1 j = f0 j) → numN f1 n = numN f0 n
  | 0, _ => by rw [num_0, num_0]
  | n + 1, h => by
    simp only [num_s]
    rw [num_eqN (fun j h0 h1 => h j h0 (by omega)), h (n : Nat) (by omega) (by omega)]
theorem num_ltN {f1 f0 : Int → Int} {i : Int} : ∀ {n : Nat}, (∀ j : Int, 0 ≤ j → j < i → f1 j = f0 j) → f0 i + 1 ≤ f1 i → (∀ j : Int, 0 ≤ j → j < n → f0 j ≤ 31 ∧ 0 ≤ f1 j) → 0 ≤ i → i < n → numN f0 n + 1 ≤ numN f1 n
  | 0, _, _, _, h0, h1 => by omega
  | n + 1, h, hi, hb, h0, h1 => by
    simp only [num_s]
    by_cases e : i = (n : Nat)
    · have e1 : numN f1 n = numN f0 n := num_eqN (fun j g0 g1 => h j g0 (by omega))
      rw [e] at hi
      omega
    · have ih := num_ltN (n := n) h hi (fun j g0 g1 => hb j g0 (by omega)) h0 (by omega)
      have b := hb (n : Nat) (by omega) (by omega)
      omega
theorem num_bdN {f : Int → Int} : ∀ {n : Nat}, (∀ j : Int, 0 ≤ j → j < n → 0 ≤ f j ∧ f j ≤ 31) → 0 ≤ numN f n ∧ numN f n < 32 ^ n
  | 0, _ => by rw [num_0]; exact ⟨Int.le_refl _, by show (0 : Int) < 1; decide⟩
  | n + 1, h => by
    have ih := num_bdN (n := n) (fun j g0 g1 => h j g0 (by omega))
    have b := h (n : Nat) (by omega) (by omega)
    have e : (32 : Int) ^ (n + 1) = 32 * 32 ^ n := by rw [Int.pow_succ, Int.mul_comm]
    simp only [num_s]
    rw [e]; omega
/-! the same, up to an int -/
theorem cnt_bd (f : Int → Int) (t : Int) {n : Int} (hn : 0 ≤ n) : 0 ≤ cntE f t n ∧ cntE f t n ≤ n := by
  have := cnt_bdN f t n.toNat
  rw [cntE_is]; omega
theorem cnt_eq {f1 f0 : Int → Int} {t n : Int} (h : ∀ j : Int, 0 ≤ j → j < n → f1 j = f0 j) : cntE f1 t n = cntE f0 t n := by rw [cntE_is, cntE_is]; exact cnt_eqN (fun j h0 h1 => h j h0 (by omega))
theorem cnt_setD {f1 f0 : Int → Int} {t i v n : Int} (h : ∀ j : Int, 0 ≤ j → (j = i → f1 j = v) ∧ (j ≠ i → f1 j = f0 j)) (h0 : 0 ≤ i) (h1 : i < n) : (f0 i ≤ t ∧ v ≤ t ∧ cntE f1 t n = cntE f0 t n) ∨ (f0 i ≤ t ∧ t < v ∧ cntE f1 t n = cntE f0 t n - 1) ∨ (t < f0 i ∧ v ≤ t ∧ cntE f1 t n = cntE f0 t n + 1) ∨ (t < f0 i ∧ t < v ∧ cntE f1 t n = cntE f0 t n) := by
  have e := cnt_setN (t := t) (n := n.toNat) h h0 (by omega)
  rw [cntE_is, cntE_is]
  by_cases a : f0 i ≤ t
  · by_cases b : v ≤ t
    · rw [if_pos a, if_pos b] at e; left; exact ⟨a, b, by omega⟩
    · rw [if_pos a, if_neg b] at e; right; left; exact ⟨a, by omega, by omega⟩
  · by_cases b : v ≤ t
    · rw [if_neg a, if_pos b] at e; right; right; left; exact ⟨by omega, b, by omega⟩
    · rw [if_neg a, if_neg b] at e; right; right; right; exact ⟨by omega, by omega, by omega⟩
theorem cnt_all {f : Int → Int} {t n : Int} (hn : 0 ≤ n) (h : ∀ j : Int, 0 ≤ j → j < n → f j ≤ t) : cntE f t n = n := by
  have := cnt_allN (n := n.toNat) (t := t) (f := f) (fun j h0 h1 => h j h0 (by omega))
  rw [cntE_is]; omega
theorem cnt_none {f : Int → Int} {t n : Int} (h : ∀ j : Int, 0 ≤ j → j < n → t < f j) : cntE f t n = 0 := by rw [cntE_is]; exact cnt_noneN (fun j h0 h1 => h j h0 (by omega))
theorem cnt_lt {f : Int → Int} {t i n : Int} (h0 : 0 ≤ i) (h1 : i < n) (h2 : t < f i) : cntE f t n + 1 ≤ n := by
  have := cnt_ltN (f := f) (t := t) (n := n.toNat) h0 (by omega) h2
  rw [cntE_is]; omega
theorem cnt_gt {f : Int → Int} {t i n : Int} (h0 : 0 ≤ i) (h1 : i < n) (h2 : f i ≤ t) : 1 ≤ cntE f t n := by rw [cntE_is]; exact cnt_gtN (n := n.toNat) h0 (by omega) h2
theorem sumE_eq {f1 f0 : Int → Int} {n : Int} (h : ∀ j : Int, 0 ≤ j → j < n → f1 j = f0 j) : sumE f1 n = sumE f0 n := by rw [sumE_is, sumE_is]; exact sum_eqN (fun j h0 h1 => h j h0 (by omega))
theorem sumE_set {f1 f0 : Int → Int} {i v n : Int} (h : ∀ j : Int, 0 ≤ j → (j = i → f1 j = v) ∧ (j ≠ i → f1 j = f0 j)) (h0 : 0 ≤ i) (h1 : i < n) : sumE f1 n + f0 i = sumE f0 n + v := by rw [sumE_is, sumE_is]; exact sum_setN (n := n.toNat) h h0 (by omega)
theorem num_eq {f1 f0 : Int → Int} {n : Int} (h : ∀ j : Int, 0 ≤ j → j < n → f1 j = f0 j) : numE f1 n = numE f0 n := by rw [numE_is, numE_is]; exact num_eqN (fun j h0 h1 => h j h0 (by omega))
theorem cnt_up {f1 f0 : Int → Int} {c i n : Int} (h : ∀ j : Int, 0 ≤ j → (j = i → f1 j = c) ∧ (j ≠ i → f1 j = f0 j)) (h0 : 0 ≤ i) (h1 : i < n) (hc : c < f0 i) : ∀ t : Int, cntE f0 t n ≤ cntE f1 t n ∧ (t = c → cntE f1 t n = cntE f0 t n + 1) := fun t => by
  have := cnt_setD (t := t) (n := n) h h0 h1
  omega
/-! fields of objects in arrays of references -/
theorem rfi_nm {ws : va_W} {a len kf : Nat} {z : Int} {v : Value} (h : ((v_ad v : Nat) : Int) = w_el ws a z.toNat) (h0 : 0 ≤ z) (h1 : z < len) : w_rfi ws a z len kf = w_fi ws v kf := by
  unfold w_rfi
  rw [decide_eq_true h0, decide_eq_true h1]
  show w_fi ws (.ref (w_ei ws a z).toNat) kf = w_fi ws v kf
  have e : w_ei ws a z = ((v_ad v : Nat) : Int) := h.symm
  rw [e, Int.toNat_natCast]
  rfl
/-! the reference's rectangle -/
theorem st_in {x y w W H m q : Int} (hm : m = y * w) (hw : W = w) (hq : q = m + x) (hx0 : 0 ≤ x) (hx : x ≤ w - 1) (hy0 : 0 ≤ y) (hy : y ≤ H - 1) : 0 ≤ q ∧ q + 1 ≤ W * H := by
  subst hw
  have h1 := grid_lt (x := x) (y := y) (w := W) (h := H) hx0 (by omega) (by omega)
  have h2 := Int.mul_nonneg hy0 (show 0 ≤ W from by omega)
  omega
theorem sp_4 {a b w h W H : Int} (ha : a = 4 * w) (hb : b = a * h) (hw : W = w) (hh : H = h) : b = 4 * (W * H) := by
  subst hw hh ha hb
  rw [Int.mul_assoc]
theorem or_all1 {P : Prop} {B : Int} {φ : Int → Prop} (h : ∀ j : Int, 0 ≤ j → j < B → (P ∨ φ j)) : P ∨ ∀ j : Int, 0 ≤ j → j < B → φ j := by
  by_cases p : P
  · exact Or.inl p
  · exact Or.inr (fun j h0 h1 => (h j h0 h1).resolve_left p)
theorem or_all2 {P Q : Prop} {B : Int} {φ : Int → Prop} (h : ∀ j : Int, 0 ≤ j → j < B → (P ∨ Q ∨ φ j)) : P ∨ Q ∨ ∀ j : Int, 0 ≤ j → j < B → φ j := by
  by_cases p : P
  · exact Or.inl p
  · exact Or.inr (or_all1 (fun j h0 h1 => (h j h0 h1).resolve_left p))
theorem all_or1 {P : Prop} {B : Int} {φ : Int → Prop} (h : P ∨ ∀ j : Int, 0 ≤ j → j < B → φ j) : ∀ j : Int, 0 ≤ j → j < B → (P ∨ φ j) := fun j h0 h1 => h.imp id (fun g => g j h0 h1)
theorem all_or2 {P Q : Prop} {B : Int} {φ : Int → Prop} (h : P ∨ Q ∨ ∀ j : Int, 0 ≤ j → j < B → φ j) : ∀ j : Int, 0 ≤ j → j < B → (P ∨ Q ∨ φ j) := fun j h0 h1 => h.imp id (fun g => all_or1 g j h0 h1)
theorem all_im {P : Prop} {B : Int} {φ : Int → Prop} (h : P → ∀ j : Int, 0 ≤ j → j < B → φ j) : ∀ j : Int, 0 ≤ j → j < B → (P → φ j) := fun j h0 h1 p => h p j h0 h1
