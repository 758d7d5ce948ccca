/-! counts, sums and numbers of the first elements -/
theorem cnt_0 (f : Int → Int) (t : Int) : cntE f t 0 = 0 := by unfold cntE; rw [dif_pos rfl]
theorem cnt_s (f : Int → Int) (t : Int) (n : Nat) : cntE f t (n + 1) = cntE f t n + (if f ((n : Nat) : Int) ≤ t then 1 else 0) := by
  conv => lhs; unfold cntE
  rw [dif_neg (by omega), Nat.add_sub_cancel]
theorem sum_0 (f : Int → Int) : sumE f 0 = 0 := by unfold sumE; rw [dif_pos rfl]
theorem sum_s (f : Int → Int) (n : Nat) : sumE f (n + 1) = sumE f n + f ((n : Nat) : Int) := by
  conv => lhs; unfold sumE
  rw [dif_neg (by omega), Nat.add_sub_cancel]
theorem num_0 (f : Int → Int) : numE f 0 = 0 := by unfold numE; rw [dif_pos rfl]
theorem num_s (f : Int → Int) (n : Nat) : numE f (n + 1) = 32 * numE f n + f ((n : Nat) : Int) := by
  conv => lhs; unfold numE
  rw [dif_neg (by omega), Nat.add_sub_cancel]
theorem cnt_bd (f : Int → Int) (t : Int) : ∀ n : Nat, 0 ≤ cntE f t n ∧ cntE f t n ≤ n
  | 0 => by rw [cnt_0]; omega
  | n + 1 => by
    have := cnt_bd f t n
    rw [cnt_s]
    split <;> omega
theorem cnt_eq {f1 f0 : Int → Int} {t : Int} : ∀ {n : Nat}, (∀ j : Int, 0 ≤ j → j < n → f1 j = f0 j) → cntE f1 t n = cntE f0 t n
  | 0, _ => by rw [cnt_0, cnt_0]
  | n + 1, h => by
    simp only [cnt_s]
    rw [cnt_eq (fun j h0 h1 => h j h0 (by omega)), h (n : Nat) (by omega) (by omega)]
theorem cnt_set {f1 f0 : Int → Int} {t i v : Int} : ∀ {n : Nat}, (∀ j : Int, 0 ≤ j → (j = i → f1 j = v) ∧ (j ≠ i → f1 j = f0 j)) → 0 ≤ i → i < n → cntE f1 t n + (if f0 i ≤ t then 1 else 0) = cntE f0 t n + (if v ≤ t then 1 else 0)
  | 0, _, h0, h1 => by omega
  | n + 1, h, h0, h1 => by
    simp only [cnt_s]
    by_cases e : i = (n : Nat)
    · have e1 : cntE f1 t n = cntE f0 t n := cnt_eq (fun j g0 g1 => (h j g0).2 (by omega))
      have e2 := (h (n : Nat) (by omega)).1 e.symm
      rw [e1, e2, e]; omega
    · have ih := cnt_set (t := t) (n := n) h h0 (by omega)
      have e2 := (h (n : Nat) (by omega)).2 (fun q => e q.symm)
      rw [e2]; omega
theorem cnt_all {f : Int → Int} {t : Int} : ∀ {n : Nat}, (∀ j : Int, 0 ≤ j → j < n → f j ≤ t) → cntE f t n = n
  | 0, _ => by rw [cnt_0]; rfl
  | n + 1, h => by
    simp only [cnt_s]
    rw [cnt_all (fun j h0 h1 => h j h0 (by omega)), if_pos (h (n : Nat) (by omega) (by omega))]; omega
theorem cnt_none {f : Int → Int} {t : Int} : ∀ {n : Nat}, (∀ j : Int, 0 ≤ j → j < n → t < f j) → cntE f t n = 0
  | 0, _ => cnt_0 f t
  | n + 1, h => by
    simp only [cnt_s]
    have := h (n : Nat) (by omega) (by omega)
    rw [cnt_none (fun j h0 h1 => h j h0 (by omega)), if_neg (by omega)]; omega
theorem cnt_ex {f : Int → Int} {t : Int} {n : Nat} (h : cntE f t n < n) : ∃ j : Int, 0 ≤ j ∧ j < n ∧ t < f j := by
  apply Classical.byContradiction
  intro hn
  have : ∀ j : Int, 0 ≤ j → j < n → f j ≤ t := fun j h0 h1 => by
    apply Classical.byContradiction
    intro h2
    exact hn ⟨j, h0, h1, by omega⟩
  rw [cnt_all this] at h
  omega
theorem cnt_has {f : Int → Int} {t : Int} {n : Nat} (h : 0 < cntE f t n) : ∃ j : Int, 0 ≤ j ∧ j < n ∧ f j ≤ t := by
  apply Classical.byContradiction
  intro hn
  have : ∀ j : Int, 0 ≤ j → j < n → t < f j := fun j h0 h1 => by
    apply Classical.byContradiction
    intro h2
    exact hn ⟨j, h0, h1, by omega⟩
  rw [cnt_none this] at h
  omega
/-- one element is above: not all count -/
theorem cnt_lt {f : Int → Int} {t i : Int} : ∀ {n : Nat}, 0 ≤ i → i < n → t < f i → cntE f t n + 1 ≤ n
  | 0, h0, h1, _ => by omega
  | n + 1, h0, h1, h2 => by
    simp only [cnt_s]
    by_cases e : i = (n : Nat)
    · have := cnt_bd f t n
      rw [e] at h2
      rw [if_neg (by omega)]; omega
    · have := cnt_lt (n := n) h0 (by omega) h2
      split <;> omega
theorem cnt_gt {f : Int → Int} {t i : Int} : ∀ {n : Nat}, 0 ≤ i → i < n → f i ≤ t → 1 ≤ cntE f t n
  | 0, h0, h1, _ => by omega
  | n + 1, h0, h1, h2 => by
    simp only [cnt_s]
    have b := cnt_bd f t n
    by_cases e : i = (n : Nat)
    · rw [e] at h2
      rw [if_pos h2]; omega
    · have := cnt_gt (n := n) h0 (by omega) h2
      split <;> omega
theorem sumE_eq {f1 f0 : Int → Int} : ∀ {n : Nat}, (∀ j : Int, 0 ≤ j → j < n → f1 j = f0 j) → sumE f1 n = sumE f0 n
  | 0, _ => by rw [sum_0, sum_0]
  | n + 1, h => by
    simp only [sum_s]
    rw [sumE_eq (fun j h0 h1 => h j h0 (by omega)), h (n : Nat) (by omega) (by omega)]
theorem sumE_set {f1 f0 : Int → Int} {i v : Int} : ∀ {n : Nat}, (∀ j : Int, 0 ≤ j → (j = i → f1 j = v) ∧ (j ≠ i → f1 j = f0 j)) → 0 ≤ i → i < n → sumE f1 n + f0 i = sumE f0 n + v
  | 0, _, h0, h1 => by omega
  | n + 1, h, h0, h1 => by
    simp only [sum_s]
    by_cases e : i = (n : Nat)
    · have e1 : sumE f1 n = sumE f0 n := sumE_eq (fun j g0 g1 => (h j g0).2 (by omega))
      have e2 := (h (n : Nat) (by omega)).1 e.symm
      rw [e1, e2, e]; omega
    · have ih := sumE_set (n := n) h h0 (by omega)
      have e2 := (h (n : Nat) (by omega)).2 (fun q => e q.symm)
      rw [e2]; omega
theorem num_eq {f1 f0 : Int → Int} : ∀ {n : Nat}, (∀ j : Int, 0 ≤ j → j < n → f1 j = f0 j) → numE f1 n = numE f0 n
  | 0, _ => by rw [num_0, num_0]
  | n + 1, h => by
    simp only [num_s]
    rw [num_eq (fun j h0 h1 => h j h0 (by omega)), h (n : Nat) (by omega) (by omega)]
theorem num_lt {f1 f0 : Int → Int} {i : Int} : ∀ {n : Nat}, (∀ j : Int, 0 ≤ j → j < i → f1 j = f0 j) → f0 i + 1 ≤ f1 i → (∀ j : Int, 0 ≤ j → j < n → f0 j ≤ 31 ∧ 0 ≤ f1 j) → 0 ≤ i → i < n → numE f0 n + 1 ≤ numE f1 n
  | 0, _, _, _, h0, h1 => by omega
  | n + 1, h, hi, hb, h0, h1 => by
    simp only [num_s]
    by_cases e : i = (n : Nat)
    · have e1 : numE f1 n = numE f0 n := num_eq (fun j g0 g1 => h j g0 (by omega))
      rw [e] at hi
      omega
    · have ih := num_lt (n := n) h hi (fun j g0 g1 => hb j g0 (by omega)) h0 (by omega)
      have b := hb (n : Nat) (by omega) (by omega)
      omega
theorem num_bd {f : Int → Int} : ∀ {n : Nat}, (∀ j : Int, 0 ≤ j → j < n → 0 ≤ f j ∧ f j ≤ 31) → 0 ≤ numE f n ∧ numE f n < 32 ^ n
  | 0, _ => by rw [num_0]; exact ⟨Int.le_refl _, by show (0 : Int) < 1; decide⟩
  | n + 1, h => by
    have ih := num_bd (n := n) (fun j g0 g1 => h j g0 (by omega))
    have b := h (n : Nat) (by omega) (by omega)
    have e : (32 : Int) ^ (n + 1) = 32 * 32 ^ n := by rw [Int.pow_succ, Int.mul_comm]
    simp only [num_s]
    rw [e]; omega
/-! fields of objects in arrays of references -/
theorem rfi_nm {ws : va_W} {a len kf : Nat} {z : Int} {v : Value} (h : ((v_ad v : Nat) : Int) = w_el ws a z.toNat) (h0 : 0 ≤ z) (h1 : z < len) : w_rfi ws a z len kf = w_fi ws v kf := by
  unfold w_rfi
  rw [decide_eq_true h0, decide_eq_true h1]
  show w_fi ws (.ref (w_ei ws a z).toNat) kf = w_fi ws v kf
  have e : w_ei ws a z = ((v_ad v : Nat) : Int) := h.symm
  rw [e, Int.toNat_natCast]
  rfl
theorem cnt_setD {f1 f0 : Int → Int} {t i v : Int} {n : Nat} (h : ∀ j : Int, 0 ≤ j → (j = i → f1 j = v) ∧ (j ≠ i → f1 j = f0 j)) (h0 : 0 ≤ i) (h1 : i < n) : (f0 i ≤ t ∧ v ≤ t ∧ cntE f1 t n = cntE f0 t n) ∨ (f0 i ≤ t ∧ t < v ∧ cntE f1 t n = cntE f0 t n - 1) ∨ (t < f0 i ∧ v ≤ t ∧ cntE f1 t n = cntE f0 t n + 1) ∨ (t < f0 i ∧ t < v ∧ cntE f1 t n = cntE f0 t n) := by
  have e := cnt_set (t := t) (n := n) h h0 h1
  by_cases a : f0 i ≤ t
  · by_cases b : v ≤ t
    · rw [if_pos a, if_pos b] at e; left; exact ⟨a, b, by omega⟩
    · rw [if_pos a, if_neg b] at e; right; left; exact ⟨a, by omega, by omega⟩
  · by_cases b : v ≤ t
    · rw [if_neg a, if_pos b] at e; right; right; left; exact ⟨by omega, b, by omega⟩
    · rw [if_neg a, if_neg b] at e; right; right; right; exact ⟨by omega, by omega, by omega⟩
/-! the reference's rectangle -/
theorem st_in {x y w W H m q : Int} (hm : m = y * w) (hw : W = w) (hq : q = m + x) (hx0 : 0 ≤ x) (hx : x ≤ w - 1) (hy0 : 0 ≤ y) (hy : y ≤ H - 1) : 0 ≤ q ∧ q + 1 ≤ W * H := by
  subst hw
  have h1 := grid_lt (x := x) (y := y) (w := W) (h := H) hx0 (by omega) (by omega)
  have h2 := Int.mul_nonneg hy0 (show 0 ≤ W from by omega)
  omega
theorem sp_4 {a b w h W H : Int} (ha : a = 4 * w) (hb : b = a * h) (hw : W = w) (hh : H = h) : b = 4 * (W * H) := by
  subst hw hh ha hb
  rw [Int.mul_assoc]
theorem cnt_up {f1 f0 : Int → Int} {c i : Int} {n : Nat} (h : ∀ j : Int, 0 ≤ j → (j = i → f1 j = c) ∧ (j ≠ i → f1 j = f0 j)) (h0 : 0 ≤ i) (h1 : i < n) (hc : c < f0 i) : ∀ t : Int, cntE f0 t n ≤ cntE f1 t n ∧ (t = c → cntE f1 t n = cntE f0 t n + 1) := fun t => by
  have := cnt_setD (t := t) (n := n) h h0 h1
  omega
theorem or_all1 {P : Prop} {B : Int} {φ : Int → Prop} (h : ∀ j : Int, 0 ≤ j → j < B → (P ∨ φ j)) : P ∨ ∀ j : Int, 0 ≤ j → j < B → φ j := by
  by_cases p : P
  · exact Or.inl p
  · exact Or.inr (fun j h0 h1 => (h j h0 h1).resolve_left p)
theorem or_all2 {P Q : Prop} {B : Int} {φ : Int → Prop} (h : ∀ j : Int, 0 ≤ j → j < B → (P ∨ Q ∨ φ j)) : P ∨ Q ∨ ∀ j : Int, 0 ≤ j → j < B → φ j := by
  by_cases p : P
  · exact Or.inl p
  · exact Or.inr (or_all1 (fun j h0 h1 => (h j h0 h1).resolve_left p))
theorem all_or1 {P : Prop} {B : Int} {φ : Int → Prop} (h : P ∨ ∀ j : Int, 0 ≤ j → j < B → φ j) : ∀ j : Int, 0 ≤ j → j < B → (P ∨ φ j) := fun j h0 h1 => h.imp id (fun g => g j h0 h1)
theorem all_or2 {P Q : Prop} {B : Int} {φ : Int → Prop} (h : P ∨ Q ∨ ∀ j : Int, 0 ≤ j → j < B → φ j) : ∀ j : Int, 0 ≤ j → j < B → (P ∨ Q ∨ φ j) := fun j h0 h1 => h.imp id (fun g => all_or1 g j h0 h1)
theorem all_im {P : Prop} {B : Int} {φ : Int → Prop} (h : P → ∀ j : Int, 0 ≤ j → j < B → φ j) : ∀ j : Int, 0 ≤ j → j < B → (P → φ j) := fun j h0 h1 p => h p j h0 h1
