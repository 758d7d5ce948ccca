variable {PQ : pq_T}
/-! what makes oracles_zq proofs quick -/
theorem fc_hd {c : Nat} {ns : List Nat} {is : List Int} {r : List fc_T} {ta : Nat → Option Nat} {ws : va_W} {vs : List Value} (hl : Nat.blt c 100 = true) (h : fc_ok PQ ((c, ns, is) :: r) ta ws vs) : fc_m PQ c (ns.map (n_v vs)) is ws := (fc_un (f := (c, ns, is)) (Nat.le_of_ble_eq_true hl) h).1
theorem fc_tl {c : Nat} {ns : List Nat} {is : List Int} {r : List fc_T} {ta : Nat → Option Nat} {ws : va_W} {vs : List Value} (hl : Nat.blt c 100 = true) (h : fc_ok PQ ((c, ns, is) :: r) ta ws vs) : fc_ok PQ r ta ws vs := (fc_un (f := (c, ns, is)) (Nat.le_of_ble_eq_true hl) h).2
theorem nf_in {vs : List Value} {ns : List Nat} {N : Nat} (hl : vs.length = N) (h : ns.all (fun n => Nat.blt n N) = true) : ∀ n ∈ ns, n < vs.length := fun n hn => by
  rw [hl]; exact Nat.le_of_ble_eq_true (List.all_eq_true.mp h n hn)
theorem nf_inA {vs xs : List Value} {ns : List Nat} {N : Nat} (hl : vs.length = N) (h : ns.all (fun n => Nat.blt n (N + xs.length)) = true) : ∀ n ∈ ns, n < (vs ++ xs).length := fun n hn => by
  rw [List.length_append, hl]; exact Nat.le_of_ble_eq_true (List.all_eq_true.mp h n hn)
theorem el_kp {ta : Nat → Option Nat} {w0 w1 : va_W} {a i c r r2 : Nat} {v : Int} (s : ∀ b j, w_el w0 b j = if b = a ∧ j = i then v else w_el w1 b j) (ra : ta a = some r) (rc : ta c = some r2) (hne : r2 ≠ r) : ∀ j : Int, w_ei w0 c j = w_ei w1 c j := fun j => by
  show w_el w0 c j.toNat = w_el w1 c j.toNat
  rw [s, if_neg (fun e => by have e1 := e.1; rw [← e1, rc] at ra; exact hne (Option.some.inj ra))]
theorem th_elz {kA : Nat → ClassId} {G : List rg_T} {A : Nat → Prop} {ta : Nat → Option Nat} {ws : va_W} (hD : va_D A ws) (hth : th_ok kA G ta ws) {a r : Nat} (ha : ta a = some r) {kd n m : Nat} {lo hi : Int} {rs : List Nat} {L : List tv_T} (hg : G[r]? = some (kd, n, m, (0, lo, hi, rs), L)) (hk : kd < 3) : ∀ j : Int, 0 ≤ j → j < (n : Int) → lo ≤ w_ei ws a j ∧ w_ei ws a j ≤ hi := fun j h0 h1 => th_el hD hth ha hg hk (j := j.toNat) (by omega)

/-! all hypotheses of an oracle as one chain -/
def kF (ta : Nat → Option Nat) (vs : List Value) : List (Nat × tv_T) → Prop → Prop
  | [], R => R
  | (n, (0, lo, hi, l)) :: r, R => tv_ok ta (0, lo, hi, l) (n_v vs n) → (lo ≤ v_iv (n_v vs n) ∧ v_iv (n_v vs n) ≤ hi) → kF ta vs r R
  | (n, (1, lo, hi, l)) :: r, R => tv_ok ta (1, lo, hi, l) (n_v vs n) → (lo ≤ v_iv (n_v vs n) ∧ v_iv (n_v vs n) ≤ hi) → kF ta vs r R
  | (n, (2, lo, hi, [g])) :: r, R => tv_ok ta (2, lo, hi, [g]) (n_v vs n) → ta (v_ad (n_v vs n)) = some g → kF ta vs r R
  | q :: r, R => tv_ok ta q.2 (n_v vs q.1) → kF ta vs r R
theorem kF_el {ta : Nat → Option Nat} {vs : List Value} {R : Prop} (L : List (Nat × tv_T)) (h : kF ta vs L R) (hk : ∀ q ∈ L, tv_ok ta q.2 (n_v vs q.1)) : R := by
  induction L with
  | nil => exact h
  | cons q r ih =>
    have h0 := (List.forall_mem_cons.mp hk).1
    have h1 := (List.forall_mem_cons.mp hk).2
    unfold kF at h
    split at h
    · rename_i e; cases e
    · rename_i e; cases e; exact ih (h h0 (tv_rng h0)) h1
    · rename_i e; cases e; exact ih (h h0 (tv_rngL h0)) h1
    · rename_i e; cases e; exact ih (h h0 (tv_rg h0)) h1
    · rename_i e; cases e; exact ih (h h0) h1
def dF (vs : List Value) : List of_T → Prop → Prop
  | [], R => R
  | (n, m, lo, hi) :: r, R => (v_iv (n_v vs m) + lo ≤ v_iv (n_v vs n) ∧ v_iv (n_v vs n) ≤ v_iv (n_v vs m) + hi) → dF vs r R
theorem dF_el {vs : List Value} {R : Prop} : ∀ (L : List of_T), dF vs L R → (∀ q ∈ L, n_iv vs q.2.1 + q.2.2.1 ≤ n_iv vs q.1 ∧ n_iv vs q.1 ≤ n_iv vs q.2.1 + q.2.2.2) → R
  | [], h, _ => h
  | (_, _, _, _) :: r, h, hk => dF_el r (h (List.forall_mem_cons.mp hk).1) (List.forall_mem_cons.mp hk).2
def fF (PQ : pq_T) : List fc_T → (Nat → Option Nat) → va_W → List Value → Prop → Prop
  | [], _, _, _, R => R
  | (c, ns, is) :: r, ta, ws, vs, R => bif Nat.blt c 100 then (fc_m PQ c (ns.map (n_v vs)) is ws → fF PQ r ta ws vs R) else (∀ (ta0 : Nat → Option Nat) (w0 : va_W), ta_le ta0 ta → fc_s (c, ns, is) ta0 w0 ws vs → fF PQ r ta0 w0 vs R)
theorem fF_el {vs : List Value} {R : Prop} : ∀ (L : List fc_T) (ta : Nat → Option Nat) (ws : va_W), fF PQ L ta ws vs R → fc_ok PQ L ta ws vs → R
  | [], _, _, h, _ => h
  | (c, ns, is) :: r, ta, ws, h, hk => by
    unfold fF at h
    cases hb : Nat.blt c 100 with
    | true =>
      rw [hb] at h
      exact fF_el r ta ws (h (fc_hd hb hk)) (fc_tl hb hk)
    | false =>
      rw [hb] at h
      have hn : ¬ c < 100 := fun q => by
        have e : Nat.blt c 100 = true := Nat.ble_eq_true_of_le q
        rw [hb] at e; cases e
      obtain ⟨ta0, w0, a, b, d⟩ := fc_us (f := (c, ns, is)) hn hk
      exact fF_el r ta0 w0 (h ta0 w0 a b) d
theorem or_mk {kA : Nat → ClassId} {G : List rg_T} {pc N : Nat} {needs : List (Nat × tv_T)} {facts : List fc_T} {rf : List (Nat × tv_T)} {kds : List tv_T} {news : List fc_T} {ofs dist : List of_T} (h : ∀ (A : Nat → Prop) (ta : Nat → Option Nat) (ws : va_W) (vs : List Value), va_D A ws → th_ok kA G ta ws → vs.length = N → kF ta vs needs (dF vs dist (fF PQ facts ta ws vs ((∀ q ∈ rf, tv_ok ta q.2 (n_v vs q.1)) ∧ ∃ xs : List Value, ag_ok ta kds xs ∧ (∀ f ∈ news, f.1 < 100 ∧ fc_1 PQ f ws (vs ++ xs)) ∧ ∀ q ∈ ofs, sy_ofs (vs ++ xs) q)))) : or_ok PQ kA G (pc, N, needs, facts, rf, kds, news, ofs, dist) :=
  fun A ta ws vs hD hth hl hk hds hf => fF_el facts ta ws (dF_el dist (kF_el needs (h A ta ws vs hD hth hl) hk) hds) hf
