-- orders of a small layer, at the class's own places
theorem ord_opd2 {od : Int → Int} {n c f k x p : Int} (h : ORD od) (hc : TBC n c) (hf : TBS n f) (hx : x = f + k) (k0 : 0 ≤ k) (k1 : k < c) (n6 : n ≤ 6) (hp : p = od x) (p0 : 0 ≤ p) : OPD p n := ⟨p0, fun i i0 i1 => by
  unfold TBC at hc; unfold TBS at hf
  have q := h n k i (by omega) n6 k0 (by omega) i0 i1
  rw [hp, hx, hf]; exact q⟩
theorem tbc_cap {n v C k : Int} (t : TBC n v) (hn : n ≤ k) (e : cof k = C) : v ≤ C := by
  unfold TBC at t; have := cof_mono hn; omega
theorem pq6_cap {k x s n one : Int} (h : BLe k x) (p : PQ6 x s) (hn : n = s - one) (h1 : one = 1) : n ≤ k - 1 := by
  unfold PQ6 at p; have := h.2.2; omega
theorem ble_del1 {k k' x q r y m1 a one : Int} (h : BLe k x) (a0 : 0 ≤ a) (a1 : a < 6) (hb : bit x a) (hq : bvp q = bvp one <<< a.toNat) (h1 : one = 1) (hr : bvp r = bvp q ^^^ bvp m1) (hm : m1 = -1) (hy : bvp y = bvp x &&& bvp r) (y0 : 0 ≤ y) (y1 : y ≤ 63) (hk : k' = k - 1) : BLe k' y := by
  subst h1; exact ble_del h a0 a1 hb hq hr hm hy y0 y1 hk
theorem ct0_of {ls : Int → Int} {l n c k : Int} (q : TBC n c) (e : n = ls (l + 1) - ls l) (hl : l = 0) (hk : k = c - 1) : CT0 ls k := by
  subst hl; unfold TBC at q; have r := cof_rng n; unfold CT0
  have e' : n = ls 1 - ls 0 := e
  rw [← e', ← q]; exact ⟨by omega, by omega⟩
theorem kl0_of {ls : Int → Int} {k : Int} (h : CT0 ls k) (k0 : 0 ≤ k) : KL0 ls k := ⟨k0, by
  have e : (0 : Int) + 1 = 1 := by omega
  rw [e]; exact h.2⟩
-- turned edges
theorem cai_rng {ls mb tl wt lk : Int → Int} {s k j c : Int} (h : CAI ls mb tl wt lk s k j c) (hl : ∀ i, 0 ≤ i → i < 128 → 0 ≤ ls i ∧ ls i ≤ 1000000) (hw : ∀ i, 0 ≤ i → i < 48 → 0 ≤ wt i ∧ wt i ≤ 9) (hk : ∀ i, 0 ≤ i → i < 576 → -1 ≤ lk i ∧ lk i ≤ 47) (hm : ∀ i, 0 ≤ i → i < 24 → 0 ≤ mb i ∧ mb i ≤ 23) (j7 : j ≤ 7) (s0 : 0 ≤ s) (s1 : s ≤ 127) (k0 : 0 ≤ k) (k1 : k < 7) (hb : bit s k) : 0 ≤ c ∧ c ≤ 1000063 := by
  have q := sub_bit s0 s1 k0 k1 hb
  have w := hl (s - 2 ^ k.toNat) q.1 (by omega)
  have r := smrg (f := caT mb lk tl wt s k) (n := j) (lo := 0) (hi := 9) h.1 (fun i a b => by
    by_cases d : i ≠ k ∧ bit s i
    · rw [caT_in d.1 d.2]
      have p := hm i a (by omega); have q := hm k k0 (by omega)
      exact wO_rng hw hk p.1 (by omega) q.1 (by omega)
    · rw [caT_out d]; omega)
  have := h.2
  omega
theorem del_bit1 {s k x q r m1 one : Int} (s0 : 0 ≤ s) (s1 : s ≤ 127) (k0 : 0 ≤ k) (k1 : k < 7) (hb : bit s k) (hq : bvp q = bvp one <<< k.toNat) (h1 : one = 1) (hr : bvp r = bvp q ^^^ bvp m1) (hm : m1 = -1) (hx : bvp x = bvp s &&& bvp r) (x0 : 0 ≤ x) (x1 : x ≤ 127) : x = s - 2 ^ k.toNat := by
  subst h1; exact (del_bit s0 s1 k0 k1 hb hq hr hm hx x0 x1).1
theorem bit_one2 {s sr t c v one : Int} (hs : s = sr) (ht : bvp t = bvp s >>> v.toNat) (hc : bvp c = bvp t &&& bvp one) (h1 : one = 1) (v0 : 0 ≤ v) (c0 : 0 ≤ c) (c1 : c ≤ 1) : bit sr v ↔ c = 1 := by
  subst hs; exact bit_one ht hc h1 v0 c0 c1
theorem win_step2 {r r' : Int → Int} {n k i i' p x y z : Int} (h : WIn r n k i) (i1 : i < n) (n32 : n ≤ 32) (hb : bit (r i) k) (hx : bvp x = bvp z ||| bvp y) (hz : z = r i) (hy : y = r k) (hs : st1 r r' p x) (hp : p = i) (hi : i' = i + 1) : WIn r' n k i' := by
  subst hz; exact win_step h i1 n32 hb hx hy hs hp hi
theorem wkn_cut {r : Int → Int} {n k : Int} (h : WKn r n k) (hk : n ≤ k) : WKn r n n := fun a a0 a1 a2 => h a a0 (by omega) a2
theorem shl_pow1 {e cn one : Int} (h : bvp e = bvp one <<< cn.toNat) (h1 : one = 1) (c0 : 0 ≤ cn) (c7 : cn ≤ 7) (e0 : 0 ≤ e) (e1 : e ≤ 128) : e = 2 ^ cn.toNat := by
  subst h1; exact shl_pow h c0 c7 e0 e1
theorem osl_start {ls rk mb tl wt lk : Int → Int} {S e e2 lf pl cn one one2 : Int} (h : LSO ls mb tl wt lk S cn) (hm : MGD mb cn) (c0 : 0 ≤ cn) (c7 : cn ≤ 7) (hq : bvp e = bvp one <<< cn.toNat) (h1 : one = 1) (e0 : 0 ≤ e) (e1 : e ≤ 128) (hS : e ≤ S) (hq2 : bvp e2 = bvp one2 <<< cn.toNat) (h12 : one2 = 1) (e20 : 0 ≤ e2) (e21 : e2 ≤ 128) (hl : lf = e2 - 1) (hp : pl = 0) : OSL ls rk mb tl wt lk lf pl cn := by
  have p1 := shl_pow1 hq h1 c0 c7 e0 e1
  have p2 := shl_pow1 hq2 h12 c0 c7 e20 e21
  exact ⟨⟨h.1, fun s a b => h.2 s a (by omega)⟩, osi_start hm c7 p2 hl hp⟩
theorem osk_take {ls rk rk' mb tl wt lk : Int → Int} {lf lf' pl cn k k' fd fd' p x y q r m1 one : Int} (h : OSK ls rk mb tl wt lk lf pl cn k fd) (hf : fd = 0) (k1 : k < cn) (hb : bit lf k) (hs : st1 rk rk' p x) (hp : p = y) (hy : y = mb k) (hx : x = pl) (hq : bvp q = bvp one <<< k.toNat) (h1 : one = 1) (hr : bvp r = bvp q ^^^ bvp m1) (hm : m1 = -1) (hl : bvp lf' = bvp lf &&& bvp r) (l0 : 0 ≤ lf') (l1 : lf' ≤ 127) (hk : k' = k + 1) (hf' : fd' = 1) : OSK ls rk' mb tl wt lk lf' pl cn k' fd' := by
  subst h1
  obtain ⟨a, k0, b⟩ := h
  refine ⟨a, by omega, Or.inr ⟨hf', ?_⟩⟩
  rcases b with b | b
  · exact osi_take b.2.1 k0 k1 hb hs hp hy hx hq hr hm hl l0 l1 rfl
  · omega
theorem rkm_orl {rk rk' lp mb : Int → Int} {n k cn lf bg en i v x : Int} (h : RKM rk lp mb n k cn) (ho : ORL rk mb cn lf bg en i) (v0 : 0 ≤ v) (v1 : v < 24) (hb : bit lf v) (hs : st1 rk rk' v x) : RKM rk' lp mb n k cn := by
  obtain ⟨s, s0, s1, e⟩ := ho.2.2.2.2.1 v v0 (by omega) hb
  exact rkm_set (s := s) (y := v) h hs rfl e.symm s0 s1
theorem eri_step1 {r r' tl hd : Int → Int} {e e' a b x q p z one : Int} (h : ERI r tl hd e) (ha : a = tl e) (hb : b = hd e) (b0 : 0 ≤ b) (b1 : b < 32) (a0 : 0 ≤ a) (hz : z = r a) (hq : bvp q = bvp one <<< b.toNat) (h1 : one = 1) (hx : bvp x = bvp z ||| bvp q) (hs : st1 r r' p x) (hp : p = a) (he : e' = e + 1) (ht : ∀ j, 0 ≤ j → j < 48 → 0 ≤ tl j ∧ tl j ≤ 23) (e48 : e < 48) : ERI r' tl hd e' := by
  subst h1; exact eri_step h ha hb b0 b1 a0 hz hq hx hs hp he ht e48
theorem rkl_one1 {n n' k k' cn : Int} {lp rk mb : Int → Int} (h : RKL n lp rk k) (hm : MGI lp mb k n' cn) (e : n' = n) (hc : cn ≤ 1) (hk : k' = k + 1) : RKL n lp rk k' := by
  subst e; exact rkl_one h hm hc hk
theorem rkm_of1 {n n' k k' cn v : Int} {lp rk mb : Int → Int} (h : RKL n lp rk k) (hm : MGI lp mb k v cn) (e : n' = n) (ek : k' = k) : RKM rk lp mb n' k' cn := by
  subst e; subst ek; exact rkm_of h hm
theorem rkl_next1 {n n1 n2 k k1 k' cn : Int} {lp rk mb : Int → Int} (h : RKM rk lp mb n1 k1 cn) (hm : MGI lp mb k n2 cn) (ho : ORE rk mb cn) (e1 : n1 = n) (e2 : n2 = n) (e3 : k1 = k) (hk : k' = k + 1) : RKL n lp rk k' := by
  subst e1; subst e2; subst e3; exact rkl_next h hm ho hk
theorem wkg_of {n m : Int} {r : Int → Int} (h : WKn r m m) (e : m = n) : WKG n r := by subst e; exact h
theorem nbl_of {n m : Int} {r lp : Int → Int} (h : NBQ r lp m) (e : m = n) : NBL n r lp := by subst e; exact h
theorem nbt_of {n m c : Int} {lp : Int → Int} (h : NBR lp m c) (e : m = n) : NBT n lp c := by subst e; exact h
