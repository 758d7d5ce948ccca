/-! what the house's methods take out of it -/
section HI12
variable {w : va_W} {H x f m vg : Value}
theorem hg_ar {o : Value} {k t : Nat} (a : w_fd w (v_ad o) k = .ref t) : w_ar w o k = t := by show v_ad (w_fd w (v_ad o) k) = t; rw [a]; rfl
theorem hg_gke (h : HG w (v_ad x)) : GKE (w_fi w x 0) (w_fi w x 1) (w_ei w (w_ar w x 7)) (w_ei w (w_ar w x 8)) := by
  obtain ⟨⟨t, hh, n, a1, a2, a3, a4, a5⟩, _⟩ := h
  rw [hg_ar a1, hg_ar a2]; exact a4
theorem hg_gnb (h : HG w (v_ad x)) : GNB (w_fi w x 0) (w_fi w x 1) (w_ei w (w_ar w x 14)) (w_ei w (w_ar w x 7)) (w_ei w (w_ar w x 8)) := by
  obtain ⟨⟨t, hh, n, a1, a2, a3, a4, a5⟩, _⟩ := h
  rw [hg_ar a3, hg_ar a1, hg_ar a2]; exact a5
theorem hg_syg (h : HG w (v_ad x)) (hn : w_fi w x 0 ≤ 24) : SYG (w_fi w x 0) (w_ei w (w_ar w x 14)) := gnb_syg (hg_gnb h).1 hn
theorem hf_all (h : HF w (v_ad x) (v_ad f)) (hk : w_fi w f 0 ≠ 0) : PNC (w_fi w x 0) (w_ei w (w_ar w x 14)) (w_ei w (w_ar w f 4)) ∧ FPA (w_fi w x 0) (w_fi w f 1) (w_ei w (w_ar w f 4)) ∧ TPO (w_fi w x 1) (w_ei w (w_ar w x 7)) (w_ei w (w_ar w x 8)) (w_ei w (w_ar w f 9)) ∧ BKS (w_fi w x 0) (w_fi w x 1) (w_fi w f 2) (w_ei w (w_ar w x 14)) (w_ei w (w_ar w x 7)) (w_ei w (w_ar w x 8)) := by
  rcases h with q | ⟨n, p, t, hh, u, a1, a2, a3, a4, a5, b⟩
  · exact absurd q hk
  · rw [hg_ar a1, hg_ar a2, hg_ar a3, hg_ar a4, hg_ar a5]; exact b
theorem hn_all (h : HN w (v_ad x) (v_ad m)) (hp : w_fi w m 0 = 1) : w_fi w m 5 = w_fi w x 0 ∧ w_fi w m 6 = w_fi w x 1 ∧ FIN (w_fi w m 5) (w_ei w (w_ar w m 9)) (w_ei w (w_ar w m 12)) ∧ FAD (w_fi w m 6) (w_ei w (w_ar w m 16)) := by
  obtain ⟨r, s, q, a1, a2, a3, b⟩ := h.2 hp
  rw [hg_ar a1, hg_ar a2, hg_ar a3]; exact b
theorem hn_plb (h : HN w (v_ad x) (v_ad m)) (hF : HF w (v_ad x) (v_ad f)) (hk : w_fi w f 0 ≠ 0) (hp : 0 ≤ w_fi w m 0 ∧ w_fi w m 0 ≤ 1) (he : w_fi w x 1 ≤ 48) (hr : ∀ d : Int, 0 ≤ d → d < 144 → -1 ≤ w_ei w (w_ar w m 16) d) : PLB (w_fi w m 0) (w_fi w x 1) (w_fi w f 2) (w_ei w (w_ar w m 16)) := by
  intro q1 q2
  obtain ⟨_, b, _, d⟩ := hn_all h (by omega)
  obtain ⟨_, _, _, e, _⟩ := hf_all hF hk
  refine ⟨by omega, fun z z0 z1 => ?_⟩
  have y1 := d z z0 (by omega)
  have y2 := hr z z0 (by omega)
  omega
/-- graph, facts, net of a place that some values are -/
theorem wq_hg {k : Nat} {ls : List Value} (h : WQF k (H :: vg :: ls) w) (hk : k % 2 = 1) (hx : v_ad x = pO w H 0 (v_iv vg).toNat) : HG w (v_ad x) := by rw [hx]; exact h.2.2.2.1 hk
theorem wq_hf {k : Nat} {ls : List Value} (h : WQF k (H :: vg :: ls) w) (hk : k / 2 % 2 = 1) (hx : v_ad x = pO w H 0 (v_iv vg).toNat) (hf : v_ad f = pO w H 1 (v_iv vg).toNat) : HF w (v_ad x) (v_ad f) := by rw [hx, hf]; exact h.2.2.2.2.1 hk
theorem wq_hn {k : Nat} {ls : List Value} (h : WQF k (H :: vg :: ls) w) (hk : k / 4 % 2 = 1) (hx : v_ad x = pO w H 0 (v_iv vg).toNat) (hm : v_ad m = pO w H 2 (v_iv vg).toNat) : HN w (v_ad x) (v_ad m) := by rw [hx, hm]; exact h.2.2.2.2.2.1 hk
theorem wq_fin {k : Nat} {ls : List Value} (h : WQF k (H :: vg :: ls) w) (hk : k / 4 % 2 = 1) (hm : v_ad m = pO w H 2 (v_iv vg).toNat) (hp : w_fi w m 0 = 1) : FIN (w_fi w m 5) (w_ei w (w_ar w m 9)) (w_ei w (w_ar w m 12)) := by
  have hn := h.2.2.2.2.2.1 hk
  rw [← hm] at hn
  obtain ⟨r, s, q, a1, a2, a3, _, _, b, _⟩ := hn.2 hp
  rw [hg_ar a1, hg_ar a2]; exact b
/-- the same thing of a place -/
theorem ref_same {a b : Value} {ta : Nat → Option Nat} {t t' : tv_T} (ha : tv_ok ta t a) (hb : tv_ok ta t' b) (h1 : t.1 = 2) (h2 : t'.1 = 2) (e : v_ad a = v_ad b) : a = b := by
  obtain ⟨c, _, rfl, _⟩ := tv_ref ha h1
  obtain ⟨d, _, rfl, _⟩ := tv_ref hb h2
  rw [show c = d from e]
def hd_chk (G : List rg_T) (m : Int) (ks : List Int) : Bool := (match G[rH]? with | some g => decide (10 ≤ g.1) && [0, 1, 2].all (fun f => !(ks.contains ((1000 * rH + f : Nat) : Int))) | none => false) && [0, 1, 2].all (fun f => !(m.toNat.testBit (rA f)))
/-- a call that writes nothing of the house's own -/
theorem hd_call {kA : Nat → ClassId} {G : List rg_T} {A : Nat → Prop} {ta ta0 : Nat → Option Nat} {w0 ws : va_W} {vs : List Value} {ns : List Nat} {mm : Int} {ks : List Int} (hD : va_D A ws) (hth : th_ok kA G ta ws) (hc : hs_chk G = true) (le : ta_le ta0 ta) (hH : ta (v_ad H) = some rH) (hH0 : (ta0 (v_ad H)).isSome = true) (s : (∀ b r, ta0 b = some r → mm.toNat.testBit r = false → ∀ j, w_el ws b j = w_el w0 b j) ∧ (∀ b r k, ta0 b = some r → ((1000 * r + k : Nat) : Int) ∉ ks → w_fd ws b k = w_fd w0 b k) ∧ (∀ n0 ∈ ns, ∀ n, n ≤ n0 → ∀ a, n_v vs n = .ref a → (ta0 a).isSome = true) ∧ (∀ b r k, ta0 b = some r → ((1000 * r + k : Nat) : Int) ∉ ks → w_fd ws b k = w_fd w0 b k) ∧ (∀ b k c, (ta0 b).isSome = true → w_fd w0 b k = .ref c → (ta0 c).isSome = true) ∧ ∀ b r j c, ta0 b = some r → mm.toNat.testBit r = false → (∃ cl n f, w_at ws b = some (.inl (cl, n, .inr (.inr (.inr (.inr f))))) ∧ j < n ∧ f j = some c) → (ta0 c).isSome = true) (hk : hd_chk G mm ks = true) : hd_eq H w0 ws := by
  unfold hd_chk at hk
  rw [Bool.and_eq_true] at hk
  obtain ⟨k1, k2⟩ := hk
  split at k1
  · rename_i g hg
    rw [Bool.and_eq_true, decide_eq_true_eq] at k1
    intro f hf
    have hin : f ∈ [0, 1, 2] := in3 hf
    have e0 : w_fd ws (v_ad H) f = w_fd w0 (v_ad H) f := by
      refine s.2.2.2.1 _ rH f (ta_old le hH hH0) (fun hq => ?_)
      have z := List.all_eq_true.mp k1.2 f hin
      rw [List.contains_iff_mem.mpr hq] at z; cases z
    refine ⟨e0, fun j hj => ?_⟩
    obtain ⟨b, b1, b2, b3, _⟩ := pO_ty hD hth hc hH hf
    have b4 : w_fd w0 (v_ad H) f = .ref b := by rw [← e0]; exact b1
    rw [hg_ar b4]
    obtain ⟨r0, hr0⟩ := Option.isSome_iff_exists.mp (s.2.2.2.2.1 _ f b hH0 b4)
    have er : r0 = rA f := by have := le b r0 hr0; rw [b3] at this; exact (Option.some.inj this).symm
    subst er
    have z := List.all_eq_true.mp k2 f hin
    rw [Bool.not_eq_true'] at z
    exact s.1 b _ hr0 z j
  · cases k1
/-- what of a place some values are, behind such a call -/
theorem wq_step {w0 : va_W} {k c : Nat} {ls : List Value} (hI : WQF 0 [H] w) (hd : hd_eq H w0 w) (h : WQF k (H :: vg :: ls) w0) (hk : c / 64 = k / 64 ∧ c / 8 % 2 = 0 ∧ c / 32 % 2 = 0) : WQF c (H :: vg :: ls) w := by
  have hg : (v_iv vg).toNat < 4 := by have := h.1; have := h.2.1; omega
  exact wq_in hI h.1 h.2.1 hk.2 (by rw [hk.1]; exact WL_eq hd hg (wq_wl h))
theorem HN_mv {o n : Nat} {w0 w1 : va_W} (hg : ob_eq (pF 0) (pA 0) o w0 w1) (h : ob_eq [0, 3, 9, 12, 16] [9, 12, 16] n w0 w1) (h5 : fI w1 n 5 = fI w0 n 5) (h6 : fI w1 n 6 = fI w0 n 6) (hn : HN w0 o n) : HN w1 o n := by
  refine ⟨fun q => ?_, fun q => ?_⟩
  · rw [fI_eq h (k := 0) (by decide)] at q
    rw [fI_eq h (k := 3) (by decide)]; exact hn.1 q
  · rw [fI_eq h (k := 0) (by decide)] at q
    obtain ⟨r, s, x, a1, a2, a3, b1, b2, b3, b4⟩ := hn.2 q
    refine ⟨r, s, x, ?_, ?_, ?_, ?_, ?_, ?_, ?_⟩
    · rw [h.1 9 (by decide)]; exact a1
    · rw [h.1 12 (by decide)]; exact a2
    · rw [h.1 16 (by decide)]; exact a3
    · rw [h5, fI_eq hg (k := 0) (by decide)]; exact b1
    · rw [h6, fI_eq hg (k := 1) (by decide)]; exact b2
    · rw [h5, ei_eq h (k := 9) (by decide) a1, ei_eq h (k := 12) (by decide) a2]; exact b3
    · rw [h6, ei_eq h (k := 16) (by decide) a3]; exact b4
/-- an object that is none of a part's -/
theorem as_out {kA : Nat → ClassId} {G : List rg_T} {ta : Nat → Option Nat} {ws : va_W} {os : List Nat} (hD : va_D (fun _ => True) ws) (hth : th_ok kA G ta ws) (hG : ∀ r, ro_id r = true → G[r]? = none) {p rp : Nat} {gp : rg_T} (hp : ta p = some rp) (hgp : G[rp]? = some gp) (h10 : 10 ≤ gp.1) (hn : p ∉ os) (ho : ∀ o ∈ os, ∃ r g, ta o = some r ∧ G[r]? = some g ∧ 10 ≤ g.1 ∧ g.2.2.2.2.all (fun t => !((tv_refs t).contains rp)) = true) : fr_P kA S0 ta ws os p = false := by
  rw [Bool.eq_false_iff]
  intro h
  rcases fr_P_iff.mp h with ⟨r, _, z⟩ | z | ⟨o, z1, k, z2⟩ | ⟨r, z1, z2⟩
  · have z' : (false : Bool) = true := z
    cases z'
  · exact hn z
  · obtain ⟨r, g, a1, a2, a3, a4⟩ := ho o z1
    obtain ⟨t, rd, t1, t2, t3⟩ := fd_ref hD hth a1 a2 a3 z2
    rw [hp] at t2
    obtain rfl := Option.some.inj t2
    have y := List.all_eq_true.mp a4 t (List.mem_of_getElem? t1)
    rw [List.contains_iff_mem.mpr t3] at y
    cases y
  · obtain ⟨r', y1, y2, _⟩ := hth.2 r z1
    rw [← z2, hp] at y2
    obtain rfl := Option.some.inj y2
    rw [hG _ y1] at hgp; cases hgp
/-- the layers' orders, out of what the house knows of them -/
theorem hl_ord {kA : Nat → ClassId} {G : List rg_T} {A : Nat → Prop} {ta : Nat → Option Nat} {r : Nat} {g : rg_T} {t : tv_T} (hD : va_D A w) (hth : th_ok kA G ta w) (h : HL w H) (hx : x = w_fd w (v_ad H) 17) (hr : ta (v_ad x) = some r) (hg : G[r]? = some g) (h10 : 10 ≤ g.1) (hk : g.2.2.2.2[17]? = some t) (h2 : t.1 = 2) (h3 : ∃ a, x = .ref a) : ORD (w_ei w (w_ar w x 17)) := by
  obtain ⟨a, rfl⟩ := h3
  obtain ⟨d, hd⟩ := fd_some hD hth (o := a) hr hg h10 hk h2
  have e : w_ar w (Value.ref a) 17 = d := hg_ar hd
  rw [e]
  exact h a hx.symm d hd
/-- behind the setting of the layers -/
theorem hl_put {w0 : va_W} {v : Value} (hne : v_ad v ≠ v_ad H) (hv : ∃ a, v = .ref a) (ho : ORD (w_ei w0 (w_ar w0 v 17))) (s : (∀ b j, w_el w b j = w_el w0 b j) ∧ ∀ b j, w_fd w b j = if b = v_ad H ∧ j = 17 then v else w_fd w0 b j) : HL w H := by
  intro o h1 d h2
  obtain ⟨a, rfl⟩ := hv
  rw [s.2, if_pos ⟨rfl, rfl⟩] at h1
  have ea : a = o := by injection h1
  subst ea
  rw [s.2, if_neg (fun e => hne e.1)] at h2
  have e : w_ei w d = w_ei w0 d := funext (fun z => s.1 d z.toNat)
  rw [e]
  rw [hg_ar (o := Value.ref a) h2] at ho
  exact ho
end HI12
