/-! draws: a turn of its loop, and its answer -/
def CZF (m faces : Int) (dE : Int → Int) : Prop := czf faces m dE
def bA (m : Int) (pt ph al bl : Int → Int) (b u v : Int) : Prop := ∃ e, JJ m pt ph al e u v ∧ bl e = b
def DRQ (m faces : Int) (pt ph al bl fm face : Int → Int) (b r : Int) : Prop := r ≠ 0 → (faces = 0 ∧ ∃ e, inB m al bl b e ∧ ∀ f, inB m al bl b f → f = e) ∨ (2 ≤ faces ∧ ∃ nx ρ, FIX (bA m pt ph al bl b) nx ρ faces fm (rwf face))
theorem wop_wm {n m wm : Int} {pt ph al dE po dn ends way : Int → Int} {p : Int} (h : WOP n m wm pt ph al dE po dn ends way p) : 2 ≤ wm ∧ wm ≤ n := by
  obtain ⟨a, ha, y, hy, hby, w1, w2, w3, w4, _⟩ := h
  refine ⟨?_, w2⟩
  by_cases q : wm = 1
  · exfalso; rw [q, show (1 : Int) - 1 = 0 by omega, w3] at w4; exact hy w4.symm
  · omega
theorem spr_of {n m faces wm : Int} {pt ph al bl dE po dn ends fn fm face way : Int → Int} {b f p : Int} (hg : GOK n m pt ph) (hn : n ≤ 32) (hF : FI m faces pt ph al bl dE fm face b) (hD : DSB m pt ph al bl dE dn b) (hz : CZF m faces dE) (hw : WOP n m wm pt ph al dE po dn ends way p) (hf : FFT faces ends fn p f) (hc : FCF faces fm face fn) (f0 : 0 ≤ f) : SPR n m faces wm pt ph al bl dE fm face way b f := by
  have h2 := wop_wm hw
  obtain ⟨a, ha, y, hy, hby, w1, w2, w3, w4, w5, w6, w7, w8⟩ := hw
  have hft : f < faces ∧ fit ends fn p f := by
    rcases hf with ⟨z, _⟩ | ⟨_, z1, z2⟩
    · omega
    · exact ⟨z1, z2⟩
  have ra := w5 0 (by omega) (by omega)
  have ry := w5 (wm - 1) (by omega) (by omega)
  rw [w3] at ra
  rw [w4] at ry
  refine ⟨hg, hF, f0, hft.1, ⟨h2.1, h2.2, w5, w6, fun i i0 i1 u hu => ?_, fun z hu => ?_, hz⟩, ?_, ?_⟩
  · obtain ⟨e, je, eb, ed⟩ := hu
    have hd := hD.2.1 e je.1 je.2.1 je.2.2.1 eb ed
    rcases w8 i (by omega) (by omega) with q | q
    · omega
    · rcases je.2.2.2 with ⟨_, x⟩ | ⟨x, _⟩
      · rw [x] at hd; exact hd.2 q
      · rw [x] at hd; exact hd.1 q
  · obtain ⟨e, je, eb, ed⟩ := hu
    obtain ⟨e', je', he'⟩ := w7 0 (by omega) (by omega)
    have := JJ_one hg je' je
    rw [this] at he'
    exact ed he'.1
  · obtain ⟨k, k0, k1, k2⟩ := (hc f a f0 hft.1 ra.1 (by omega)).mp (hft.2 a ra.1 (by omega) ha)
    exact ⟨k, k0, k1, by rw [w3]; exact k2⟩
  · obtain ⟨k, k0, k1, k2⟩ := (hc f y f0 hft.1 ry.1 (by omega)).mp (hft.2 y ry.1 (by omega) hby)
    exact ⟨k, k0, k1, by rw [w4]; exact k2⟩
theorem dwp_of {n m faces wm : Int} {pt ph al bl dE po dn ends fm face way : Int → Int} {b p : Int} (hg : GOK n m pt ph) (hD : DSB m pt ph al bl dE dn b) (hw : WOP n m wm pt ph al dE po dn ends way p) (hq : SPQ m faces wm pt ph al bl dE fm face way b) : DWP n m faces wm pt ph al bl dE dn fm face way b := by
  have h2 := wop_wm hw
  obtain ⟨a, ha, y, hy, hby, w1, w2, w3, w4, w5, w6, w7, w8⟩ := hw
  exact ⟨hg, hD.1, fun e e0 e1 x1 x2 x3 => ⟨Or.inl (hD.2.1 e e0 e1 x1 x2 x3).1, Or.inl (hD.2.1 e e0 e1 x1 x2 x3).2⟩, h2.1, h2.2, w5, fun k k0 k1 => by
    obtain ⟨e, je, he⟩ := w7 k k0 k1
    exact ⟨e, je, he.1⟩, hq⟩
theorem drq_end {m faces : Int} {pt ph al bl dE fm face : Int → Int} {b r s : Int} (hF : FI m faces pt ph al bl dE fm face b) (hz : CZF m faces dE) (hm : MIS m dE s) (hs : s = 0) : DRQ m faces pt ph al bl fm face b r := by
  intro _
  obtain ⟨nx, ρ, h⟩ := hF
  refine Or.inr ⟨hz.1, nx, ρ, ?_⟩
  have e : dA m pt ph al bl dE b = bA m pt ph al bl b := by
    funext u v
    apply propext
    exact ⟨fun ⟨e, je, eb, _⟩ => ⟨e, je, eb⟩, fun ⟨e, je, eb⟩ => ⟨e, je, eb, hm.1 hs e je.1 je.2.1⟩⟩
  rw [← e]; exact h
theorem drq_one {m faces : Int} {pt ph al bl fm face : Int → Int} {b r l c : Int} (h0 : D0e m al bl b l c) (hc : c = 1) (hf : faces = 0) : DRQ m faces pt ph al bl fm face b r := by
  intro _
  refine Or.inl ⟨hf, ?_⟩
  rcases h0.1 with ⟨a, x, y⟩ | ⟨a, x, y⟩ | ⟨a, x, f, y, z⟩
  · omega
  · exact ⟨l, x.1, fun f z => y f ⟨z, by have := z.1; omega⟩⟩
  · omega
theorem czf_bd {m faces : Int} {dE : Int → Int} (h : CZF m faces dE) (hm : 0 ≤ m) : 2 ≤ faces ∧ faces ≤ 82 := by
  have := czb dE hm
  have := h.1
  have := h.2
  omega
theorem ch1_fft {m faces : Int} {po ends fn : Int → Int} {p f : Int} (h : CH1 m faces po ends fn p) (hp : 0 ≤ p) (hf : FFT faces ends fn p f) : 0 ≤ f ∧ f < faces := by
  rcases hf with ⟨z, w⟩ | ⟨z1, z2, _⟩
  · rcases h with q | ⟨_, _, _, g, g0, g1, g2⟩
    · omega
    · exact absurd g2 (w g g0 g1)
  · exact ⟨z1, z2⟩
theorem d0_c {m : Int} {al bl : Int → Int} {b l c e : Int} (h : D0 m al bl b l c e) : 0 ≤ c ∧ c + e + 1 ≤ m := by
  refine ⟨?_, h.2⟩
  rcases h.1 with ⟨a, _⟩ | ⟨a, _⟩ | ⟨a, _⟩ <;> omega
theorem wpr_ch {n m faces : Int} {pt ph al bl dE po dn ends fn : Int → Int} {b p many : Int} (hg : GOK n m pt ph) (hn : n ≤ 32) (hB : BK m pt ph al bl many) (hD : DSB m pt ph al bl dE dn b) (hP : PCS m pt ph dE dn po) (hE : END m pt ph dE dn po ends) (hc : CH1 m faces po ends fn p) (p0 : 0 ≤ p) : WPR n m pt ph dE po dn ends p := by
  rcases hc with q | ⟨_, x, y, _⟩
  · omega
  · exact wpr_of hg hn hB.1 hD hP hE p0 x y
