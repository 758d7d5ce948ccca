section
-- tapes: what is fed on both sides; the two answers
def byQ (v q : Int) : Int := (v / ((2 ^ (24 - 8 * q).toNat : Nat) : Int) + 128) % 256 - 128
def BY4 (T : Int → Int) (p v : Int) : Prop := ∀ q, 0 ≤ q → q < 4 → T (p + q) = byQ v q
def TPR (Tc Tm : Int → Int) (n : Int) : Prop := 0 ≤ n ∧ ∀ j, 0 ≤ j → j < n → Tc j = Tm j
def TE0 (len : Int) (Tc Tm : Int → Int) : Prop := TPR Tc Tm len
def TE1 (len : Int) (Tc Tm : Int → Int) (a : Int) : Prop := TPR Tc Tm (len - 4) ∧ BY4 Tc (len - 4) a
def TE2 (len : Int) (Tc Tm : Int → Int) (a b : Int) : Prop := TE1 (len - 4) Tc Tm a ∧ BY4 Tc (len - 4) b
def TE3 (len : Int) (Tc Tm : Int → Int) (a b c : Int) : Prop := TE2 (len - 4) Tc Tm a b ∧ BY4 Tc (len - 4) c
def TE4 (len : Int) (Tc Tm : Int → Int) (a b c d : Int) : Prop := TE3 (len - 4) Tc Tm a b c ∧ BY4 Tc (len - 4) d
def TE5 (len : Int) (Tc Tm : Int → Int) (a b c d e : Int) : Prop := TE4 (len - 4) Tc Tm a b c d ∧ BY4 Tc (len - 4) e
theorem byQ0 (v : Int) : byQ v 0 = (v / 16777216 + 128) % 256 - 128 := rfl
theorem byQ1 (v : Int) : byQ v 1 = (v / 65536 + 128) % 256 - 128 := rfl
theorem byQ2 (v : Int) : byQ v 2 = (v / 256 + 128) % 256 - 128 := rfl
theorem byQ3 (v : Int) : byQ v 3 = (v + 128) % 256 - 128 := by
  show (v / (1 : Int) + 128) % 256 - 128 = _
  rw [Int.ediv_one]
theorem ap4 {A0 A1 A2 A3 A4 : Int → Int} {p0 p1 p2 p3 b0 b1 b2 b3 v L : Int} (s0 : st1 A0 A1 p0 b0) (s1 : st1 A1 A2 p1 b1) (s2 : st1 A2 A3 p2 b2) (s3 : st1 A3 A4 p3 b3) (hL : 0 ≤ L) (e0 : p0 = L) (e1 : p1 = L + 1) (e2 : p2 = L + 2) (e3 : p3 = L + 3)
    (w0 : b0 = (v / 16777216 + 128) % 256 - 128) (w1 : b1 = (v / 65536 + 128) % 256 - 128) (w2 : b2 = (v / 256 + 128) % 256 - 128) (w3 : b3 = (v + 128) % 256 - 128) : (∀ j, 0 ≤ j → j < L → A4 j = A0 j) ∧ BY4 A4 L v := by
  refine ⟨fun j a c => ?_, fun q a c => ?_⟩
  · rw [(s3 j a).2 (by omega), (s2 j a).2 (by omega), (s1 j a).2 (by omega), (s0 j a).2 (by omega)]
  · rcases (show q = 0 ∨ q = 1 ∨ q = 2 ∨ q = 3 by omega) with h | h | h | h
    · subst h; rw [(s3 _ (by omega)).2 (by omega), (s2 _ (by omega)).2 (by omega), (s1 _ (by omega)).2 (by omega), (s0 _ (by omega)).1 (by omega), byQ0]; exact w0
    · subst h; rw [(s3 _ (by omega)).2 (by omega), (s2 _ (by omega)).2 (by omega), (s1 _ (by omega)).1 (by omega), byQ1]; exact w1
    · subst h; rw [(s3 _ (by omega)).2 (by omega), (s2 _ (by omega)).1 (by omega), byQ2]; exact w2
    · subst h; rw [(s3 _ (by omega)).1 (by omega), byQ3]; exact w3
theorem by4_k {T T_zq : Int → Int} {p v L : Int} (h : BY4 T p v) (k : ∀ j, 0 ≤ j → j < L → T_zq j = T j) (h0 : 0 ≤ p) (hp : p + 4 ≤ L) : BY4 T_zq p v := fun q a c => (k _ (by omega) (by omega)).trans (h q a c)
theorem tpr_k {T T_zq Tm : Int → Int} {n L : Int} (h : TPR T Tm n) (k : ∀ j, 0 ≤ j → j < L → T_zq j = T j) (hp : n ≤ L) : TPR T_zq Tm n := ⟨h.1, fun j a c => (k j a (by omega)).trans (h.2 j a c)⟩
theorem te1_k {T T_zq Tm : Int → Int} {n L a : Int} (h : TE1 n T Tm a) (k : ∀ j, 0 ≤ j → j < L → T_zq j = T j) (hp : n ≤ L) : TE1 n T_zq Tm a := ⟨tpr_k h.1 k (by omega), by4_k h.2 k h.1.1 (by omega)⟩
theorem te1_0 {T Tm : Int → Int} {n a : Int} (h : TE1 n T Tm a) : 4 ≤ n := by have := h.1.1; omega
theorem te2_k {T T_zq Tm : Int → Int} {n L a b : Int} (h : TE2 n T Tm a b) (k : ∀ j, 0 ≤ j → j < L → T_zq j = T j) (hp : n ≤ L) : TE2 n T_zq Tm a b := ⟨te1_k h.1 k (by omega), by4_k h.2 k (by have := te1_0 h.1; omega) (by omega)⟩
theorem te2_0 {T Tm : Int → Int} {n a b : Int} (h : TE2 n T Tm a b) : 8 ≤ n := by have := te1_0 h.1; omega
theorem te3_k {T T_zq Tm : Int → Int} {n L a b c : Int} (h : TE3 n T Tm a b c) (k : ∀ j, 0 ≤ j → j < L → T_zq j = T j) (hp : n ≤ L) : TE3 n T_zq Tm a b c := ⟨te2_k h.1 k (by omega), by4_k h.2 k (by have := te2_0 h.1; omega) (by omega)⟩
theorem te3_0 {T Tm : Int → Int} {n a b c : Int} (h : TE3 n T Tm a b c) : 12 ≤ n := by have := te2_0 h.1; omega
theorem te4_k {T T_zq Tm : Int → Int} {n L a b c d : Int} (h : TE4 n T Tm a b c d) (k : ∀ j, 0 ≤ j → j < L → T_zq j = T j) (hp : n ≤ L) : TE4 n T_zq Tm a b c d := ⟨te3_k h.1 k (by omega), by4_k h.2 k (by have := te3_0 h.1; omega) (by omega)⟩
theorem te4_0 {T Tm : Int → Int} {n a b c d : Int} (h : TE4 n T Tm a b c d) : 16 ≤ n := by have := te3_0 h.1; omega
section
variable {A0 A1 A2 A3 A4 Tm : Int → Int} {p0 p1 p2 p3 b0 b1 b2 b3 v L L_zq a b c d : Int}
theorem te_s1 (h : TE0 L A0 Tm) (s0 : st1 A0 A1 p0 b0) (s1 : st1 A1 A2 p1 b1) (s2 : st1 A2 A3 p2 b2) (s3 : st1 A3 A4 p3 b3) (hL : 0 ≤ L) (e0 : p0 = L) (e1 : p1 = L + 1) (e2 : p2 = L + 2) (e3 : p3 = L + 3) (w0 : b0 = (v / 16777216 + 128) % 256 - 128) (w1 : b1 = (v / 65536 + 128) % 256 - 128) (w2 : b2 = (v / 256 + 128) % 256 - 128) (w3 : b3 = (v + 128) % 256 - 128) (el : L_zq = L + 4) : TE1 L_zq A4 Tm v := by
  obtain ⟨q1, q2⟩ := ap4 s0 s1 s2 s3 hL e0 e1 e2 e3 w0 w1 w2 w3
  have e : L_zq - 4 = L := by omega
  unfold TE1
  rw [e]
  exact ⟨tpr_k h q1 (by omega), q2⟩
theorem te_s2 (h : TE1 L A0 Tm a) (s0 : st1 A0 A1 p0 b0) (s1 : st1 A1 A2 p1 b1) (s2 : st1 A2 A3 p2 b2) (s3 : st1 A3 A4 p3 b3) (hL : 0 ≤ L) (e0 : p0 = L) (e1 : p1 = L + 1) (e2 : p2 = L + 2) (e3 : p3 = L + 3) (w0 : b0 = (v / 16777216 + 128) % 256 - 128) (w1 : b1 = (v / 65536 + 128) % 256 - 128) (w2 : b2 = (v / 256 + 128) % 256 - 128) (w3 : b3 = (v + 128) % 256 - 128) (el : L_zq = L + 4) : TE2 L_zq A4 Tm a v := by
  obtain ⟨q1, q2⟩ := ap4 s0 s1 s2 s3 hL e0 e1 e2 e3 w0 w1 w2 w3
  have e : L_zq - 4 = L := by omega
  unfold TE2
  rw [e]
  exact ⟨te1_k h q1 (by omega), q2⟩
theorem te_s3 (h : TE2 L A0 Tm a b) (s0 : st1 A0 A1 p0 b0) (s1 : st1 A1 A2 p1 b1) (s2 : st1 A2 A3 p2 b2) (s3 : st1 A3 A4 p3 b3) (hL : 0 ≤ L) (e0 : p0 = L) (e1 : p1 = L + 1) (e2 : p2 = L + 2) (e3 : p3 = L + 3) (w0 : b0 = (v / 16777216 + 128) % 256 - 128) (w1 : b1 = (v / 65536 + 128) % 256 - 128) (w2 : b2 = (v / 256 + 128) % 256 - 128) (w3 : b3 = (v + 128) % 256 - 128) (el : L_zq = L + 4) : TE3 L_zq A4 Tm a b v := by
  obtain ⟨q1, q2⟩ := ap4 s0 s1 s2 s3 hL e0 e1 e2 e3 w0 w1 w2 w3
  have e : L_zq - 4 = L := by omega
  unfold TE3
  rw [e]
  exact ⟨te2_k h q1 (by omega), q2⟩
theorem te_s4 (h : TE3 L A0 Tm a b c) (s0 : st1 A0 A1 p0 b0) (s1 : st1 A1 A2 p1 b1) (s2 : st1 A2 A3 p2 b2) (s3 : st1 A3 A4 p3 b3) (hL : 0 ≤ L) (e0 : p0 = L) (e1 : p1 = L + 1) (e2 : p2 = L + 2) (e3 : p3 = L + 3) (w0 : b0 = (v / 16777216 + 128) % 256 - 128) (w1 : b1 = (v / 65536 + 128) % 256 - 128) (w2 : b2 = (v / 256 + 128) % 256 - 128) (w3 : b3 = (v + 128) % 256 - 128) (el : L_zq = L + 4) : TE4 L_zq A4 Tm a b c v := by
  obtain ⟨q1, q2⟩ := ap4 s0 s1 s2 s3 hL e0 e1 e2 e3 w0 w1 w2 w3
  have e : L_zq - 4 = L := by omega
  unfold TE4
  rw [e]
  exact ⟨te3_k h q1 (by omega), q2⟩
theorem te_s5 (h : TE4 L A0 Tm a b c d) (s0 : st1 A0 A1 p0 b0) (s1 : st1 A1 A2 p1 b1) (s2 : st1 A2 A3 p2 b2) (s3 : st1 A3 A4 p3 b3) (hL : 0 ≤ L) (e0 : p0 = L) (e1 : p1 = L + 1) (e2 : p2 = L + 2) (e3 : p3 = L + 3) (w0 : b0 = (v / 16777216 + 128) % 256 - 128) (w1 : b1 = (v / 65536 + 128) % 256 - 128) (w2 : b2 = (v / 256 + 128) % 256 - 128) (w3 : b3 = (v + 128) % 256 - 128) (el : L_zq = L + 4) : TE5 L_zq A4 Tm a b c d v := by
  obtain ⟨q1, q2⟩ := ap4 s0 s1 s2 s3 hL e0 e1 e2 e3 w0 w1 w2 w3
  have e : L_zq - 4 = L := by omega
  unfold TE5
  rw [e]
  exact ⟨te4_k h q1 (by omega), q2⟩
end
/-- between the two calls of feed -/
def TFX (taped : Int) (Tm Tc : Int → Int) (a b c d e k u : Int) : Prop := (u ≠ -1 ∧ k = taped + 20 ∧ TPR Tc Tm taped ∧ BY4 Tc taped a ∧ BY4 Tc (taped + 4) b ∧ BY4 Tc (taped + 8) c ∧ BY4 Tc (taped + 12) d ∧ BY4 Tc (taped + 16) e) ∨ (u = -1 ∧ k = taped ∧ TPR Tc Tm taped)
def TFL (taped : Int) (Tm Tc : Int → Int) (a b c d e i : Int) : Prop := 0 ≤ i ∧ i ≤ 20 ∧ 0 ≤ taped - i ∧ TPR Tc Tm taped ∧ BY4 Tc (taped - i) a ∧ BY4 Tc (taped - i + 4) b ∧ BY4 Tc (taped - i + 8) c ∧ BY4 Tc (taped - i + 12) d ∧ BY4 Tc (taped - i + 16) e
def TEQ (Tm Tc : Int → Int) (k : Int) : Prop := TPR Tc Tm k
theorem tfx_5 {taped L a b c d e k u : Int} {Tm Tc : Int → Int} (h : TE5 L Tc Tm a b c d e) (hL : L = k) (hk : k = taped + 20) (hu : u ≠ -1) : TFX taped Tm Tc a b c d e k u := by
  obtain ⟨⟨⟨⟨⟨h0, h1⟩, h2⟩, h3⟩, h4⟩, h5⟩ := h
  rw [show L - 4 - 4 - 4 - 4 - 4 = taped by omega] at h0 h1
  rw [show L - 4 - 4 - 4 - 4 = taped + 4 by omega] at h2
  rw [show L - 4 - 4 - 4 = taped + 8 by omega] at h3
  rw [show L - 4 - 4 = taped + 12 by omega] at h4
  rw [show L - 4 = taped + 16 by omega] at h5
  exact Or.inl ⟨hu, hk, h0, h1, h2, h3, h4, h5⟩
theorem tfx_0 {taped L a b c d e k u : Int} {Tm Tc : Int → Int} (h : TE0 L Tc Tm) (hL : L = k) (hk : k = taped) (hu : u = -1) : TFX taped Tm Tc a b c d e k u := by
  rw [hL, hk] at h
  exact Or.inr ⟨hu, hk, h⟩
theorem tfl_0 {taped a b c d e k u i : Int} {Tm Tc : Int → Int} (h : TFX taped Tm Tc a b c d e k u) (hu : u ≠ -1) (hi : i = 0) : TFL taped Tm Tc a b c d e i := by
  rcases h with ⟨_, _, h0, h1, h2, h3, h4, h5⟩ | h
  · rw [hi]
    unfold TFL
    rw [show taped - 0 = taped by omega]
    exact ⟨by omega, by omega, h0.1, h0, h1, h2, h3, h4, h5⟩
  · exact absurd h.1 hu
theorem tfl_s {taped taped_zq a b c d e i i_zq v x w p sh m : Int} {Tm Tm1 Tc : Int → Int} (h : TFL taped Tm Tc a b c d e i) (hi : i < 20) (s : st1 Tm Tm1 p w) (ep : p = taped) (hw : w = (x + 128) % 256 - 128) (hx : x = v / ((2 ^ sh.toNat : Nat) : Int)) (hs : sh = 24 - 8 * m) (hm : m = i % 4) (hv : (i < 4 ∧ v = a) ∨ (4 ≤ i ∧ i < 8 ∧ v = b) ∨ (8 ≤ i ∧ i < 12 ∧ v = c) ∨ (12 ≤ i ∧ i < 16 ∧ v = d) ∨ (16 ≤ i ∧ v = e)) (et : taped_zq = taped + 1) (ei : i_zq = i + 1) : TFL taped_zq Tm1 Tc a b c d e i_zq := by
  obtain ⟨g0, g1, g2, g3, g4, g5, g6, g7, g8⟩ := h
  have key : Tc taped = w := by
    have hq : byQ v m = w := by
      unfold byQ
      rw [← hs, ← hx]; exact hw.symm
    rw [← hq]
    rcases hv with ⟨q, e1⟩ | ⟨q, q_zq, e1⟩ | ⟨q, q_zq, e1⟩ | ⟨q, q_zq, e1⟩ | ⟨q, e1⟩
    · have z := g4 m (by omega) (by omega); rw [show taped - i + m = taped by omega] at z; rw [e1]; exact z
    · have z := g5 m (by omega) (by omega); rw [show taped - i + 4 + m = taped by omega] at z; rw [e1]; exact z
    · have z := g6 m (by omega) (by omega); rw [show taped - i + 8 + m = taped by omega] at z; rw [e1]; exact z
    · have z := g7 m (by omega) (by omega); rw [show taped - i + 12 + m = taped by omega] at z; rw [e1]; exact z
    · have z := g8 m (by omega) (by omega); rw [show taped - i + 16 + m = taped by omega] at z; rw [e1]; exact z
  unfold TFL
  rw [show taped_zq - i_zq = taped - i by omega]
  refine ⟨by omega, by omega, g2, ⟨by omega, fun j a c => ?_⟩, g4, g5, g6, g7, g8⟩
  by_cases q : j = taped
  · rw [(s j a).1 (by omega), q]; exact key
  · rw [(s j a).2 (by omega)]; exact g3.2 j a (by omega)
theorem teq_l {taped a b c d e i k : Int} {Tm Tc : Int → Int} (h : TFL taped Tm Tc a b c d e i) (hk : k = taped) : TEQ Tm Tc k := by rw [hk]; exact h.2.2.2.1
theorem teq_x {taped a b c d e k u : Int} {Tm Tc : Int → Int} (h : TFX taped Tm Tc a b c d e k u) (hu : u = -1) : TEQ Tm Tc k := by
  rcases h with h | h
  · exact absurd hu h.1
  · rw [h.2.1]; exact h.2.2
theorem tfx_u {taped a b c d e k u : Int} {Tm Tc : Int → Int} (h : TFX taped Tm Tc a b c d e k u) : (u ≠ -1 ∧ k = taped + 20) ∨ (u = -1 ∧ k = taped) := by
  rcases h with h | h
  · exact Or.inl ⟨h.1, h.2.1⟩
  · exact Or.inr ⟨h.1, h.2.1⟩
-- the two answers of read
def RDY (f p : Int) (T : Int → Int) (g n L a : Int) : Prop := RDM f p T g n L a
theorem rdm_eq {f p f_zq p_zq g n L a a_zq : Int} {T T_zq : Int → Int} (h : TPR T T_zq L) (q : RDY f p T g n L a) (q_zq : RDM f_zq p_zq T_zq g n L a_zq) : a = a_zq := by
  rcases q with ⟨q, e⟩ | ⟨q, e⟩
  · rcases q_zq with ⟨_, e_zq⟩ | ⟨q_zq, _⟩
    · rw [e, e_zq]
    · exact absurd q_zq q
  · rcases q_zq with ⟨q_zq, _⟩ | ⟨q_zq, e_zq⟩
    · exact absurd q q_zq
    · exact (rda_eq (fun j a b => h.2 j a (by omega)) e e_zq).1
theorem rdc_2 {f p g n L a : Int} {T : Int → Int} (h : ¬ (0 ≤ g ∧ g ≤ 3 ∧ 0 ≤ n ∧ n ≤ L)) (e : a = -2) : RDY f p T g n L a := Or.inl ⟨h, e⟩
theorem rdc_f {lim f p nn n g k L a x : Int} {T : Int → Int} (h : CRG lim f p nn T n x) (hx : x = 0) (hq : 0 ≤ g ∧ g ≤ 3 ∧ 0 ≤ k ∧ k ≤ L) (hn : n = k) (ha : a = -1) : RDY f p T g k L a := by
  obtain ⟨e, h | h⟩ := h
  · rw [e, hn] at h
    exact Or.inr ⟨hq, Or.inl ⟨h.2.1, ha, h.2.2⟩⟩
  · omega
theorem rdc_t {lim f p nn n g k L a x : Int} {T : Int → Int} (h : CRG lim f p nn T n x) (hx : x ≠ 0) (hq : 0 ≤ g ∧ g ≤ 3 ∧ 0 ≤ k ∧ k ≤ L) (hn : n = k) (ha : a = nn) : RDY f p T g k L a := by
  obtain ⟨e, h | h⟩ := h
  · omega
  · rw [e, hn] at h
    obtain ⟨mm, ρ, h1, h2⟩ := h.2.2
    exact Or.inr ⟨hq, Or.inr ⟨h.2.1, mm, ρ, h1, by omega⟩⟩

theorem te_c1 {L a a_zq : Int} {T T_zq : Int → Int} (h : TE1 L T T_zq a) (e : a = a_zq) : TE1 L T T_zq a_zq := e ▸ h
theorem te_c2 {L a a_zq b b_zq : Int} {T T_zq : Int → Int} (h : TE2 L T T_zq a b) (e : a = a_zq) (f : b = b_zq) : TE2 L T T_zq a_zq b_zq := e ▸ f ▸ h
theorem te_c3 {L a a_zq b b_zq c c_zq : Int} {T T_zq : Int → Int} (h : TE3 L T T_zq a b c) (e : a = a_zq) (f : b = b_zq) (g : c = c_zq) : TE3 L T T_zq a_zq b_zq c_zq := e ▸ f ▸ g ▸ h
theorem te_c4 {L a a_zq b b_zq c c_zq d d_zq : Int} {T T_zq : Int → Int} (h : TE4 L T T_zq a b c d) (e : a = a_zq) (f : b = b_zq) (g : c = c_zq) (i : d = d_zq) : TE4 L T T_zq a_zq b_zq c_zq d_zq := e ▸ f ▸ g ▸ i ▸ h
theorem te_c5 {L a a_zq b b_zq c c_zq d d_zq i i_zq : Int} {T T_zq : Int → Int} (h : TE5 L T T_zq a b c d i) (e : a = a_zq) (f : b = b_zq) (g : c = c_zq) (j : d = d_zq) (k : i = i_zq) : TE5 L T T_zq a_zq b_zq c_zq d_zq i_zq := e ▸ f ▸ g ▸ j ▸ k ▸ h
end
section
/-! the heights of the house's drawings -/
theorem hy_le {w : va_W} {H : Value} {n m : Int} (h : HY w H n) (hm : n ≤ m) : HY w H m := ⟨h.1, fun g hg d hd v v0 v1 => by
  have := h.2 g hg d hd v v0 v1; omega⟩
theorem hy_pO {w0 w1 : va_W} {H : Value} {A I : Nat} {V : Int} (s : (∀ b j, w_el w1 b j = if b = A ∧ j = I then V else w_el w0 b j) ∧ ∀ b k, w_fd w1 b k = w_fd w0 b k) (hne : A ≠ w_ar w0 H 3) (g : Nat) : pO w1 H 3 g = pO w0 H 3 g := by
  have e : w_ar w1 H 3 = w_ar w0 H 3 := by unfold w_ar; rw [s.2]
  unfold pO
  rw [e, s.1, if_neg (fun q => hne q.1.symm)]
theorem hy_pO0 {w0 w1 : va_W} {H : Value} {A I : Nat} {V : Int} (s : (∀ b j, w_el w1 b j = if b = A ∧ j = I then V else w_el w0 b j) ∧ ∀ b k, w_fd w1 b k = w_fd w0 b k) (hne : A ≠ w_ar w0 H 0) (g : Nat) : pO w1 H 0 g = pO w0 H 0 g := by
  have e : w_ar w1 H 0 = w_ar w0 H 0 := by unfold w_ar; rw [s.2]
  unfold pO
  rw [e, s.1, if_neg (fun q => hne q.1.symm)]
/-- a height that is stored -/
theorem hy_st {w0 w1 : va_W} {H : Value} {n : Int} {A I : Nat} {V : Int} (h : HY w0 H n) (s : (∀ b j, w_el w1 b j = if b = A ∧ j = I then V else w_el w0 b j) ∧ ∀ b k, w_fd w1 b k = w_fd w0 b k) (hne : A ≠ w_ar w0 H 3) (hn0 : A ≠ w_ar w0 H 0) (v0 : -1000000 ≤ V) (v1 : V ≤ 70000000 + 200000 * n) : HY w1 H n := ⟨fun g hg => by rw [hy_pO s hne, hy_pO0 s hn0, s.2]; exact h.1 g hg, fun g hg d hd v a b => by
  rw [hy_pO s hne, s.2] at hd
  have e : w_ei w1 d v = if d = A ∧ v.toNat = I then V else w_ei w0 d v := s.1 d v.toNat
  rw [e]
  split
  · exact ⟨v0, v1⟩
  · exact h.2 g hg d hd v a b⟩
theorem hyd_st {w0 w1 : va_W} {H x : Value} {A I : Nat} {V : Int} (h : HYD w0 H x) (s : (∀ b j, w_el w1 b j = if b = A ∧ j = I then V else w_el w0 b j) ∧ ∀ b k, w_fd w1 b k = w_fd w0 b k) (hne : A ≠ w_ar w0 H 3) : HYD w1 H x := by
  obtain ⟨g, hg, e⟩ := h
  exact ⟨g, hg, by rw [hy_pO s hne]; exact e⟩
/-- an array of heights is not the array of the drawings -/
theorem hy_ne {kA : Nat → ClassId} {G : List rg_T} {A : Nat → Prop} {ta : Nat → Option Nat} {w0 w1 : va_W} {H : Value} {a r ra k : Nat} {g : rg_T} {t : tv_T} (hD : va_D A w1) (hth : th_ok kA G ta w1) (hr : ta (v_ad H) = some r) (hg : G[r]? = some g) (h10 : 10 ≤ g.1) (hk : g.2.2.2.2[k]? = some t) (h2 : t.1 = 2) (ha : ta a = some ra) (hn : ra ∉ t.2.2.2) (s : ∀ b k, w_fd w1 b k = w_fd w0 b k) : a ≠ w_ar w0 H k := by
  intro e
  have q := th_fd hD hth hr hg hk (decide_eq_true h10)
  obtain ⟨c, r2, e1, e2, e3⟩ := tv_ref q h2
  have e4 : w_ar w0 H k = c := by unfold w_ar; rw [← s, e1]; rfl
  rw [e, e4, e2] at ha
  exact hn (by rw [← Option.some.inj ha]; exact e3)
theorem hy_use {w : va_W} {H x : Value} {n : Int} (h : HY w H n) (hd : HYD w H x) (hx : ∃ c, w_fd w (v_ad x) 3 = .ref c) : DYB (w_ei w (w_ar w x 3)) n := by
  obtain ⟨g, hg, e⟩ := hd
  obtain ⟨c, hc⟩ := hx
  have e2 : w_ar w x 3 = c := by unfold w_ar; rw [hc]; rfl
  rw [e] at hc
  rw [e2]
  exact fun v a b => h.2 g hg c hc v a b
/-- a drawing taken out of the house's array -/
theorem hyd_of {w : va_W} {H a x g : Value} (ha : a = w_fd w (v_ad H) 3) (hx : ((v_ad x : Nat) : Int) = w_el w (v_ad a) (v_iv g).toNat) (g0 : 0 ≤ v_iv g) (g1 : v_iv g < 4) : HYD w H x := by
  refine ⟨(v_iv g).toNat, by omega, ?_⟩
  unfold pO w_ar
  rw [← ha, ← hx]
  omega
/-- a drawing taken out of the house's array, with its place -/
theorem hyp_of {w : va_W} {H a x g : Value} (ha : a = w_fd w (v_ad H) 3) (hx : ((v_ad x : Nat) : Int) = w_el w (v_ad a) (v_iv g).toNat) (g0 : 0 ≤ v_iv g) (g1 : v_iv g < 4) : HYP w H x g := by
  refine ⟨⟨g0, g1⟩, ?_⟩
  unfold pO w_ar
  rw [← ha, ← hx]
  omega
/-- a drawing's graph is the graph of its place -/
theorem hdg_eq {w : va_W} {H b d x y g : Value} {n : Int} (h : HY w H n) (hp : HYP w H d g) (hb : b = w_fd w (v_ad H) 0) (hx : ((v_ad x : Nat) : Int) = w_el w (v_ad b) (v_iv g).toNat) (hy : y = w_fd w (v_ad d) 0) (hr : ∃ c, x = .ref c) : y = x := by
  obtain ⟨c, rfl⟩ := hr
  obtain ⟨⟨g0, g1⟩, pd⟩ := hp
  have e := h.1 (v_iv g).toNat (by omega)
  have px : pO w H 0 (v_iv g).toNat = c := by
    unfold pO w_ar
    rw [← hb, ← hx]
    show ((c : Nat) : Int).toNat = c
    omega
  rw [← pd, px] at e
  rw [hy, e]
/-- what some values are, behind a call that leaves the house's own rows alone, where the place itself is known again -/
theorem wq_e1 {a b : Int} (h1 : 1 * a + (-1 * b + 0) ≤ 0) (h2 : -1 * a + (1 * b + 0) ≤ 0) : a = b := by omega
theorem wq_step2 {H H1 vg v1 : Value} {w0 w : va_W} {k c : Nat} {ls : List Value} (hI : WQF 1 [H1, v1] w) (hd : hd_eq H w0 w) (h : WQF k (H :: vg :: ls) w0) (hk : c / 64 = k / 64 ∧ c % 64 = 1) (eH : H1 = H) (e : v_iv v1 = v_iv vg) : WQF c (H :: vg :: ls) w := by
  have hg : (v_iv vg).toNat < 4 := by have := h.1; have := h.2.1; omega
  subst eH
  obtain ⟨i0, i1, i2, i3, _⟩ := hI
  rw [e] at i2 i3
  exact ⟨h.1, h.2.1, i2, fun _ => i3 (by decide), fun q => absurd q (by omega), fun q => absurd q (by omega), fun q => absurd q (by omega), fun q => absurd q (by omega), by rw [hk.1]; exact WL_eq hd hg (wq_wl h)⟩
theorem fc_1_as {PQ : pq_T} {f : fc_T} {w : va_W} {xs ys : List Value} (e : xs = ys) (h : fc_1 PQ f w xs) : fc_1 PQ f w ys := e ▸ h
end
