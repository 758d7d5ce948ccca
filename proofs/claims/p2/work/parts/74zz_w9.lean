section
-- style sheets of the reference: words, and the rules as they go on
/-- a word's answer -/
def WDQ (s : List Int) (ft cu lm : Int) (kd pl en tp : Int → Int) (an : Int) : Prop := an = 1 ↔ ft = 0 ∧ wdS lm kd pl en tp s cu
def Wqnode (ft cu lm : Int) (kd pl en tp : Int → Int) (an : Int) : Prop := WDQ [110, 111, 100, 101] ft cu lm kd pl en tp an
def Wqedge (ft cu lm : Int) (kd pl en tp : Int → Int) (an : Int) : Prop := WDQ [101, 100, 103, 101] ft cu lm kd pl en tp an
def Wqif (ft cu lm : Int) (kd pl en tp : Int → Int) (an : Int) : Prop := WDQ [105, 102] ft cu lm kd pl en tp an
def Wqcolor (ft cu lm : Int) (kd pl en tp : Int → Int) (an : Int) : Prop := WDQ [99, 111, 108, 111, 114] ft cu lm kd pl en tp an
def Wqwidth (ft cu lm : Int) (kd pl en tp : Int → Int) (an : Int) : Prop := WDQ [119, 105, 100, 116, 104] ft cu lm kd pl en tp an
def Wqform (ft cu lm : Int) (kd pl en tp : Int → Int) (an : Int) : Prop := WDQ [102, 111, 114, 109] ft cu lm kd pl en tp an
def Wqor (ft cu lm : Int) (kd pl en tp : Int → Int) (an : Int) : Prop := WDQ [111, 114] ft cu lm kd pl en tp an
def Wqand (ft cu lm : Int) (kd pl en tp : Int → Int) (an : Int) : Prop := WDQ [97, 110, 100] ft cu lm kd pl en tp an
def Wqnot (ft cu lm : Int) (kd pl en tp : Int → Int) (an : Int) : Prop := WDQ [110, 111, 116] ft cu lm kd pl en tp an
def Wqdeg (ft cu lm : Int) (kd pl en tp : Int → Int) (an : Int) : Prop := WDQ [100, 101, 103] ft cu lm kd pl en tp an
def Wqin (ft cu lm : Int) (kd pl en tp : Int → Int) (an : Int) : Prop := WDQ [105, 110] ft cu lm kd pl en tp an
def Wqout (ft cu lm : Int) (kd pl en tp : Int → Int) (an : Int) : Prop := WDQ [111, 117, 116] ft cu lm kd pl en tp an
def Wqsize (ft cu lm : Int) (kd pl en tp : Int → Int) (an : Int) : Prop := WDQ [115, 105, 122, 101] ft cu lm kd pl en tp an
def Wqgroup (ft cu lm : Int) (kd pl en tp : Int → Int) (an : Int) : Prop := WDQ [103, 114, 111, 117, 112] ft cu lm kd pl en tp an
def Wqfar (ft cu lm : Int) (kd pl en tp : Int → Int) (an : Int) : Prop := WDQ [102, 97, 114] ft cu lm kd pl en tp an
def Wqcore (ft cu lm : Int) (kd pl en tp : Int → Int) (an : Int) : Prop := WDQ [99, 111, 114, 101] ft cu lm kd pl en tp an
def Wqcut (ft cu lm : Int) (kd pl en tp : Int → Int) (an : Int) : Prop := WDQ [99, 117, 116] ft cu lm kd pl en tp an
def Wqx (ft cu lm : Int) (kd pl en tp : Int → Int) (an : Int) : Prop := WDQ [120] ft cu lm kd pl en tp an
def Wqy (ft cu lm : Int) (kd pl en tp : Int → Int) (an : Int) : Prop := WDQ [121] ft cu lm kd pl en tp an
def Wqweight (ft cu lm : Int) (kd pl en tp : Int → Int) (an : Int) : Prop := WDQ [119, 101, 105, 103, 104, 116] ft cu lm kd pl en tp an
def Wqturned (ft cu lm : Int) (kd pl en tp : Int → Int) (an : Int) : Prop := WDQ [116, 117, 114, 110, 101, 100] ft cu lm kd pl en tp an
def Wqbridge (ft cu lm : Int) (kd pl en tp : Int → Int) (an : Int) : Prop := WDQ [98, 114, 105, 100, 103, 101] ft cu lm kd pl en tp an
def Wqfrom (ft cu lm : Int) (kd pl en tp : Int → Int) (an : Int) : Prop := WDQ [102, 114, 111, 109] ft cu lm kd pl en tp an
def Wqto (ft cu lm : Int) (kd pl en tp : Int → Int) (an : Int) : Prop := WDQ [116, 111] ft cu lm kd pl en tp an
def Wqblock (ft cu lm : Int) (kd pl en tp : Int → Int) (an : Int) : Prop := WDQ [98, 108, 111, 99, 107] ft cu lm kd pl en tp an
def Wqlong (ft cu lm : Int) (kd pl en tp : Int → Int) (an : Int) : Prop := WDQ [108, 111, 110, 103] ft cu lm kd pl en tp an
def Wqone (ft cu lm : Int) (kd pl en tp : Int → Int) (an : Int) : Prop := WDQ [111, 110, 101] ft cu lm kd pl en tp an
theorem wdS1 {lm c a0 : Int} {kd pl en tp : Int → Int} : wdS lm kd pl en tp [a0] c ↔ kd c = 1 ∧ en c = pl c + 1 ∧ pl c + 1 ≤ lm ∧ tp (pl c + 0) % 256 = a0 := by
  constructor
  · rintro ⟨h1, h2, h3, h4⟩; exact ⟨h1, h2, h3, h4 0 (by show 0 < 1; omega)⟩
  · rintro ⟨h1, h2, h3, q0⟩
    refine ⟨h1, h2, h3, fun i hi => ?_⟩
    match i, hi with
    | 0, _ => exact q0
    | k + 1, h => exact absurd (show k + 1 < 1 from h) (by omega)
theorem wdS2 {lm c a0 a1 : Int} {kd pl en tp : Int → Int} : wdS lm kd pl en tp [a0, a1] c ↔ kd c = 1 ∧ en c = pl c + 2 ∧ pl c + 2 ≤ lm ∧ tp (pl c + 0) % 256 = a0 ∧ tp (pl c + 1) % 256 = a1 := by
  constructor
  · rintro ⟨h1, h2, h3, h4⟩; exact ⟨h1, h2, h3, h4 0 (by show 0 < 2; omega), h4 1 (by show 1 < 2; omega)⟩
  · rintro ⟨h1, h2, h3, q0, q1⟩
    refine ⟨h1, h2, h3, fun i hi => ?_⟩
    match i, hi with
    | 0, _ => exact q0
    | 1, _ => exact q1
    | k + 2, h => exact absurd (show k + 2 < 2 from h) (by omega)
theorem wdS3 {lm c a0 a1 a2 : Int} {kd pl en tp : Int → Int} : wdS lm kd pl en tp [a0, a1, a2] c ↔ kd c = 1 ∧ en c = pl c + 3 ∧ pl c + 3 ≤ lm ∧ tp (pl c + 0) % 256 = a0 ∧ tp (pl c + 1) % 256 = a1 ∧ tp (pl c + 2) % 256 = a2 := by
  constructor
  · rintro ⟨h1, h2, h3, h4⟩; exact ⟨h1, h2, h3, h4 0 (by show 0 < 3; omega), h4 1 (by show 1 < 3; omega), h4 2 (by show 2 < 3; omega)⟩
  · rintro ⟨h1, h2, h3, q0, q1, q2⟩
    refine ⟨h1, h2, h3, fun i hi => ?_⟩
    match i, hi with
    | 0, _ => exact q0
    | 1, _ => exact q1
    | 2, _ => exact q2
    | k + 3, h => exact absurd (show k + 3 < 3 from h) (by omega)
theorem wdS4 {lm c a0 a1 a2 a3 : Int} {kd pl en tp : Int → Int} : wdS lm kd pl en tp [a0, a1, a2, a3] c ↔ kd c = 1 ∧ en c = pl c + 4 ∧ pl c + 4 ≤ lm ∧ tp (pl c + 0) % 256 = a0 ∧ tp (pl c + 1) % 256 = a1 ∧ tp (pl c + 2) % 256 = a2 ∧ tp (pl c + 3) % 256 = a3 := by
  constructor
  · rintro ⟨h1, h2, h3, h4⟩; exact ⟨h1, h2, h3, h4 0 (by show 0 < 4; omega), h4 1 (by show 1 < 4; omega), h4 2 (by show 2 < 4; omega), h4 3 (by show 3 < 4; omega)⟩
  · rintro ⟨h1, h2, h3, q0, q1, q2, q3⟩
    refine ⟨h1, h2, h3, fun i hi => ?_⟩
    match i, hi with
    | 0, _ => exact q0
    | 1, _ => exact q1
    | 2, _ => exact q2
    | 3, _ => exact q3
    | k + 4, h => exact absurd (show k + 4 < 4 from h) (by omega)
theorem wdS5 {lm c a0 a1 a2 a3 a4 : Int} {kd pl en tp : Int → Int} : wdS lm kd pl en tp [a0, a1, a2, a3, a4] c ↔ kd c = 1 ∧ en c = pl c + 5 ∧ pl c + 5 ≤ lm ∧ tp (pl c + 0) % 256 = a0 ∧ tp (pl c + 1) % 256 = a1 ∧ tp (pl c + 2) % 256 = a2 ∧ tp (pl c + 3) % 256 = a3 ∧ tp (pl c + 4) % 256 = a4 := by
  constructor
  · rintro ⟨h1, h2, h3, h4⟩; exact ⟨h1, h2, h3, h4 0 (by show 0 < 5; omega), h4 1 (by show 1 < 5; omega), h4 2 (by show 2 < 5; omega), h4 3 (by show 3 < 5; omega), h4 4 (by show 4 < 5; omega)⟩
  · rintro ⟨h1, h2, h3, q0, q1, q2, q3, q4⟩
    refine ⟨h1, h2, h3, fun i hi => ?_⟩
    match i, hi with
    | 0, _ => exact q0
    | 1, _ => exact q1
    | 2, _ => exact q2
    | 3, _ => exact q3
    | 4, _ => exact q4
    | k + 5, h => exact absurd (show k + 5 < 5 from h) (by omega)
theorem wdS6 {lm c a0 a1 a2 a3 a4 a5 : Int} {kd pl en tp : Int → Int} : wdS lm kd pl en tp [a0, a1, a2, a3, a4, a5] c ↔ kd c = 1 ∧ en c = pl c + 6 ∧ pl c + 6 ≤ lm ∧ tp (pl c + 0) % 256 = a0 ∧ tp (pl c + 1) % 256 = a1 ∧ tp (pl c + 2) % 256 = a2 ∧ tp (pl c + 3) % 256 = a3 ∧ tp (pl c + 4) % 256 = a4 ∧ tp (pl c + 5) % 256 = a5 := by
  constructor
  · rintro ⟨h1, h2, h3, h4⟩; exact ⟨h1, h2, h3, h4 0 (by show 0 < 6; omega), h4 1 (by show 1 < 6; omega), h4 2 (by show 2 < 6; omega), h4 3 (by show 3 < 6; omega), h4 4 (by show 4 < 6; omega), h4 5 (by show 5 < 6; omega)⟩
  · rintro ⟨h1, h2, h3, q0, q1, q2, q3, q4, q5⟩
    refine ⟨h1, h2, h3, fun i hi => ?_⟩
    match i, hi with
    | 0, _ => exact q0
    | 1, _ => exact q1
    | 2, _ => exact q2
    | 3, _ => exact q3
    | 4, _ => exact q4
    | 5, _ => exact q5
    | k + 6, h => exact absurd (show k + 6 < 6 from h) (by omega)
theorem wdq_n {s : List Int} {ft cu lm an : Int} {kd pl en tp : Int → Int} (h : WDQ s ft cu lm kd pl en tp an) (e : an ≠ 1) : ¬ (ft = 0 ∧ wdS lm kd pl en tp s cu) := fun z => e (h.2 z)
theorem wdq_y {s : List Int} {ft cu lm an : Int} {kd pl en tp : Int → Int} (h : WDQ s ft cu lm kd pl en tp an) (e : an = 1) : ft = 0 ∧ wdS lm kd pl en tp s cu := h.1 e
/-- words of nodes and of edges -/
def NWQ (ft cu lm : Int) (kd pl en tp : Int → Int) (an : Int) : Prop := 0 ≤ an ↔ ft = 0 ∧ iwS 0 lm kd pl en tp cu
def EWQ (ft cu lm : Int) (kd pl en tp : Int → Int) (an : Int) : Prop := 0 ≤ an ↔ ft = 0 ∧ iwS 1 lm kd pl en tp cu
theorem iws_0 {kn lm c : Int} {kd pl en tp : Int → Int} (h : kn = 0) : iwS kn lm kd pl en tp c ↔ iwS 0 lm kd pl en tp c := by rw [h]
theorem iws_1 {kn lm c : Int} {kd pl en tp : Int → Int} (h : kn ≠ 0) : iwS kn lm kd pl en tp c ↔ iwS 1 lm kd pl en tp c := by
  unfold iwS; rw [if_neg h, if_neg (show ¬ (1 : Int) = 0 by omega)]
theorem nwq_yes {s : List Int} {ft cu lm b an : Int} {kd pl en tp : Int → Int} (hs : s ∈ nwS) (h : WDQ s ft cu lm kd pl en tp b) (e : b = 1) (e2 : 0 ≤ an) : NWQ ft cu lm kd pl en tp an := ⟨fun _ => ⟨(h.1 e).1, s, by rw [if_pos rfl]; exact hs, (h.1 e).2⟩, fun _ => e2⟩
theorem ewq_yes {s : List Int} {ft cu lm b an : Int} {kd pl en tp : Int → Int} (hs : s ∈ ewS) (h : WDQ s ft cu lm kd pl en tp b) (e : b = 1) (e2 : 0 ≤ an) : EWQ ft cu lm kd pl en tp an := ⟨fun _ => ⟨(h.1 e).1, s, by rw [if_neg (show ¬ (1 : Int) = 0 by omega)]; exact hs, (h.1 e).2⟩, fun _ => e2⟩
theorem nwq_no {ft cu lm an b0 b1 b2 b3 b4 b5 b6 b7 b8 b9 : Int} {kd pl en tp : Int → Int} (h0 : WDQ [100, 101, 103] ft cu lm kd pl en tp b0) (e0 : b0 ≠ 1) (h1 : WDQ [105, 110] ft cu lm kd pl en tp b1) (e1 : b1 ≠ 1) (h2 : WDQ [111, 117, 116] ft cu lm kd pl en tp b2) (e2 : b2 ≠ 1) (h3 : WDQ [115, 105, 122, 101] ft cu lm kd pl en tp b3) (e3 : b3 ≠ 1) (h4 : WDQ [103, 114, 111, 117, 112] ft cu lm kd pl en tp b4) (e4 : b4 ≠ 1) (h5 : WDQ [102, 97, 114] ft cu lm kd pl en tp b5) (e5 : b5 ≠ 1) (h6 : WDQ [99, 111, 114, 101] ft cu lm kd pl en tp b6) (e6 : b6 ≠ 1) (h7 : WDQ [99, 117, 116] ft cu lm kd pl en tp b7) (e7 : b7 ≠ 1) (h8 : WDQ [120] ft cu lm kd pl en tp b8) (e8 : b8 ≠ 1) (h9 : WDQ [121] ft cu lm kd pl en tp b9) (e9 : b9 ≠ 1) (e : an < 0) : NWQ ft cu lm kd pl en tp an := by
  refine ⟨fun z => by omega, fun z => ?_⟩
  obtain ⟨z0, s, hs, hw⟩ := z
  rw [if_pos rfl] at hs
  simp only [nwS, List.mem_cons, List.not_mem_nil, or_false] at hs
  rcases hs with rfl | rfl | rfl | rfl | rfl | rfl | rfl | rfl | rfl | rfl
  · exact absurd ⟨z0, hw⟩ (wdq_n h0 e0)
  · exact absurd ⟨z0, hw⟩ (wdq_n h1 e1)
  · exact absurd ⟨z0, hw⟩ (wdq_n h2 e2)
  · exact absurd ⟨z0, hw⟩ (wdq_n h3 e3)
  · exact absurd ⟨z0, hw⟩ (wdq_n h4 e4)
  · exact absurd ⟨z0, hw⟩ (wdq_n h5 e5)
  · exact absurd ⟨z0, hw⟩ (wdq_n h6 e6)
  · exact absurd ⟨z0, hw⟩ (wdq_n h7 e7)
  · exact absurd ⟨z0, hw⟩ (wdq_n h8 e8)
  · exact absurd ⟨z0, hw⟩ (wdq_n h9 e9)
theorem ewq_no {ft cu lm an b0 b1 b2 b3 b4 b5 b6 b7 : Int} {kd pl en tp : Int → Int} (h0 : WDQ [119, 101, 105, 103, 104, 116] ft cu lm kd pl en tp b0) (e0 : b0 ≠ 1) (h1 : WDQ [116, 117, 114, 110, 101, 100] ft cu lm kd pl en tp b1) (e1 : b1 ≠ 1) (h2 : WDQ [98, 114, 105, 100, 103, 101] ft cu lm kd pl en tp b2) (e2 : b2 ≠ 1) (h3 : WDQ [102, 114, 111, 109] ft cu lm kd pl en tp b3) (e3 : b3 ≠ 1) (h4 : WDQ [116, 111] ft cu lm kd pl en tp b4) (e4 : b4 ≠ 1) (h5 : WDQ [98, 108, 111, 99, 107] ft cu lm kd pl en tp b5) (e5 : b5 ≠ 1) (h6 : WDQ [108, 111, 110, 103] ft cu lm kd pl en tp b6) (e6 : b6 ≠ 1) (h7 : WDQ [111, 110, 101] ft cu lm kd pl en tp b7) (e7 : b7 ≠ 1) (e : an < 0) : EWQ ft cu lm kd pl en tp an := by
  refine ⟨fun z => by omega, fun z => ?_⟩
  obtain ⟨z0, s, hs, hw⟩ := z
  rw [if_neg (show ¬ (1 : Int) = 0 by omega)] at hs
  simp only [ewS, List.mem_cons, List.not_mem_nil, or_false] at hs
  rcases hs with rfl | rfl | rfl | rfl | rfl | rfl | rfl | rfl
  · exact absurd ⟨z0, hw⟩ (wdq_n h0 e0)
  · exact absurd ⟨z0, hw⟩ (wdq_n h1 e1)
  · exact absurd ⟨z0, hw⟩ (wdq_n h2 e2)
  · exact absurd ⟨z0, hw⟩ (wdq_n h3 e3)
  · exact absurd ⟨z0, hw⟩ (wdq_n h4 e4)
  · exact absurd ⟨z0, hw⟩ (wdq_n h5 e5)
  · exact absurd ⟨z0, hw⟩ (wdq_n h6 e6)
  · exact absurd ⟨z0, hw⟩ (wdq_n h7 e7)
/-- what is still to come: values -/
def SV2 (kn lm : Int) (kd tv pl en tp : Int → Int) (c f c0 f0 op : Int) : Prop := ∀ ft cu, SND ft cu kd tv 41 c f → SVL ft cu kn lm kd tv pl en tp c0 f0 op
def SV1 (kn lm : Int) (kd tv pl en tp : Int → Int) (c f o c0 f0 op : Int) : Prop := ∀ ft cu, SSM ft cu kn lm kd tv pl en tp c f o → SV2 kn lm kd tv pl en tp cu ft c0 f0 op
def SV4 (kn lm : Int) (kd tv pl en tp : Int → Int) (c0 f0 op : Int) : Prop := f0 = 0 ∧ fVL op kn lm kd tv pl en tp c0 = none
theorem sv1_of {kn lm c f o c0 f0 op c_zq : Int} {kd tv pl en tp : Int → Int} (hs : sgS kd tv c_zq 40) (ec : c_zq = c0) (h0 : f0 = 0) (e1 : c = c0 + 1) (o1 : o = op + 1) (hf : 12 ≤ op → f ≠ 0) (hf0 : op ≤ 11 → f = 0) : SV1 kn lm kd tv pl en tp c f o c0 f0 op := by
  subst ec
  exact fun ft cu h ft_zq cu_zq g => svl_open hs o1 hf hf0 e1 h g h0
theorem sv1_go {kn lm c f o c0 f0 op ft cu c_zq f_zq : Int} {kd tv pl en tp : Int → Int} (h : SV1 kn lm kd tv pl en tp c f o c0 f0 op) (g : SSM ft cu kn lm kd tv pl en tp c f o) (e1 : c_zq = cu) (e2 : f_zq = ft) : SV2 kn lm kd tv pl en tp c_zq f_zq c0 f0 op := by subst e1; subst e2; exact h _ _ g
theorem sv2_go {kn lm c f c0 f0 op ft cu a4 : Int} {kd tv pl en tp : Int → Int} (h : SV2 kn lm kd tv pl en tp c f c0 f0 op) (g : SND ft cu kd tv a4 c f) (e : a4 = 41) : SVL ft cu kn lm kd tv pl en tp c0 f0 op := by subst e; exact h _ _ g
theorem sv4_of {kn lm c0 f0 op c_zq : Int} {kd tv pl en tp : Int → Int} (h0 : f0 = 0) (ec : c_zq = c0) (hk : kd c_zq ≠ 2) (hs : ¬ sgS kd tv c_zq 40) (hw : ¬ iwS kn lm kd pl en tp c_zq) : SV4 kn lm kd tv pl en tp c0 f0 op := by
  subst ec
  refine ⟨h0, ?_⟩
  unfold fVL vlO
  rw [if_neg hk, if_neg hs, if_neg hw]
theorem sv4_go {kn lm c0 f0 op ft cu : Int} {kd tv pl en tp : Int → Int} (h : SV4 kn lm kd tv pl en tp c0 f0 op) (e : ft ≠ 0) : SVL ft cu kn lm kd tv pl en tp c0 f0 op := ⟨fun _ => by rw [h.2, rsO_1 e], fun _ => e⟩
theorem iws_k {kn lm c : Int} {kd pl en tp : Int → Int} (h : iwS kn lm kd pl en tp c) : kd c = 1 := by
  obtain ⟨s, _, hw⟩ := h; exact hw.1
/-- what is still to come: one test -/
def ON1 (kn lm : Int) (kd tv pl en tp : Int → Int) (c f o c0 f0 op : Int) : Prop := ∀ ft cu, SON ft cu kn lm kd tv pl en tp c f o → SON ft cu kn lm kd tv pl en tp c0 f0 op
def OT2 (kn lm : Int) (kd tv pl en tp : Int → Int) (c f c0 f0 op : Int) : Prop := ∀ ft cu, SND ft cu kd tv 125 c f → SON ft cu kn lm kd tv pl en tp c0 f0 op
def OT1 (kn lm : Int) (kd tv pl en tp : Int → Int) (c f o c0 f0 op : Int) : Prop := ∀ ft cu, STE ft cu kn lm kd tv pl en tp c f o → OT2 kn lm kd tv pl en tp cu ft c0 f0 op
noncomputable def oSM (op kn lm : Int) (kd tv pl en tp : Int → Int) (d : Int) : Option Int := @ite _ (sgS kd tv d 60 ∨ sgS kd tv d 61 ∨ sgS kd tv d 62) (Classical.propDecidable _) (fSM op kn lm kd tv pl en tp (d + 1)) none
def OS2 (ft cu kn lm : Int) (kd tv pl en tp : Int → Int) (c0 f0 op : Int) : Prop := f0 = 0 ∧ fON op kn lm kd tv pl en tp c0 = if ft = 0 then oSM op kn lm kd tv pl en tp cu else none
def OS1 (kn lm : Int) (kd tv pl en tp : Int → Int) (c f o c0 f0 op : Int) : Prop := ∀ ft cu, SSM ft cu kn lm kd tv pl en tp c f o → OS2 ft cu kn lm kd tv pl en tp c0 f0 op
def OS3 (kn lm : Int) (kd tv pl en tp : Int → Int) (c f o c0 f0 op : Int) : Prop := ∀ ft cu, SSM ft cu kn lm kd tv pl en tp c f o → SON ft cu kn lm kd tv pl en tp c0 f0 op
def OS4 (kn lm : Int) (kd tv pl en tp : Int → Int) (c0 f0 op : Int) : Prop := f0 = 0 ∧ fON op kn lm kd tv pl en tp c0 = none
theorem on_fault {ft cu op kn lm c0 f0 : Int} {kd tv pl en tp : Int → Int} (h : f0 ≠ 0) (e : ft = f0) : SON ft cu kn lm kd tv pl en tp c0 f0 op := ⟨fun z => absurd z h, fun _ => by rw [e]; exact h⟩
theorem on1_of {kn lm c f o c0 f0 op c_zq : Int} {kd tv pl en tp : Int → Int} (hs : wdS lm kd pl en tp [110, 111, 116] c_zq) (ec : c_zq = c0) (h0 : f0 = 0) (e1 : c = c0 + 1) (o1 : o = op + 1) (hf : 12 ≤ op → f ≠ 0) (hf0 : op ≤ 11 → f = 0) : ON1 kn lm kd tv pl en tp c f o c0 f0 op := by
  subst ec
  refine fun ft cu h => ⟨fun _ => ?_, fun z => absurd h0 z⟩
  unfold fON oneO
  rw [if_pos hs]
  by_cases z : op ≤ 11
  · rw [lvS_in z o1, ← e1]; exact h.1 (hf0 z)
  · rw [lvS_0 (by omega), rsO_1 (h.2 (hf (by omega)))]
theorem on1_go {kn lm c f o c0 f0 op ft cu : Int} {kd tv pl en tp : Int → Int} (h : ON1 kn lm kd tv pl en tp c f o c0 f0 op) (g : SON ft cu kn lm kd tv pl en tp c f o) : SON ft cu kn lm kd tv pl en tp c0 f0 op := h _ _ g
theorem ot1_of {kn lm c f o c0 f0 op c_zq : Int} {kd tv pl en tp : Int → Int} (hs : sgS kd tv c_zq 123) (ec : c_zq = c0) (h0 : f0 = 0) (e1 : c = c0 + 1) (o1 : o = op + 1) (hf : 12 ≤ op → f ≠ 0) (hf0 : op ≤ 11 → f = 0) : OT1 kn lm kd tv pl en tp c f o c0 f0 op := by
  subst ec
  refine fun ft cu h ft_zq cu_zq g => ⟨fun _ => ?_, fun z => absurd h0 z⟩
  unfold fON oneO
  rw [if_neg (fun z => by have := z.1; have := hs.1; omega), if_pos hs]
  by_cases z : op ≤ 11
  · rw [lvS_in z o1]
    have b := (ctr_bind h g).1 (hf0 z)
    rw [← e1]; exact b
  · rw [lvS_0 (by omega), rsO_1 (g.2 (h.2 (hf (by omega))))]; rfl
theorem ot1_go {kn lm c f o c0 f0 op ft cu c_zq f_zq : Int} {kd tv pl en tp : Int → Int} (h : OT1 kn lm kd tv pl en tp c f o c0 f0 op) (g : STE ft cu kn lm kd tv pl en tp c f o) (e1 : c_zq = cu) (e2 : f_zq = ft) : OT2 kn lm kd tv pl en tp c_zq f_zq c0 f0 op := by subst e1; subst e2; exact h _ _ g
theorem ot2_go {kn lm c f c0 f0 op ft cu a4 : Int} {kd tv pl en tp : Int → Int} (h : OT2 kn lm kd tv pl en tp c f c0 f0 op) (g : SND ft cu kd tv a4 c f) (e : a4 = 125) : SON ft cu kn lm kd tv pl en tp c0 f0 op := by subst e; exact h _ _ g
theorem os1_of {kn lm c f o c0 f0 op : Int} {kd tv pl en tp : Int → Int} (hn : ¬ wdS lm kd pl en tp [110, 111, 116] c0) (hs : ¬ sgS kd tv c0 123) (h0 : f0 = 0) (e1 : c = c0) (e2 : f = f0) (o1 : o = op) : OS1 kn lm kd tv pl en tp c f o c0 f0 op := by
  subst e1; subst e2; subst o1
  refine fun ft cu h => ⟨h0, ?_⟩
  unfold fON oneO
  rw [if_neg hn, if_neg hs]
  have b := h.1 h0
  unfold fSM at b
  rw [b, rsO_bind]; rfl
theorem os1_go {kn lm c f o c0 f0 op ft cu : Int} {kd tv pl en tp : Int → Int} (h : OS1 kn lm kd tv pl en tp c f o c0 f0 op) (g : SSM ft cu kn lm kd tv pl en tp c f o) : OS2 ft cu kn lm kd tv pl en tp c0 f0 op := h _ _ g
theorem os4_of {kn lm c0 f0 op ft cu : Int} {kd tv pl en tp : Int → Int} (h : OS2 ft cu kn lm kd tv pl en tp c0 f0 op) (hn : ft = 0 → ¬ sgS kd tv cu 60 ∧ ¬ sgS kd tv cu 61 ∧ ¬ sgS kd tv cu 62) : OS4 kn lm kd tv pl en tp c0 f0 op := by
  refine ⟨h.1, ?_⟩
  rw [h.2]
  by_cases z : ft = 0
  · rw [if_pos z]; unfold oSM
    rw [if_neg (fun y => by rcases y with y | y | y; exact (hn z).1 y; exact (hn z).2.1 y; exact (hn z).2.2 y)]
  · rw [if_neg z]
theorem os4_go {kn lm c0 f0 op ft cu : Int} {kd tv pl en tp : Int → Int} (h : OS4 kn lm kd tv pl en tp c0 f0 op) (e : ft ≠ 0) : SON ft cu kn lm kd tv pl en tp c0 f0 op := ⟨fun _ => by rw [h.2, rsO_1 e], fun _ => e⟩
theorem os2_f {kn lm c0 f0 op ft cu : Int} {kd tv pl en tp : Int → Int} (h : OS2 ft cu kn lm kd tv pl en tp c0 f0 op) (e : ft ≠ 0) : SON ft cu kn lm kd tv pl en tp c0 f0 op := ⟨fun _ => by rw [h.2, if_neg e, rsO_1 e], fun _ => e⟩
theorem os3_of {kn lm c f o c0 f0 op ft cu : Int} {kd tv pl en tp : Int → Int} (h : OS2 ft cu kn lm kd tv pl en tp c0 f0 op) (h0 : ft = 0) (hs : sgS kd tv cu 60 ∨ sgS kd tv cu 61 ∨ sgS kd tv cu 62) (e1 : c = cu + 1) (e2 : f = 0) (o1 : o = op) : OS3 kn lm kd tv pl en tp c f o c0 f0 op := by
  subst e1; subst o1
  refine fun ft_zq cu_zq g => ⟨fun _ => ?_, fun z => absurd h.1 z⟩
  rw [h.2, if_pos h0]; unfold oSM
  rw [if_pos hs]; exact g.1 e2
theorem os3_go {kn lm c f o c0 f0 op ft cu : Int} {kd tv pl en tp : Int → Int} (h : OS3 kn lm kd tv pl en tp c f o c0 f0 op) (g : SSM ft cu kn lm kd tv pl en tp c f o) : SON ft cu kn lm kd tv pl en tp c0 f0 op := h _ _ g
/-- a rule -/
noncomputable def bdO (kn lm : Int) (kd tv pl en tp : Int → Int) (c : Int) : Option Int := @ite _ (wdS lm kd pl en tp [99, 111, 108, 111, 114] c ∨ wdS lm kd pl en tp [119, 105, 100, 116, 104] c ∨ wdS lm kd pl en tp [102, 111, 114, 109] c) (Classical.propDecidable _) ((ndO (sgS kd tv) 61 (c + 1)).bind (fSM 0 kn lm kd tv pl en tp)) none
noncomputable def rtO (kn lm : Int) (kd tv pl en tp : Int → Int) (n : Nat) (c : Int) : Option Int := (lpO (bdO kn lm kd tv pl en tp) (fun c => sgS kd tv c 44) n c).bind (ndO (sgS kd tv) 59)
noncomputable def knO (lm : Int) (kd tv pl en tp : Int → Int) (c : Int) : Int := @ite _ (wdS lm kd pl en tp [110, 111, 100, 101] c) (Classical.propDecidable _) 0 1
noncomputable def ruS (lm : Int) (kd tv pl en tp : Int → Int) (c : Int) : Option Int := @ite _ ((wdS lm kd pl en tp [110, 111, 100, 101] c ∨ wdS lm kd pl en tp [101, 100, 103, 101] c) ∧ wdS lm kd pl en tp [105, 102] (c + 1)) (Classical.propDecidable _) (((fTE 0 (knO lm kd tv pl en tp c) lm kd tv pl en tp (c + 2)).bind (ndO (sgS kd tv) 58)).bind (fun d => (bdO (knO lm kd tv pl en tp c) lm kd tv pl en tp d).bind (rtO (knO lm kd tv pl en tp c) lm kd tv pl en tp 2200))) none
def RUL (ft cu lm : Int) (kd tv pl en tp : Int → Int) (c0 : Int) : Prop := ruS lm kd tv pl en tp c0 = rsO ft cu
def RU0 (lm : Int) (kd tv pl en tp : Int → Int) (c0 : Int) : Prop := ruS lm kd tv pl en tp c0 = none
def RDW (ft cu kn lm : Int) (kd tv pl en tp : Int → Int) (c0 : Int) : Prop := ∃ n : Nat, 2100 - cu < n ∧ ruS lm kd tv pl en tp c0 = if ft = 0 then (bdO kn lm kd tv pl en tp cu).bind (rtO kn lm kd tv pl en tp n) else none
def RDL (ft cu kn lm : Int) (kd tv pl en tp : Int → Int) (c0 : Int) : Prop := ∃ n : Nat, 2100 - cu < n ∧ ruS lm kd tv pl en tp c0 = if ft = 0 then rtO kn lm kd tv pl en tp n cu else none
def RU2 (kn lm : Int) (kd tv pl en tp : Int → Int) (c f c0 : Int) : Prop := ∀ ft cu, 0 ≤ cu → SND ft cu kd tv 58 c f → RDW ft cu kn lm kd tv pl en tp c0
def RUa (kn lm : Int) (kd tv pl en tp : Int → Int) (c1 : Int) : Prop := (wdS lm kd pl en tp [110, 111, 100, 101] c1 ∧ kn = 0) ∨ (¬ wdS lm kd pl en tp [110, 111, 100, 101] c1 ∧ wdS lm kd pl en tp [101, 100, 103, 101] c1 ∧ kn = 1)
def RU1 (kn lm : Int) (kd tv pl en tp : Int → Int) (c f o c0 : Int) : Prop := ∀ ft cu, STE ft cu kn lm kd tv pl en tp c f o → RU2 kn lm kd tv pl en tp cu ft c0
def RB2 (kn lm : Int) (kd tv pl en tp : Int → Int) (c f o c0 : Int) : Prop := ∀ ft cu, c ≤ cu → SSM ft cu kn lm kd tv pl en tp c f o → RDL ft cu kn lm kd tv pl en tp c0
def RB1 (kn lm : Int) (kd tv pl en tp : Int → Int) (c f c0 : Int) : Prop := ∀ ft cu, c ≤ cu → SND ft cu kd tv 61 c f → RB2 kn lm kd tv pl en tp cu ft 0 c0
def RDz (kn lm : Int) (kd tv pl en tp : Int → Int) (c f c0 : Int) : Prop := RDL f c kn lm kd tv pl en tp c0
def RU3 (lm : Int) (kd tv pl en tp : Int → Int) (c f c0 : Int) : Prop := ∀ ft cu, SND ft cu kd tv 59 c f → RUL ft cu lm kd tv pl en tp c0
def CMA (cu : Int) (kd tv : Int → Int) (an c f : Int) : Prop := (an = 1 ↔ f = 0 ∧ sgS kd tv c 44) ∧ cu = c + an
theorem ru0_no {lm c0 c_zq : Int} {kd tv pl en tp : Int → Int} (ec : c_zq = c0) (h1 : ¬ wdS lm kd pl en tp [110, 111, 100, 101] c_zq) (h2 : ¬ wdS lm kd pl en tp [101, 100, 103, 101] c_zq) : RU0 lm kd tv pl en tp c0 := by
  subst ec
  unfold RU0 ruS
  rw [if_neg (fun z => by rcases z.1 with y | y; exact h1 y; exact h2 y)]
theorem ru0_if {lm c0 c_zq : Int} {kd tv pl en tp : Int → Int} (ec : c_zq = c0 + 1) (h1 : ¬ wdS lm kd pl en tp [105, 102] c_zq) : RU0 lm kd tv pl en tp c0 := by
  subst ec
  unfold RU0 ruS
  rw [if_neg (fun z => h1 z.2)]
theorem ru0_go {lm c0 ft cu : Int} {kd tv pl en tp : Int → Int} (h : RU0 lm kd tv pl en tp c0) (e : ft ≠ 0) : RUL ft cu lm kd tv pl en tp c0 := by
  unfold RUL; rw [rsO_1 e]; exact h
theorem ru1_of {kn lm c f o c0 c1 c2 : Int} {kd tv pl en tp : Int → Int} (hw : (wdS lm kd pl en tp [110, 111, 100, 101] c1 ∧ kn = 0) ∨ (¬ wdS lm kd pl en tp [110, 111, 100, 101] c1 ∧ wdS lm kd pl en tp [101, 100, 103, 101] c1 ∧ kn = 1)) (hi : wdS lm kd pl en tp [105, 102] c2) (e1 : c1 = c0) (e2 : c2 = c0 + 1) (e : c = c0 + 2) (hf : f = 0) (ho : o = 0) : RU1 kn lm kd tv pl en tp c f o c0 := by
  subst e1; subst e2; subst e; subst ho
  have kn_zq : kn = knO lm kd tv pl en tp c1 := by
    unfold knO
    rcases hw with ⟨w, k⟩ | ⟨w, _, k⟩
    · rw [if_pos w]; exact k
    · rw [if_neg w]; exact k
  have hh : (wdS lm kd pl en tp [110, 111, 100, 101] c1 ∨ wdS lm kd pl en tp [101, 100, 103, 101] c1) ∧ wdS lm kd pl en tp [105, 102] (c1 + 1) := by
    refine ⟨?_, hi⟩
    rcases hw with ⟨w, _⟩ | ⟨_, w, _⟩
    · exact Or.inl w
    · exact Or.inr w
  intro ft cu h ft_zq cu_zq c0_zq g
  refine ⟨2200, by omega, ?_⟩
  have b := (ctr_bind h g).1 hf
  have b_zq : ((fTE 0 kn lm kd tv pl en tp (c1 + 2)).bind (ndO (sgS kd tv) 58)) = rsO ft_zq cu_zq := b
  unfold ruS
  rw [if_pos hh, ← kn_zq, b_zq, rsO_bind]
theorem ru1_go {kn lm c f o c0 ft cu c_zq f_zq : Int} {kd tv pl en tp : Int → Int} (h : RU1 kn lm kd tv pl en tp c f o c0) (g : STE ft cu kn lm kd tv pl en tp c f o) (e1 : c_zq = cu) (e2 : f_zq = ft) : RU2 kn lm kd tv pl en tp c_zq f_zq c0 := by subst e1; subst e2; exact h _ _ g
theorem ru2_go {kn lm c f c0 ft cu a4 : Int} {kd tv pl en tp : Int → Int} (h : RU2 kn lm kd tv pl en tp c f c0) (g : SND ft cu kd tv a4 c f) (e : a4 = 58) (c1 : 0 ≤ cu) : RDW ft cu kn lm kd tv pl en tp c0 := by subst e; exact h _ _ c1 g
theorem rdw_no {kn lm c0 ft cu : Int} {kd tv pl en tp : Int → Int} (h : RDW ft cu kn lm kd tv pl en tp c0) (hn : ft = 0 → ¬ wdS lm kd pl en tp [99, 111, 108, 111, 114] cu ∧ ¬ wdS lm kd pl en tp [119, 105, 100, 116, 104] cu ∧ ¬ wdS lm kd pl en tp [102, 111, 114, 109] cu) : RU0 lm kd tv pl en tp c0 := by
  obtain ⟨n, _, e⟩ := h
  unfold RU0
  rw [e]
  by_cases z : ft = 0
  · rw [if_pos z]; unfold bdO
    rw [if_neg (fun y => by rcases y with y | y | y; exact (hn z).1 y; exact (hn z).2.1 y; exact (hn z).2.2 y)]; rfl
  · rw [if_neg z]
theorem rb1_of {kn lm c0 ft cu c f : Int} {kd tv pl en tp : Int → Int} (h : RDW ft cu kn lm kd tv pl en tp c0) (h0 : ft = 0) (hw : wdS lm kd pl en tp [99, 111, 108, 111, 114] cu ∨ wdS lm kd pl en tp [119, 105, 100, 116, 104] cu ∨ wdS lm kd pl en tp [102, 111, 114, 109] cu) (e1 : c = cu + 1) (e2 : f = 0) : RB1 kn lm kd tv pl en tp c f c0 := by
  subst e1
  obtain ⟨n, hn, e⟩ := h
  intro ft1 cu1 l1 g1 ft2 cu2 l2 g2
  refine ⟨n, by omega, ?_⟩
  rw [e, if_pos h0]
  unfold bdO
  rw [if_pos hw]
  have b := (ctr_bind g1 g2).1 e2
  have b_zq : ((ndO (sgS kd tv) 61 (cu + 1)).bind (fSM 0 kn lm kd tv pl en tp)) = rsO ft2 cu2 := b
  rw [b_zq, rsO_bind]
theorem rb1_go {kn lm c f c0 ft cu c_zq f_zq o a4 : Int} {kd tv pl en tp : Int → Int} (h : RB1 kn lm kd tv pl en tp c f c0) (g : SND ft cu kd tv a4 c f) (e : a4 = 61) (l : c ≤ cu) (e1 : c_zq = cu) (e2 : f_zq = ft) (e3 : o = 0) : RB2 kn lm kd tv pl en tp c_zq f_zq o c0 := by subst e; subst e1; subst e2; subst e3; exact h _ _ l g
theorem rb2_go {kn lm c f o c0 ft cu : Int} {kd tv pl en tp : Int → Int} (h : RB2 kn lm kd tv pl en tp c f o c0) (g : SSM ft cu kn lm kd tv pl en tp c f o) (l : c ≤ cu) : RDL ft cu kn lm kd tv pl en tp c0 := h _ _ l g
theorem rd3_of {kn lm c f c0 ft cu : Int} {kd tv pl en tp : Int → Int} (h : RDL ft cu kn lm kd tv pl en tp c0) (e1 : c = cu) (e2 : f = ft) : RDz kn lm kd tv pl en tp c f c0 := by subst e1; subst e2; exact h
theorem rd3_on {kn lm c f c0 ft cu an cu_zq : Int} {kd tv pl en tp : Int → Int} (h : RDz kn lm kd tv pl en tp c f c0) (g : CMA cu_zq kd tv an c f) (ea : an = 1) (cb : c ≤ 2099) (e1 : cu = cu_zq) (e2 : ft = f) : RDW ft cu kn lm kd tv pl en tp c0 := by
  subst e1; subst e2
  obtain ⟨n, hn, e⟩ := h
  obtain ⟨h0, hs⟩ := g.1.1 ea
  have ec := g.2
  cases n with
  | zero => omega
  | succ n =>
    refine ⟨n, by omega, ?_⟩
    rw [e, if_pos h0, if_pos h0]
    have : cu = c + 1 := by omega
    subst this
    unfold rtO
    show (@ite _ (sgS kd tv c 44) (Classical.propDecidable _) _ _ : Option Int).bind _ = _
    rw [if_pos hs]
    cases bdO kn lm kd tv pl en tp (c + 1) <;> rfl
theorem rd3_off {kn lm c f c0 an cu_zq c_zq f_zq : Int} {kd tv pl en tp : Int → Int} (h : RDz kn lm kd tv pl en tp c f c0) (g : CMA cu_zq kd tv an c f) (ea : an = 0) (cb : c ≤ 2099) (e1 : c_zq = cu_zq) (e2 : f_zq = f) : RU3 lm kd tv pl en tp c_zq f_zq c0 := by
  subst e1; subst e2
  obtain ⟨n, hn, e⟩ := h
  have ec := g.2
  have : c_zq = c := by omega
  subst this
  intro ft cu s
  unfold RUL
  rw [e]
  by_cases z : f_zq = 0
  · rw [if_pos z]
    have hs : ¬ sgS kd tv c_zq 44 := fun y => by have := g.1.2 ⟨z, y⟩; omega
    cases n with
    | zero => omega
    | succ n =>
      unfold rtO
      show (@ite _ (sgS kd tv c_zq 44) (Classical.propDecidable _) _ _ : Option Int).bind _ = _
      rw [if_neg hs]
      exact s.1 z
  · rw [if_neg z, rsO_1 (s.2 z)]
theorem ru3_go {lm c f c0 ft cu a4 : Int} {kd tv pl en tp : Int → Int} (h : RU3 lm kd tv pl en tp c f c0) (g : SND ft cu kd tv a4 c f) (e : a4 = 59) : RUL ft cu lm kd tv pl en tp c0 := by subst e; exact h _ _ g
theorem cma_of {cu an c f cu_zq a4 an_zq f_zq : Int} {kd tv : Int → Int} (g : SGN cu_zq kd tv a4 an_zq f_zq) (e : a4 = 44) (e1 : c = cu_zq) (e2 : f = f_zq) (e3 : an = 1 ↔ an_zq = 1) (e4 : cu = c + an) : CMA cu kd tv an c f := by
  subst e; subst e1; subst e2
  exact ⟨e3.trans g, e4⟩
/-- the rules, first and second time -/
def OKS (lm : Int) (kd tv pl en tp : Int → Int) (c : Int) : Prop := OKR kd (ruS lm kd tv pl en tp) c
def SFP (ft cu lm : Int) (kd tv pl en tp : Int → Int) : Prop := ft = 0 → OKS lm kd tv pl en tp cu → OKS lm kd tv pl en tp 0
def SP1 (lm : Int) (kd tv pl en tp : Int → Int) (c : Int) : Prop := OKS lm kd tv pl en tp c → OKS lm kd tv pl en tp 0
def SOK (lm : Int) (kd tv pl en tp : Int → Int) : Prop := OKS lm kd tv pl en tp 0
def SOC (ft cu lm : Int) (kd tv pl en tp : Int → Int) : Prop := ft = 0 ∧ OKS lm kd tv pl en tp cu
def SC1 (lm : Int) (kd tv pl en tp : Int → Int) (c : Int) : Prop := kd c ≠ 0 ∧ OKS lm kd tv pl en tp c
theorem spa_0 {ft cu lm : Int} {kd tv pl en tp : Int → Int} (h : cu = 0) : SFP ft cu lm kd tv pl en tp := fun _ z => by rw [h] at z; exact z
theorem sp1_of {ft cu lm c : Int} {kd tv pl en tp : Int → Int} (h : SFP ft cu lm kd tv pl en tp) (h0 : ft = 0) (e : c = cu) : SP1 lm kd tv pl en tp c := by subst e; exact h h0
theorem sp1_go {ft cu lm c : Int} {kd tv pl en tp : Int → Int} (h : SP1 lm kd tv pl en tp c) (g : RUL ft cu lm kd tv pl en tp c) : SFP ft cu lm kd tv pl en tp := fun h0 z => h (okr_back (by unfold RUL at g; rw [g, rsO_0 h0]) z)
theorem sok_of {ft cu lm : Int} {kd tv pl en tp : Int → Int} (h : SFP ft cu lm kd tv pl en tp) (h0 : ft = 0) (e : kd cu = 0) : SOK lm kd tv pl en tp := h h0 (okr_end e)
theorem soc_of {ft cu lm : Int} {kd tv pl en tp : Int → Int} (h : SOK lm kd tv pl en tp) (h0 : ft = 0) (e : cu = 0) : SOC ft cu lm kd tv pl en tp := by subst e; exact ⟨h0, h⟩
theorem sc1_of {ft cu lm c : Int} {kd tv pl en tp : Int → Int} (h : SOC ft cu lm kd tv pl en tp) (hk : kd cu ≠ 0) (e : c = cu) : SC1 lm kd tv pl en tp c := by subst e; exact ⟨hk, h.2⟩
theorem sc1_go {ft cu lm c : Int} {kd tv pl en tp : Int → Int} (h : SC1 lm kd tv pl en tp c) (g : RUL ft cu lm kd tv pl en tp c) : SOC ft cu lm kd tv pl en tp := okr_step h.2 h.1 g
/-- ahead of an opening -/
def Sw40 (kd tv pl en tp : Int → Int) (c0 f0 : Int) : Prop := sgS kd tv c0 40 ∧ f0 = 0
def Sw123 (kd tv pl en tp : Int → Int) (c0 f0 : Int) : Prop := sgS kd tv c0 123 ∧ f0 = 0
def SwN (lm : Int) (kd tv pl en tp : Int → Int) (c0 f0 : Int) : Prop := wdS lm kd pl en tp [110, 111, 116] c0 ∧ f0 = 0
theorem spw_start {ft cu kn lm c f o c0 f0 op : Int} {kd tv pl en tp : Int → Int} (h : SVL ft cu kn lm kd tv pl en tp c f o) (e1 : c = c0) (e2 : f = f0) (e3 : o = op) (c1 : 0 ≤ cu) : SPWv ft cu kn lm kd tv pl en tp c0 f0 op := by subst e1; subst e2; subst e3; exact lpc_start h c1
theorem ssl_start {ft cu kn lm c f o c0 f0 op : Int} {kd tv pl en tp : Int → Int} (h : SPQv ft cu kn lm kd tv pl en tp c f o) (e1 : c = c0) (e2 : f = f0) (e3 : o = op) (c1 : 0 ≤ cu) : SSL ft cu kn lm kd tv pl en tp c0 f0 op := by subst e1; subst e2; subst e3; exact lpc_start h c1
theorem sbl_start {ft cu kn lm c f o c0 f0 op : Int} {kd tv pl en tp : Int → Int} (h : SON ft cu kn lm kd tv pl en tp c f o) (e1 : c = c0) (e2 : f = f0) (e3 : o = op) (c1 : 0 ≤ cu) : SBL ft cu kn lm kd tv pl en tp c0 f0 op := by subst e1; subst e2; subst e3; exact lpc_start h c1
theorem stl_start {ft cu kn lm c f o c0 f0 op : Int} {kd tv pl en tp : Int → Int} (h : SBO ft cu kn lm kd tv pl en tp c f o) (e1 : c = c0) (e2 : f = f0) (e3 : o = op) (c1 : 0 ≤ cu) : STL ft cu kn lm kd tv pl en tp c0 f0 op := by subst e1; subst e2; subst e3; exact lpc_start h c1
theorem spw_go {ft cu kn lm c f o c0 f0 op : Int} {kd tv pl en tp : Int → Int} (h : GPW kn lm kd tv pl en tp c f c0 f0 op) (g : SVL ft cu kn lm kd tv pl en tp c f o) (e : o = op) (cb : c ≤ 2100) (hc : c ≤ cu) : SPWv ft cu kn lm kd tv pl en tp c0 f0 op := by subst e; exact lpc_go h cb hc g
theorem ssl_go {ft cu kn lm c f o c0 f0 op : Int} {kd tv pl en tp : Int → Int} (h : GSL kn lm kd tv pl en tp c f c0 f0 op) (g : SPQv ft cu kn lm kd tv pl en tp c f o) (e : o = op) (cb : c ≤ 2100) (hc : c ≤ cu) : SSL ft cu kn lm kd tv pl en tp c0 f0 op := by subst e; exact lpc_go h cb hc g
theorem sbl_go {ft cu kn lm c f o c0 f0 op : Int} {kd tv pl en tp : Int → Int} (h : GBL kn lm kd tv pl en tp c f c0 f0 op) (g : SON ft cu kn lm kd tv pl en tp c f o) (e : o = op) (cb : c ≤ 2100) (hc : c ≤ cu) : SBL ft cu kn lm kd tv pl en tp c0 f0 op := by subst e; exact lpc_go h cb hc g
theorem stl_go {ft cu kn lm c f o c0 f0 op : Int} {kd tv pl en tp : Int → Int} (h : GTL kn lm kd tv pl en tp c f c0 f0 op) (g : SBO ft cu kn lm kd tv pl en tp c f o) (e : o = op) (cb : c ≤ 2100) (hc : c ≤ cu) : STL ft cu kn lm kd tv pl en tp c0 f0 op := by subst e; exact lpc_go h cb hc g
/-- ahead of the next call in a loop -/
theorem sgn_y {cu x an f v : Int} {kd tv : Int → Int} (h : SGN cu kd tv x an f) (e : an ≠ 0) (e1 : an ≤ 1) (e0 : 0 ≤ an) (ev : x = v) : f = 0 ∧ sgS kd tv cu v := by subst ev; exact h.1 (by omega)
theorem sgn_n {cu x an f v : Int} {kd tv : Int → Int} (h : SGN cu kd tv x an f) (e : an = 0) (ev : x = v) (e0 : f = 0) : ¬ sgS kd tv cu v := by subst ev; exact fun z => by have := h.2 ⟨e0, z⟩; omega
theorem gpw_of {ft cu kn lm c f c0 f0 op : Int} {kd tv pl en tp : Int → Int} (h : SPWv ft cu kn lm kd tv pl en tp c0 f0 op) (h0 : ft = 0) (hs : sgS kd tv cu 42 ∨ sgS kd tv cu 47) (e1 : c = cu + 1) (e2 : f = 0) : GPW kn lm kd tv pl en tp c f c0 f0 op := by
  subst e1; subst h0
  refine ⟨e2, ?_, ?_⟩
  · rw [show cu + 1 - 1 = cu by omega]; exact h
  · rw [show cu + 1 - 1 = cu by omega]; exact hs
theorem gsl_of {ft cu kn lm c f c0 f0 op : Int} {kd tv pl en tp : Int → Int} (h : SSL ft cu kn lm kd tv pl en tp c0 f0 op) (h0 : ft = 0) (hs : sgS kd tv cu 43 ∨ sgS kd tv cu 45) (e1 : c = cu + 1) (e2 : f = 0) : GSL kn lm kd tv pl en tp c f c0 f0 op := by
  subst e1; subst h0
  refine ⟨e2, ?_, ?_⟩
  · rw [show cu + 1 - 1 = cu by omega]; exact h
  · rw [show cu + 1 - 1 = cu by omega]; exact hs
theorem gbl_of {ft cu kn lm c f c0 f0 op : Int} {kd tv pl en tp : Int → Int} (h : SBL ft cu kn lm kd tv pl en tp c0 f0 op) (h0 : ft = 0) (hs : wdS lm kd pl en tp [97, 110, 100] cu) (e1 : c = cu + 1) (e2 : f = 0) : GBL kn lm kd tv pl en tp c f c0 f0 op := by
  subst e1; subst h0
  refine ⟨e2, ?_, ?_⟩
  · rw [show cu + 1 - 1 = cu by omega]; exact h
  · rw [show cu + 1 - 1 = cu by omega]; exact hs
theorem gtl_of {ft cu kn lm c f c0 f0 op : Int} {kd tv pl en tp : Int → Int} (h : STL ft cu kn lm kd tv pl en tp c0 f0 op) (h0 : ft = 0) (hs : wdS lm kd pl en tp [111, 114] cu) (e1 : c = cu + 1) (e2 : f = 0) : GTL kn lm kd tv pl en tp c f c0 f0 op := by
  subst e1; subst h0
  refine ⟨e2, ?_, ?_⟩
  · rw [show cu + 1 - 1 = cu by omega]; exact h
  · rw [show cu + 1 - 1 = cu by omega]; exact hs
end
section
/-! the reference's bounds: what lies between the least and the greatest (bounds, dots) -/
def bnP (lx mx ly my x y : Int) : Prop := (lx ≤ x ∧ x ≤ mx) ∧ ly ≤ y ∧ y ≤ my
theorem bnP_w {lx mx ly my x y lx_zq mx_zq ly_zq my_zq : Int} (h : bnP lx mx ly my x y) (a1 : lx_zq ≤ lx) (a2 : mx ≤ mx_zq) (a3 : ly_zq ≤ ly) (a4 : my ≤ my_zq) : bnP lx_zq mx_zq ly_zq my_zq x y := by
  obtain ⟨⟨h1, h2⟩, h3, h4⟩ := h
  exact ⟨⟨by omega, by omega⟩, by omega, by omega⟩
def BNN (lx mx ly my g : Int) (NX NY : Int → Int) (N : Int) : Prop := ∀ j : Int, 0 ≤ j → j < N → bnP lx mx ly my (NX ((24 * g) + j)) (NY ((24 * g) + j))
def BNH (g : Int) (NX NY : Int → Int) (N lx mx ly my : Int) : Prop := BNN lx mx ly my g NX NY N
def bnT (lx mx ly my g r : Int) (NX NY A : Int → Int) (e : Int) : Prop := bnP lx mx ly my (NX ((24 * g) + A ((r + 267) + e))) (NY ((24 * g) + A ((r + 267) + e)))
def bnD (lx mx ly my g r : Int) (NX NY A : Int → Int) (e : Int) : Prop := bnP lx mx ly my (NX ((24 * g) + A ((r + 315) + e))) (NY ((24 * g) + A ((r + 315) + e)))
def bnB (lx mx ly my g : Int) (BX BY : Int → Int) (e k : Int) : Prop := bnP lx mx ly my (BX ((24 * ((48 * g) + e)) + k)) (BY ((24 * ((48 * g) + e)) + k))
def BNE (lx mx ly my g r : Int) (NX NY A BM BX BY : Int → Int) (E : Int) : Prop := BNN lx mx ly my g NX NY (A (r + 0)) ∧ ∀ e : Int, 0 ≤ e → e < E → bnT lx mx ly my g r NX NY A e ∧ bnD lx mx ly my g r NX NY A e ∧ ∀ k : Int, 0 ≤ k → k < BM ((48 * g) + e) → bnB lx mx ly my g BX BY e k
def BNK (lx mx ly my g r : Int) (NX NY A BM BX BY : Int → Int) (E K : Int) : Prop := BNE lx mx ly my g r NX NY A BM BX BY E ∧ (1 ≤ K → bnT lx mx ly my g r NX NY A E) ∧ (∀ k : Int, 0 ≤ k → k < K - 1 → k + 1 ≤ BM ((48 * g) + E) → bnB lx mx ly my g BX BY E k) ∧ (BM ((48 * g) + E) + 2 ≤ K → bnD lx mx ly my g r NX NY A E)
def BNI (g r : Int) (NX NY A BM BX BY : Int → Int) (E K lx mx ly my : Int) : Prop := BNK lx mx ly my g r NX NY A BM BX BY E K
def BNA (lx mx ly my g r : Int) (NX NY A BM BX BY : Int → Int) : Prop := BNE lx mx ly my g r NX NY A BM BX BY (A (r + 1))
theorem bnn_0 {lx mx ly my g N : Int} {NX NY : Int → Int} (h : N ≤ 0) : BNN lx mx ly my g NX NY N := fun j a b => by omega
theorem bnh_of {lx mx ly my g N a b c d : Int} {NX NY : Int → Int} (h : BNN lx mx ly my g NX NY N) (e1 : a = lx) (e2 : b = mx) (e3 : c = ly) (e4 : d = my) : BNH g NX NY N a b c d := by
  subst e1 e2 e3 e4; exact h
theorem bnn_step {lx mx ly my g N N' x y lx_zq mx_zq ly_zq my_zq : Int} {NX NY : Int → Int} (h : BNH g NX NY N lx mx ly my) (hx : x = NX ((24 * g) + N)) (hy : y = NY ((24 * g) + N)) (e : N' = N + 1) (a1 : lx_zq ≤ lx) (a2 : mx ≤ mx_zq) (a3 : ly_zq ≤ ly) (a4 : my ≤ my_zq) (b1 : lx_zq ≤ x) (b2 : x ≤ mx_zq) (b3 : ly_zq ≤ y) (b4 : y ≤ my_zq) : BNN lx_zq mx_zq ly_zq my_zq g NX NY N' := fun j p q => by
  by_cases hj : j < N
  · exact bnP_w (h j p hj) a1 a2 a3 a4
  · have : j = N := by omega
    subst this
    rw [← hx, ← hy]
    exact ⟨⟨b1, b2⟩, b3, b4⟩
theorem bne_0 {lx mx ly my g r N E : Int} {NX NY A BM BX BY : Int → Int} (h : BNN lx mx ly my g NX NY N) (hn : A (r + 0) ≤ N) (e : E = 0) : BNE lx mx ly my g r NX NY A BM BX BY E :=
  ⟨fun j p q => h j p (by omega), fun j p q => by omega⟩
theorem bnk_0 {lx mx ly my g r E K : Int} {NX NY A BM BX BY : Int → Int} (h : BNE lx mx ly my g r NX NY A BM BX BY E) (e : K = 0) (hb : 0 ≤ BM ((48 * g) + E)) : BNK lx mx ly my g r NX NY A BM BX BY E K :=
  ⟨h, fun z => by omega, fun k p q => by omega, fun z => by omega⟩
theorem bne_step {lx mx ly my g r E E_zq K : Int} {NX NY A BM BX BY : Int → Int} (h : BNK lx mx ly my g r NX NY A BM BX BY E K) (hk : BM ((48 * g) + E) + 2 ≤ K) (hb : 0 ≤ BM ((48 * g) + E)) (e : E_zq = E + 1) : BNE lx mx ly my g r NX NY A BM BX BY E_zq :=
  ⟨h.1.1, fun j p q => by
    by_cases hj : j < E
    · exact h.1.2 j p hj
    · have : j = E := by omega
      subst this
      exact ⟨h.2.1 (by omega), h.2.2.2 hk, fun k a b => h.2.2.1 k a (by omega) (by omega)⟩⟩
theorem bni_of {lx mx ly my g r E K a b c d : Int} {NX NY A BM BX BY : Int → Int} (h : BNK lx mx ly my g r NX NY A BM BX BY E K) (e1 : a = lx) (e2 : b = mx) (e3 : c = ly) (e4 : d = my) : BNI g r NX NY A BM BX BY E K a b c d := by
  subst e1 e2 e3 e4; exact h
theorem bnk_step {lx mx ly my g r E K K_zq x y lx_zq mx_zq ly_zq my_zq : Int} {NX NY A BM BX BY : Int → Int} (h : BNI g r NX NY A BM BX BY E K lx mx ly my)
    (x0 : (K = 0) → (x = NX ((24 * g) + A ((r + 267) + E)))) (x1 : (K = (BM ((48 * g) + E) + 1)) → (x = NX ((24 * g) + A ((r + 315) + E)))) (x2 : (K = 0) ∨ ((K = (BM ((48 * g) + E) + 1)) ∨ (x = BX ((24 * ((48 * g) + E)) + (K - 1)))))
    (y0 : (K = 0) → (y = NY ((24 * g) + A ((r + 267) + E)))) (y1 : (K = (BM ((48 * g) + E) + 1)) → (y = NY ((24 * g) + A ((r + 315) + E)))) (y2 : (K = 0) ∨ ((K = (BM ((48 * g) + E) + 1)) ∨ (y = BY ((24 * ((48 * g) + E)) + (K - 1)))))
    (e : K_zq = K + 1) (k0 : 0 ≤ K) (a1 : lx_zq ≤ lx) (a2 : mx ≤ mx_zq) (a3 : ly_zq ≤ ly) (a4 : my ≤ my_zq) (b1 : lx_zq ≤ x) (b2 : x ≤ mx_zq) (b3 : ly_zq ≤ y) (b4 : y ≤ my_zq) : BNK lx_zq mx_zq ly_zq my_zq g r NX NY A BM BX BY E K_zq := by
  have hp : bnP lx_zq mx_zq ly_zq my_zq x y := ⟨⟨b1, b2⟩, b3, b4⟩
  have W : ∀ {a b : Int}, bnP lx mx ly my a b → bnP lx_zq mx_zq ly_zq my_zq a b := fun z => bnP_w z a1 a2 a3 a4
  refine ⟨⟨fun j p q => W (h.1.1 j p q), fun j p q => ⟨W (h.1.2 j p q).1, W (h.1.2 j p q).2.1, fun k a b => W ((h.1.2 j p q).2.2 k a b)⟩⟩, fun z => ?_, fun k p q s => ?_, fun z => ?_⟩
  · by_cases hk : K = 0
    · have e1 := x0 hk
      have e2 := y0 hk
      rw [e1, e2] at hp; exact hp
    · exact W (h.2.1 (by omega))
  · by_cases hk : k < K - 1
    · exact W (h.2.2.1 k p hk s)
    · have ek : K - 1 = k := by omega
      have e1 : x = BX ((24 * ((48 * g) + E)) + (K - 1)) := by
        rcases x2 with z | z | z
        · omega
        · omega
        · exact z
      have e2 : y = BY ((24 * ((48 * g) + E)) + (K - 1)) := by
        rcases y2 with z | z | z
        · omega
        · omega
        · exact z
      rw [e1, e2, ek] at hp; exact hp
  · by_cases hk : BM ((48 * g) + E) + 2 ≤ K
    · exact W (h.2.2.2 hk)
    · have ek : K = BM ((48 * g) + E) + 1 := by omega
      have e1 := x1 ek
      have e2 := y1 ek
      rw [e1, e2] at hp; exact hp
theorem bna_of {lx mx ly my g r E : Int} {NX NY A BM BX BY : Int → Int} (h : BNE lx mx ly my g r NX NY A BM BX BY E) (he : A (r + 1) ≤ E) : BNA lx mx ly my g r NX NY A BM BX BY :=
  ⟨h.1, fun j p q => h.2 j p (by omega)⟩
theorem bna_n {lx mx ly my g r i : Int} {NX NY A BM BX BY : Int → Int} (h : BNA lx mx ly my g r NX NY A BM BX BY) (hi0 : 0 ≤ i) (hi : i < A (r + 0)) : bnP lx mx ly my (NX ((24 * g) + i)) (NY ((24 * g) + i)) := h.1 i hi0 hi
theorem bna_p {lx mx ly my g r e k c d a b : Int} {NX NY A BM BX BY : Int → Int} (h : BNA lx mx ly my g r NX NY A BM BX BY) (he : a ≤ e ∧ e ≤ b) (ha : 0 ≤ a) (hk : c ≤ k ∧ k ≤ d) (hc : 0 ≤ c) (he2 : 1 * e + ((-1) * A (r + 1) + 0) ≤ (-1)) (hk2 : k ≤ (BM ((48 * g) + e) + 1)) : bnT lx mx ly my g r NX NY A e ∧ bnD lx mx ly my g r NX NY A e ∧ (k ≠ 0 → k ≠ BM ((48 * g) + e) + 1 → bnB lx mx ly my g BX BY e (k - 1)) := by
  have q := h.2 e (by omega) (by omega)
  exact ⟨q.1, q.2.1, fun z1 z2 => q.2.2 (k - 1) (by omega) (by omega)⟩
theorem bna_x {lx mx ly my g r e k x c d a b : Int} {NX NY A BM BX BY : Int → Int} (h : BNA lx mx ly my g r NX NY A BM BX BY) (x0 : (k = 0) → (x = NX ((24 * g) + A ((r + 267) + e)))) (x1 : (k = (BM ((48 * g) + e) + 1)) → (x = NX ((24 * g) + A ((r + 315) + e)))) (x2 : (k = 0) ∨ ((k = (BM ((48 * g) + e) + 1)) ∨ (x = BX ((24 * ((48 * g) + e)) + (k - 1))))) (he2 : 1 * e + ((-1) * A (r + 1) + 0) ≤ (-1)) (hk2 : k ≤ (BM ((48 * g) + e) + 1)) (he : a ≤ e ∧ e ≤ b) (hk : c ≤ k ∧ k ≤ d) (ha : 0 ≤ a) (hc : 0 ≤ c) : 1 * lx + ((-1) * x + 0) ≤ 0 ∧ 1 * x + ((-1) * mx + 0) ≤ 0 := by
  obtain ⟨q1, q2, q3⟩ := bna_p h he ha hk hc he2 hk2
  have key : lx ≤ x ∧ x ≤ mx := by
    by_cases z0 : k = 0
    · rw [x0 z0]; exact q1.1
    · by_cases z1 : k = BM ((48 * g) + e) + 1
      · rw [x1 z1]; exact q2.1
      · rcases x2 with z | z | z
        · exact absurd z z0
        · exact absurd z z1
        · rw [z]; exact (q3 z0 z1).1
  exact ⟨by omega, by omega⟩
theorem bna_y {lx mx ly my g r e k y c d a b : Int} {NX NY A BM BX BY : Int → Int} (h : BNA lx mx ly my g r NX NY A BM BX BY) (x0 : (k = 0) → (y = NY ((24 * g) + A ((r + 267) + e)))) (x1 : (k = (BM ((48 * g) + e) + 1)) → (y = NY ((24 * g) + A ((r + 315) + e)))) (x2 : (k = 0) ∨ ((k = (BM ((48 * g) + e) + 1)) ∨ (y = BY ((24 * ((48 * g) + e)) + (k - 1))))) (he2 : 1 * e + ((-1) * A (r + 1) + 0) ≤ (-1)) (hk2 : k ≤ (BM ((48 * g) + e) + 1)) (he : a ≤ e ∧ e ≤ b) (hk : c ≤ k ∧ k ≤ d) (ha : 0 ≤ a) (hc : 0 ≤ c) : 1 * ly + ((-1) * y + 0) ≤ 0 ∧ 1 * y + ((-1) * my + 0) ≤ 0 := by
  obtain ⟨q1, q2, q3⟩ := bna_p h he ha hk hc he2 hk2
  have key : ly ≤ y ∧ y ≤ my := by
    by_cases z0 : k = 0
    · rw [x0 z0]; exact q1.2
    · by_cases z1 : k = BM ((48 * g) + e) + 1
      · rw [x1 z1]; exact q2.2
      · rcases x2 with z | z | z
        · exact absurd z z0
        · exact absurd z z1
        · rw [z]; exact (q3 z0 z1).2
  exact ⟨by omega, by omega⟩
theorem bna_nx {lx mx ly my g r i x : Int} {NX NY A BM BX BY : Int → Int} (h : BNA lx mx ly my g r NX NY A BM BX BY) (e : x = NX ((24 * g) + i)) (hi0 : 0 ≤ i) (hi : i < A (r + 0)) : 1 * lx + ((-1) * x + 0) ≤ 0 ∧ 1 * x + ((-1) * mx + 0) ≤ 0 := by
  have q := (bna_n h hi0 hi).1
  rw [← e] at q
  exact ⟨by omega, by omega⟩
theorem bna_ny {lx mx ly my g r i y : Int} {NX NY A BM BX BY : Int → Int} (h : BNA lx mx ly my g r NX NY A BM BX BY) (e : y = NY ((24 * g) + i)) (hi0 : 0 ≤ i) (hi : i < A (r + 0)) : 1 * ly + ((-1) * y + 0) ≤ 0 ∧ 1 * y + ((-1) * my + 0) ≤ 0 := by
  have q := (bna_n h hi0 hi).2
  rw [← e] at q
  exact ⟨by omega, by omega⟩
end
section
/-! the word node, exactly (Mo.word over its constant) -/
theorem wq_n1 {ft cu lm an : Int} {kd pl en tp : Int → Int} (h : Wqnode ft cu lm kd pl en tp an) : (an = 1) → ((ft = 0) ∧ ((kd cu = 1) ∧ ((en cu = (pl cu + 4)) ∧ (((pl cu + 4) ≤ lm) ∧ (((tp ((pl cu + 0)) % 256) = 110) ∧ (((tp ((pl cu + 1)) % 256) = 111) ∧ (((tp ((pl cu + 2)) % 256) = 100) ∧ ((tp ((pl cu + 3)) % 256) = 101)))))))) :=
  fun z => ⟨(h.1 z).1, wdS4.1 (h.1 z).2⟩
theorem wq_n2 {ft cu lm an : Int} {kd pl en tp : Int → Int} (h : Wqnode ft cu lm kd pl en tp an) : ((ft = 0) ∧ ((kd cu = 1) ∧ ((en cu = (pl cu + 4)) ∧ (((pl cu + 4) ≤ lm) ∧ (((tp ((pl cu + 0)) % 256) = 110) ∧ (((tp ((pl cu + 1)) % 256) = 111) ∧ (((tp ((pl cu + 2)) % 256) = 100) ∧ ((tp ((pl cu + 3)) % 256) = 101)))))))) → (an = 1) :=
  fun z => h.2 ⟨z.1, wdS4.2 z.2⟩
/-! what the parser wants at a place: a fault, or one token further -/
theorem snd_dj {ft cu a c0 f0 : Int} {kd tv : Int → Int} (h : SND ft cu kd tv a c0 f0) : ft ≠ 0 ∨ cu = c0 + 1 := by
  by_cases e : ft = 0
  · by_cases h0 : f0 = 0
    · have q := h.1 h0
      unfold ndO at q
      rw [rsO_0 e] at q
      by_cases hs : sgS kd tv c0 a
      · rw [if_pos hs] at q
        exact Or.inr (Option.some.inj q).symm
      · rw [if_neg hs] at q
        cases q
    · exact Or.inl (h.2 h0)
  · exact Or.inl e
end
section
/-! the heights of the house's drawings -/
theorem hy_le {w : va_W} {H : Value} {n m : Int} (h : HY w H n) (hm : n ≤ m) : HY w H m := ⟨h.1, fun g hg d hd v v0 v1 => by
  have := h.2 g hg d hd v v0 v1; omega⟩
theorem hy_pO {w0 w1 : va_W} {H : Value} {A I : Nat} {V : Int} (s : (∀ b j, w_el w1 b j = if b = A ∧ j = I then V else w_el w0 b j) ∧ ∀ b k, w_fd w1 b k = w_fd w0 b k) (hne : A ≠ w_ar w0 H 3) (g : Nat) : pO w1 H 3 g = pO w0 H 3 g := by
  have e : w_ar w1 H 3 = w_ar w0 H 3 := by unfold w_ar; rw [s.2]
  unfold pO
  rw [e, s.1, if_neg (fun q => hne q.1.symm)]
theorem hy_pO0 {w0 w1 : va_W} {H : Value} {A I : Nat} {V : Int} (s : (∀ b j, w_el w1 b j = if b = A ∧ j = I then V else w_el w0 b j) ∧ ∀ b k, w_fd w1 b k = w_fd w0 b k) (hne : A ≠ w_ar w0 H 0) (g : Nat) : pO w1 H 0 g = pO w0 H 0 g := by
  have e : w_ar w1 H 0 = w_ar w0 H 0 := by unfold w_ar; rw [s.2]
  unfold pO
  rw [e, s.1, if_neg (fun q => hne q.1.symm)]
/-- a height that is stored -/
theorem hy_st {w0 w1 : va_W} {H : Value} {n : Int} {A I : Nat} {V : Int} (h : HY w0 H n) (s : (∀ b j, w_el w1 b j = if b = A ∧ j = I then V else w_el w0 b j) ∧ ∀ b k, w_fd w1 b k = w_fd w0 b k) (hne : A ≠ w_ar w0 H 3) (hn0 : A ≠ w_ar w0 H 0) (v0 : -1000000 ≤ V) (v1 : V ≤ 70000000 + 200000 * n) : HY w1 H n := ⟨fun g hg => by rw [hy_pO s hne, hy_pO0 s hn0, s.2]; exact h.1 g hg, fun g hg d hd v a b => by
  rw [hy_pO s hne, s.2] at hd
  have e : w_ei w1 d v = if d = A ∧ v.toNat = I then V else w_ei w0 d v := s.1 d v.toNat
  rw [e]
  split
  · exact ⟨v0, v1⟩
  · exact h.2 g hg d hd v a b⟩
theorem hyd_st {w0 w1 : va_W} {H x : Value} {A I : Nat} {V : Int} (h : HYD w0 H x) (s : (∀ b j, w_el w1 b j = if b = A ∧ j = I then V else w_el w0 b j) ∧ ∀ b k, w_fd w1 b k = w_fd w0 b k) (hne : A ≠ w_ar w0 H 3) : HYD w1 H x := by
  obtain ⟨g, hg, e⟩ := h
  exact ⟨g, hg, by rw [hy_pO s hne]; exact e⟩
/-- an array of heights is not the array of the drawings -/
theorem hy_ne {kA : Nat → ClassId} {G : List rg_T} {A : Nat → Prop} {ta : Nat → Option Nat} {w0 w1 : va_W} {H : Value} {a r ra k : Nat} {g : rg_T} {t : tv_T} (hD : va_D A w1) (hth : th_ok kA G ta w1) (hr : ta (v_ad H) = some r) (hg : G[r]? = some g) (h10 : 10 ≤ g.1) (hk : g.2.2.2.2[k]? = some t) (h2 : t.1 = 2) (ha : ta a = some ra) (hn : ra ∉ t.2.2.2) (s : ∀ b k, w_fd w1 b k = w_fd w0 b k) : a ≠ w_ar w0 H k := by
  intro e
  have q := th_fd hD hth hr hg hk (decide_eq_true h10)
  obtain ⟨c, r2, e1, e2, e3⟩ := tv_ref q h2
  have e4 : w_ar w0 H k = c := by unfold w_ar; rw [← s, e1]; rfl
  rw [e, e4, e2] at ha
  exact hn (by rw [← Option.some.inj ha]; exact e3)
theorem hy_use {w : va_W} {H x : Value} {n : Int} (h : HY w H n) (hd : HYD w H x) (hx : ∃ c, w_fd w (v_ad x) 3 = .ref c) : DYB (w_ei w (w_ar w x 3)) n := by
  obtain ⟨g, hg, e⟩ := hd
  obtain ⟨c, hc⟩ := hx
  have e2 : w_ar w x 3 = c := by unfold w_ar; rw [hc]; rfl
  rw [e] at hc
  rw [e2]
  exact fun v a b => h.2 g hg c hc v a b
/-- a drawing taken out of the house's array -/
theorem hyd_of {w : va_W} {H a x g : Value} (ha : a = w_fd w (v_ad H) 3) (hx : ((v_ad x : Nat) : Int) = w_el w (v_ad a) (v_iv g).toNat) (g0 : 0 ≤ v_iv g) (g1 : v_iv g < 4) : HYD w H x := by
  refine ⟨(v_iv g).toNat, by omega, ?_⟩
  unfold pO w_ar
  rw [← ha, ← hx]
  omega
/-- a drawing taken out of the house's array, with its place -/
theorem hyp_of {w : va_W} {H a x g : Value} (ha : a = w_fd w (v_ad H) 3) (hx : ((v_ad x : Nat) : Int) = w_el w (v_ad a) (v_iv g).toNat) (g0 : 0 ≤ v_iv g) (g1 : v_iv g < 4) : HYP w H x g := by
  refine ⟨⟨g0, g1⟩, ?_⟩
  unfold pO w_ar
  rw [← ha, ← hx]
  omega
/-- a drawing's graph is the graph of its place -/
theorem hdg_eq {w : va_W} {H b d x y g : Value} {n : Int} (h : HY w H n) (hp : HYP w H d g) (hb : b = w_fd w (v_ad H) 0) (hx : ((v_ad x : Nat) : Int) = w_el w (v_ad b) (v_iv g).toNat) (hy : y = w_fd w (v_ad d) 0) (hr : ∃ c, x = .ref c) : y = x := by
  obtain ⟨c, rfl⟩ := hr
  obtain ⟨⟨g0, g1⟩, pd⟩ := hp
  have e := h.1 (v_iv g).toNat (by omega)
  have px : pO w H 0 (v_iv g).toNat = c := by
    unfold pO w_ar
    rw [← hb, ← hx]
    show ((c : Nat) : Int).toNat = c
    omega
  rw [← pd, px] at e
  rw [hy, e]
end
