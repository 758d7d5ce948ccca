section
-- style sheets of the reference: words, and the rules as they go on
/-- a word's answer -/
def WDQ (s : List Int) (ft cu lm : Int) (kd pl en tp : Int → Int) (an : Int) : Prop := an = 1 ↔ ft = 0 ∧ wdS lm kd pl en tp s cu
def Wqnode (ft cu lm : Int) (kd pl en tp : Int → Int) (an : Int) : Prop := WDQ [110, 111, 100, 101] ft cu lm kd pl en tp an
def Wqedge (ft cu lm : Int) (kd pl en tp : Int → Int) (an : Int) : Prop := WDQ [101, 100, 103, 101] ft cu lm kd pl en tp an
def Wqif (ft cu lm : Int) (kd pl en tp : Int → Int) (an : Int) : Prop := WDQ [105, 102] ft cu lm kd pl en tp an
def Wqcolor (ft cu lm : Int) (kd pl en tp : Int → Int) (an : Int) : Prop := WDQ [99, 111, 108, 111, 114] ft cu lm kd pl en tp an
def Wqwidth (ft cu lm : Int) (kd pl en tp : Int → Int) (an : Int) : Prop := WDQ [119, 105, 100, 116, 104] ft cu lm kd pl en tp an
def Wqform (ft cu lm : Int) (kd pl en tp : Int → Int) (an : Int) : Prop := WDQ [102, 111, 114, 109] ft cu lm kd pl en tp an
def Wqor (ft cu lm : Int) (kd pl en tp : Int → Int) (an : Int) : Prop := WDQ [111, 114] ft cu lm kd pl en tp an
def Wqand (ft cu lm : Int) (kd pl en tp : Int → Int) (an : Int) : Prop := WDQ [97, 110, 100] ft cu lm kd pl en tp an
def Wqnot (ft cu lm : Int) (kd pl en tp : Int → Int) (an : Int) : Prop := WDQ [110, 111, 116] ft cu lm kd pl en tp an
def Wqdeg (ft cu lm : Int) (kd pl en tp : Int → Int) (an : Int) : Prop := WDQ [100, 101, 103] ft cu lm kd pl en tp an
def Wqin (ft cu lm : Int) (kd pl en tp : Int → Int) (an : Int) : Prop := WDQ [105, 110] ft cu lm kd pl en tp an
def Wqout (ft cu lm : Int) (kd pl en tp : Int → Int) (an : Int) : Prop := WDQ [111, 117, 116] ft cu lm kd pl en tp an
def Wqsize (ft cu lm : Int) (kd pl en tp : Int → Int) (an : Int) : Prop := WDQ [115, 105, 122, 101] ft cu lm kd pl en tp an
def Wqgroup (ft cu lm : Int) (kd pl en tp : Int → Int) (an : Int) : Prop := WDQ [103, 114, 111, 117, 112] ft cu lm kd pl en tp an
def Wqfar (ft cu lm : Int) (kd pl en tp : Int → Int) (an : Int) : Prop := WDQ [102, 97, 114] ft cu lm kd pl en tp an
def Wqcore (ft cu lm : Int) (kd pl en tp : Int → Int) (an : Int) : Prop := WDQ [99, 111, 114, 101] ft cu lm kd pl en tp an
def Wqcut (ft cu lm : Int) (kd pl en tp : Int → Int) (an : Int) : Prop := WDQ [99, 117, 116] ft cu lm kd pl en tp an
def Wqx (ft cu lm : Int) (kd pl en tp : Int → Int) (an : Int) : Prop := WDQ [120] ft cu lm kd pl en tp an
def Wqy (ft cu lm : Int) (kd pl en tp : Int → Int) (an : Int) : Prop := WDQ [121] ft cu lm kd pl en tp an
def Wqweight (ft cu lm : Int) (kd pl en tp : Int → Int) (an : Int) : Prop := WDQ [119, 101, 105, 103, 104, 116] ft cu lm kd pl en tp an
def Wqturned (ft cu lm : Int) (kd pl en tp : Int → Int) (an : Int) : Prop := WDQ [116, 117, 114, 110, 101, 100] ft cu lm kd pl en tp an
def Wqbridge (ft cu lm : Int) (kd pl en tp : Int → Int) (an : Int) : Prop := WDQ [98, 114, 105, 100, 103, 101] ft cu lm kd pl en tp an
def Wqfrom (ft cu lm : Int) (kd pl en tp : Int → Int) (an : Int) : Prop := WDQ [102, 114, 111, 109] ft cu lm kd pl en tp an
def Wqto (ft cu lm : Int) (kd pl en tp : Int → Int) (an : Int) : Prop := WDQ [116, 111] ft cu lm kd pl en tp an
def Wqblock (ft cu lm : Int) (kd pl en tp : Int → Int) (an : Int) : Prop := WDQ [98, 108, 111, 99, 107] ft cu lm kd pl en tp an
def Wqlong (ft cu lm : Int) (kd pl en tp : Int → Int) (an : Int) : Prop := WDQ [108, 111, 110, 103] ft cu lm kd pl en tp an
def Wqone (ft cu lm : Int) (kd pl en tp : Int → Int) (an : Int) : Prop := WDQ [111, 110, 101] ft cu lm kd pl en tp an
theorem wdS1 {lm c a0 : Int} {kd pl en tp : Int → Int} : wdS lm kd pl en tp [a0] c ↔ kd c = 1 ∧ en c = pl c + 1 ∧ pl c + 1 ≤ lm ∧ tp (pl c + 0) % 256 = a0 := by
  constructor
  · rintro ⟨h1, h2, h3, h4⟩; exact ⟨h1, h2, h3, h4 0 (by show 0 < 1; omega)⟩
  · rintro ⟨h1, h2, h3, q0⟩
    refine ⟨h1, h2, h3, fun i hi => ?_⟩
    match i, hi with
    | 0, _ => exact q0
    | k + 1, h => exact absurd (show k + 1 < 1 from h) (by omega)
theorem wdS2 {lm c a0 a1 : Int} {kd pl en tp : Int → Int} : wdS lm kd pl en tp [a0, a1] c ↔ kd c = 1 ∧ en c = pl c + 2 ∧ pl c + 2 ≤ lm ∧ tp (pl c + 0) % 256 = a0 ∧ tp (pl c + 1) % 256 = a1 := by
  constructor
  · rintro ⟨h1, h2, h3, h4⟩; exact ⟨h1, h2, h3, h4 0 (by show 0 < 2; omega), h4 1 (by show 1 < 2; omega)⟩
  · rintro ⟨h1, h2, h3, q0, q1⟩
    refine ⟨h1, h2, h3, fun i hi => ?_⟩
    match i, hi with
    | 0, _ => exact q0
    | 1, _ => exact q1
    | k + 2, h => exact absurd (show k + 2 < 2 from h) (by omega)
theorem wdS3 {lm c a0 a1 a2 : Int} {kd pl en tp : Int → Int} : wdS lm kd pl en tp [a0, a1, a2] c ↔ kd c = 1 ∧ en c = pl c + 3 ∧ pl c + 3 ≤ lm ∧ tp (pl c + 0) % 256 = a0 ∧ tp (pl c + 1) % 256 = a1 ∧ tp (pl c + 2) % 256 = a2 := by
  constructor
  · rintro ⟨h1, h2, h3, h4⟩; exact ⟨h1, h2, h3, h4 0 (by show 0 < 3; omega), h4 1 (by show 1 < 3; omega), h4 2 (by show 2 < 3; omega)⟩
  · rintro ⟨h1, h2, h3, q0, q1, q2⟩
    refine ⟨h1, h2, h3, fun i hi => ?_⟩
    match i, hi with
    | 0, _ => exact q0
    | 1, _ => exact q1
    | 2, _ => exact q2
    | k + 3, h => exact absurd (show k + 3 < 3 from h) (by omega)
theorem wdS4 {lm c a0 a1 a2 a3 : Int} {kd pl en tp : Int → Int} : wdS lm kd pl en tp [a0, a1, a2, a3] c ↔ kd c = 1 ∧ en c = pl c + 4 ∧ pl c + 4 ≤ lm ∧ tp (pl c + 0) % 256 = a0 ∧ tp (pl c + 1) % 256 = a1 ∧ tp (pl c + 2) % 256 = a2 ∧ tp (pl c + 3) % 256 = a3 := by
  constructor
  · rintro ⟨h1, h2, h3, h4⟩; exact ⟨h1, h2, h3, h4 0 (by show 0 < 4; omega), h4 1 (by show 1 < 4; omega), h4 2 (by show 2 < 4; omega), h4 3 (by show 3 < 4; omega)⟩
  · rintro ⟨h1, h2, h3, q0, q1, q2, q3⟩
    refine ⟨h1, h2, h3, fun i hi => ?_⟩
    match i, hi with
    | 0, _ => exact q0
    | 1, _ => exact q1
    | 2, _ => exact q2
    | 3, _ => exact q3
    | k + 4, h => exact absurd (show k + 4 < 4 from h) (by omega)
theorem wdS5 {lm c a0 a1 a2 a3 a4 : Int} {kd pl en tp : Int → Int} : wdS lm kd pl en tp [a0, a1, a2, a3, a4] c ↔ kd c = 1 ∧ en c = pl c + 5 ∧ pl c + 5 ≤ lm ∧ tp (pl c + 0) % 256 = a0 ∧ tp (pl c + 1) % 256 = a1 ∧ tp (pl c + 2) % 256 = a2 ∧ tp (pl c + 3) % 256 = a3 ∧ tp (pl c + 4) % 256 = a4 := by
  constructor
  · rintro ⟨h1, h2, h3, h4⟩; exact ⟨h1, h2, h3, h4 0 (by show 0 < 5; omega), h4 1 (by show 1 < 5; omega), h4 2 (by show 2 < 5; omega), h4 3 (by show 3 < 5; omega), h4 4 (by show 4 < 5; omega)⟩
  · rintro ⟨h1, h2, h3, q0, q1, q2, q3, q4⟩
    refine ⟨h1, h2, h3, fun i hi => ?_⟩
    match i, hi with
    | 0, _ => exact q0
    | 1, _ => exact q1
    | 2, _ => exact q2
    | 3, _ => exact q3
    | 4, _ => exact q4
    | k + 5, h => exact absurd (show k + 5 < 5 from h) (by omega)
theorem wdS6 {lm c a0 a1 a2 a3 a4 a5 : Int} {kd pl en tp : Int → Int} : wdS lm kd pl en tp [a0, a1, a2, a3, a4, a5] c ↔ kd c = 1 ∧ en c = pl c + 6 ∧ pl c + 6 ≤ lm ∧ tp (pl c + 0) % 256 = a0 ∧ tp (pl c + 1) % 256 = a1 ∧ tp (pl c + 2) % 256 = a2 ∧ tp (pl c + 3) % 256 = a3 ∧ tp (pl c + 4) % 256 = a4 ∧ tp (pl c + 5) % 256 = a5 := by
  constructor
  · rintro ⟨h1, h2, h3, h4⟩; exact ⟨h1, h2, h3, h4 0 (by show 0 < 6; omega), h4 1 (by show 1 < 6; omega), h4 2 (by show 2 < 6; omega), h4 3 (by show 3 < 6; omega), h4 4 (by show 4 < 6; omega), h4 5 (by show 5 < 6; omega)⟩
  · rintro ⟨h1, h2, h3, q0, q1, q2, q3, q4, q5⟩
    refine ⟨h1, h2, h3, fun i hi => ?_⟩
    match i, hi with
    | 0, _ => exact q0
    | 1, _ => exact q1
    | 2, _ => exact q2
    | 3, _ => exact q3
    | 4, _ => exact q4
    | 5, _ => exact q5
    | k + 6, h => exact absurd (show k + 6 < 6 from h) (by omega)
theorem wdq_n {s : List Int} {ft cu lm an : Int} {kd pl en tp : Int → Int} (h : WDQ s ft cu lm kd pl en tp an) (e : an ≠ 1) : ¬ (ft = 0 ∧ wdS lm kd pl en tp s cu) := fun z => e (h.2 z)
theorem wdq_y {s : List Int} {ft cu lm an : Int} {kd pl en tp : Int → Int} (h : WDQ s ft cu lm kd pl en tp an) (e : an = 1) : ft = 0 ∧ wdS lm kd pl en tp s cu := h.1 e
/-- words of nodes and of edges -/
def NWQ (ft cu lm : Int) (kd pl en tp : Int → Int) (an : Int) : Prop := 0 ≤ an ↔ ft = 0 ∧ iwS 0 lm kd pl en tp cu
def EWQ (ft cu lm : Int) (kd pl en tp : Int → Int) (an : Int) : Prop := 0 ≤ an ↔ ft = 0 ∧ iwS 1 lm kd pl en tp cu
theorem iws_0 {kn lm c : Int} {kd pl en tp : Int → Int} (h : kn = 0) : iwS kn lm kd pl en tp c ↔ iwS 0 lm kd pl en tp c := by rw [h]
theorem iws_1 {kn lm c : Int} {kd pl en tp : Int → Int} (h : kn ≠ 0) : iwS kn lm kd pl en tp c ↔ iwS 1 lm kd pl en tp c := by
  unfold iwS; rw [if_neg h, if_neg (show ¬ (1 : Int) = 0 by omega)]
theorem nwq_yes {s : List Int} {ft cu lm b an : Int} {kd pl en tp : Int → Int} (hs : s ∈ nwS) (h : WDQ s ft cu lm kd pl en tp b) (e : b = 1) (e2 : 0 ≤ an) : NWQ ft cu lm kd pl en tp an := ⟨fun _ => ⟨(h.1 e).1, s, by rw [if_pos rfl]; exact hs, (h.1 e).2⟩, fun _ => e2⟩
theorem ewq_yes {s : List Int} {ft cu lm b an : Int} {kd pl en tp : Int → Int} (hs : s ∈ ewS) (h : WDQ s ft cu lm kd pl en tp b) (e : b = 1) (e2 : 0 ≤ an) : EWQ ft cu lm kd pl en tp an := ⟨fun _ => ⟨(h.1 e).1, s, by rw [if_neg (show ¬ (1 : Int) = 0 by omega)]; exact hs, (h.1 e).2⟩, fun _ => e2⟩
theorem nwq_no {ft cu lm an b0 b1 b2 b3 b4 b5 b6 b7 b8 b9 : Int} {kd pl en tp : Int → Int} (h0 : WDQ [100, 101, 103] ft cu lm kd pl en tp b0) (e0 : b0 ≠ 1) (h1 : WDQ [105, 110] ft cu lm kd pl en tp b1) (e1 : b1 ≠ 1) (h2 : WDQ [111, 117, 116] ft cu lm kd pl en tp b2) (e2 : b2 ≠ 1) (h3 : WDQ [115, 105, 122, 101] ft cu lm kd pl en tp b3) (e3 : b3 ≠ 1) (h4 : WDQ [103, 114, 111, 117, 112] ft cu lm kd pl en tp b4) (e4 : b4 ≠ 1) (h5 : WDQ [102, 97, 114] ft cu lm kd pl en tp b5) (e5 : b5 ≠ 1) (h6 : WDQ [99, 111, 114, 101] ft cu lm kd pl en tp b6) (e6 : b6 ≠ 1) (h7 : WDQ [99, 117, 116] ft cu lm kd pl en tp b7) (e7 : b7 ≠ 1) (h8 : WDQ [120] ft cu lm kd pl en tp b8) (e8 : b8 ≠ 1) (h9 : WDQ [121] ft cu lm kd pl en tp b9) (e9 : b9 ≠ 1) (e : an < 0) : NWQ ft cu lm kd pl en tp an := by
  refine ⟨fun z => by omega, fun z => ?_⟩
  obtain ⟨z0, s, hs, hw⟩ := z
  rw [if_pos rfl] at hs
  simp only [nwS, List.mem_cons, List.not_mem_nil, or_false] at hs
  rcases hs with rfl | rfl | rfl | rfl | rfl | rfl | rfl | rfl | rfl | rfl
  · exact absurd ⟨z0, hw⟩ (wdq_n h0 e0)
  · exact absurd ⟨z0, hw⟩ (wdq_n h1 e1)
  · exact absurd ⟨z0, hw⟩ (wdq_n h2 e2)
  · exact absurd ⟨z0, hw⟩ (wdq_n h3 e3)
  · exact absurd ⟨z0, hw⟩ (wdq_n h4 e4)
  · exact absurd ⟨z0, hw⟩ (wdq_n h5 e5)
  · exact absurd ⟨z0, hw⟩ (wdq_n h6 e6)
  · exact absurd ⟨z0, hw⟩ (wdq_n h7 e7)
  · exact absurd ⟨z0, hw⟩ (wdq_n h8 e8)
  · exact absurd ⟨z0, hw⟩ (wdq_n h9 e9)
theorem ewq_no {ft cu lm an b0 b1 b2 b3 b4 b5 b6 b7 : Int} {kd pl en tp : Int → Int} (h0 : WDQ [119, 101, 105, 103, 104, 116] ft cu lm kd pl en tp b0) (e0 : b0 ≠ 1) (h1 : WDQ [116, 117, 114, 110, 101, 100] ft cu lm kd pl en tp b1) (e1 : b1 ≠ 1) (h2 : WDQ [98, 114, 105, 100, 103, 101] ft cu lm kd pl en tp b2) (e2 : b2 ≠ 1) (h3 : WDQ [102, 114, 111, 109] ft cu lm kd pl en tp b3) (e3 : b3 ≠ 1) (h4 : WDQ [116, 111] ft cu lm kd pl en tp b4) (e4 : b4 ≠ 1) (h5 : WDQ [98, 108, 111, 99, 107] ft cu lm kd pl en tp b5) (e5 : b5 ≠ 1) (h6 : WDQ [108, 111, 110, 103] ft cu lm kd pl en tp b6) (e6 : b6 ≠ 1) (h7 : WDQ [111, 110, 101] ft cu lm kd pl en tp b7) (e7 : b7 ≠ 1) (e : an < 0) : EWQ ft cu lm kd pl en tp an := by
  refine ⟨fun z => by omega, fun z => ?_⟩
  obtain ⟨z0, s, hs, hw⟩ := z
  rw [if_neg (show ¬ (1 : Int) = 0 by omega)] at hs
  simp only [ewS, List.mem_cons, List.not_mem_nil, or_false] at hs
  rcases hs with rfl | rfl | rfl | rfl | rfl | rfl | rfl | rfl
  · exact absurd ⟨z0, hw⟩ (wdq_n h0 e0)
  · exact absurd ⟨z0, hw⟩ (wdq_n h1 e1)
  · exact absurd ⟨z0, hw⟩ (wdq_n h2 e2)
  · exact absurd ⟨z0, hw⟩ (wdq_n h3 e3)
  · exact absurd ⟨z0, hw⟩ (wdq_n h4 e4)
  · exact absurd ⟨z0, hw⟩ (wdq_n h5 e5)
  · exact absurd ⟨z0, hw⟩ (wdq_n h6 e6)
  · exact absurd ⟨z0, hw⟩ (wdq_n h7 e7)
/-- what is still to come: values -/
def SV2 (kn lm : Int) (kd tv pl en tp : Int → Int) (c f c0 f0 op : Int) : Prop := ∀ ft cu, SND ft cu kd tv 41 c f → SVL ft cu kn lm kd tv pl en tp c0 f0 op
def SV1 (kn lm : Int) (kd tv pl en tp : Int → Int) (c f o c0 f0 op : Int) : Prop := ∀ ft cu, SSM ft cu kn lm kd tv pl en tp c f o → SV2 kn lm kd tv pl en tp cu ft c0 f0 op
def SV4 (kn lm : Int) (kd tv pl en tp : Int → Int) (c0 f0 op : Int) : Prop := f0 = 0 ∧ fVL op kn lm kd tv pl en tp c0 = none
theorem sv1_of {kn lm c f o c0 f0 op c_zq : Int} {kd tv pl en tp : Int → Int} (hs : sgS kd tv c_zq 40) (ec : c_zq = c0) (h0 : f0 = 0) (e1 : c = c0 + 1) (o1 : o = op + 1) (hf : 12 ≤ op → f ≠ 0) (hf0 : op ≤ 11 → f = 0) : SV1 kn lm kd tv pl en tp c f o c0 f0 op := by
  subst ec
  exact fun ft cu h ft_zq cu_zq g => svl_open hs o1 hf hf0 e1 h g h0
theorem sv1_go {kn lm c f o c0 f0 op ft cu c_zq f_zq : Int} {kd tv pl en tp : Int → Int} (h : SV1 kn lm kd tv pl en tp c f o c0 f0 op) (g : SSM ft cu kn lm kd tv pl en tp c f o) (e1 : c_zq = cu) (e2 : f_zq = ft) : SV2 kn lm kd tv pl en tp c_zq f_zq c0 f0 op := by subst e1; subst e2; exact h _ _ g
theorem sv2_go {kn lm c f c0 f0 op ft cu a4 : Int} {kd tv pl en tp : Int → Int} (h : SV2 kn lm kd tv pl en tp c f c0 f0 op) (g : SND ft cu kd tv a4 c f) (e : a4 = 41) : SVL ft cu kn lm kd tv pl en tp c0 f0 op := by subst e; exact h _ _ g
theorem sv4_of {kn lm c0 f0 op c_zq : Int} {kd tv pl en tp : Int → Int} (h0 : f0 = 0) (ec : c_zq = c0) (hk : kd c_zq ≠ 2) (hs : ¬ sgS kd tv c_zq 40) (hw : ¬ iwS kn lm kd pl en tp c_zq) : SV4 kn lm kd tv pl en tp c0 f0 op := by
  subst ec
  refine ⟨h0, ?_⟩
  unfold fVL vlO
  rw [if_neg hk, if_neg hs, if_neg hw]
theorem sv4_go {kn lm c0 f0 op ft cu : Int} {kd tv pl en tp : Int → Int} (h : SV4 kn lm kd tv pl en tp c0 f0 op) (e : ft ≠ 0) : SVL ft cu kn lm kd tv pl en tp c0 f0 op := ⟨fun _ => by rw [h.2, rsO_1 e], fun _ => e⟩
theorem iws_k {kn lm c : Int} {kd pl en tp : Int → Int} (h : iwS kn lm kd pl en tp c) : kd c = 1 := by
  obtain ⟨s, _, hw⟩ := h; exact hw.1
/-- what is still to come: one test -/
def ON1 (kn lm : Int) (kd tv pl en tp : Int → Int) (c f o c0 f0 op : Int) : Prop := ∀ ft cu, SON ft cu kn lm kd tv pl en tp c f o → SON ft cu kn lm kd tv pl en tp c0 f0 op
def OT2 (kn lm : Int) (kd tv pl en tp : Int → Int) (c f c0 f0 op : Int) : Prop := ∀ ft cu, SND ft cu kd tv 125 c f → SON ft cu kn lm kd tv pl en tp c0 f0 op
def OT1 (kn lm : Int) (kd tv pl en tp : Int → Int) (c f o c0 f0 op : Int) : Prop := ∀ ft cu, STE ft cu kn lm kd tv pl en tp c f o → OT2 kn lm kd tv pl en tp cu ft c0 f0 op
noncomputable def oSM (op kn lm : Int) (kd tv pl en tp : Int → Int) (d : Int) : Option Int := @ite _ (sgS kd tv d 60 ∨ sgS kd tv d 61 ∨ sgS kd tv d 62) (Classical.propDecidable _) (fSM op kn lm kd tv pl en tp (d + 1)) none
def OS2 (ft cu kn lm : Int) (kd tv pl en tp : Int → Int) (c0 f0 op : Int) : Prop := f0 = 0 ∧ fON op kn lm kd tv pl en tp c0 = if ft = 0 then oSM op kn lm kd tv pl en tp cu else none
def OS1 (kn lm : Int) (kd tv pl en tp : Int → Int) (c f o c0 f0 op : Int) : Prop := ∀ ft cu, SSM ft cu kn lm kd tv pl en tp c f o → OS2 ft cu kn lm kd tv pl en tp c0 f0 op
def OS3 (kn lm : Int) (kd tv pl en tp : Int → Int) (c f o c0 f0 op : Int) : Prop := ∀ ft cu, SSM ft cu kn lm kd tv pl en tp c f o → SON ft cu kn lm kd tv pl en tp c0 f0 op
def OS4 (kn lm : Int) (kd tv pl en tp : Int → Int) (c0 f0 op : Int) : Prop := f0 = 0 ∧ fON op kn lm kd tv pl en tp c0 = none
theorem on_fault {ft cu op kn lm c0 f0 : Int} {kd tv pl en tp : Int → Int} (h : f0 ≠ 0) (e : ft = f0) : SON ft cu kn lm kd tv pl en tp c0 f0 op := ⟨fun z => absurd z h, fun _ => by rw [e]; exact h⟩
theorem on1_of {kn lm c f o c0 f0 op c_zq : Int} {kd tv pl en tp : Int → Int} (hs : wdS lm kd pl en tp [110, 111, 116] c_zq) (ec : c_zq = c0) (h0 : f0 = 0) (e1 : c = c0 + 1) (o1 : o = op + 1) (hf : 12 ≤ op → f ≠ 0) (hf0 : op ≤ 11 → f = 0) : ON1 kn lm kd tv pl en tp c f o c0 f0 op := by
  subst ec
  refine fun ft cu h => ⟨fun _ => ?_, fun z => absurd h0 z⟩
  unfold fON oneO
  rw [if_pos hs]
  by_cases z : op ≤ 11
  · rw [lvS_in z o1, ← e1]; exact h.1 (hf0 z)
  · rw [lvS_0 (by omega), rsO_1 (h.2 (hf (by omega)))]
theorem on1_go {kn lm c f o c0 f0 op ft cu : Int} {kd tv pl en tp : Int → Int} (h : ON1 kn lm kd tv pl en tp c f o c0 f0 op) (g : SON ft cu kn lm kd tv pl en tp c f o) : SON ft cu kn lm kd tv pl en tp c0 f0 op := h _ _ g
theorem ot1_of {kn lm c f o c0 f0 op c_zq : Int} {kd tv pl en tp : Int → Int} (hs : sgS kd tv c_zq 123) (ec : c_zq = c0) (h0 : f0 = 0) (e1 : c = c0 + 1) (o1 : o = op + 1) (hf : 12 ≤ op → f ≠ 0) (hf0 : op ≤ 11 → f = 0) : OT1 kn lm kd tv pl en tp c f o c0 f0 op := by
  subst ec
  refine fun ft cu h ft_zq cu_zq g => ⟨fun _ => ?_, fun z => absurd h0 z⟩
  unfold fON oneO
  rw [if_neg (fun z => by have := z.1; have := hs.1; omega), if_pos hs]
  by_cases z : op ≤ 11
  · rw [lvS_in z o1]
    have b := (ctr_bind h g).1 (hf0 z)
    rw [← e1]; exact b
  · rw [lvS_0 (by omega), rsO_1 (g.2 (h.2 (hf (by omega))))]; rfl
theorem ot1_go {kn lm c f o c0 f0 op ft cu c_zq f_zq : Int} {kd tv pl en tp : Int → Int} (h : OT1 kn lm kd tv pl en tp c f o c0 f0 op) (g : STE ft cu kn lm kd tv pl en tp c f o) (e1 : c_zq = cu) (e2 : f_zq = ft) : OT2 kn lm kd tv pl en tp c_zq f_zq c0 f0 op := by subst e1; subst e2; exact h _ _ g
theorem ot2_go {kn lm c f c0 f0 op ft cu a4 : Int} {kd tv pl en tp : Int → Int} (h : OT2 kn lm kd tv pl en tp c f c0 f0 op) (g : SND ft cu kd tv a4 c f) (e : a4 = 125) : SON ft cu kn lm kd tv pl en tp c0 f0 op := by subst e; exact h _ _ g
theorem os1_of {kn lm c f o c0 f0 op : Int} {kd tv pl en tp : Int → Int} (hn : ¬ wdS lm kd pl en tp [110, 111, 116] c0) (hs : ¬ sgS kd tv c0 123) (h0 : f0 = 0) (e1 : c = c0) (e2 : f = f0) (o1 : o = op) : OS1 kn lm kd tv pl en tp c f o c0 f0 op := by
  subst e1; subst e2; subst o1
  refine fun ft cu h => ⟨h0, ?_⟩
  unfold fON oneO
  rw [if_neg hn, if_neg hs]
  have b := h.1 h0
  unfold fSM at b
  rw [b, rsO_bind]; rfl
theorem os1_go {kn lm c f o c0 f0 op ft cu : Int} {kd tv pl en tp : Int → Int} (h : OS1 kn lm kd tv pl en tp c f o c0 f0 op) (g : SSM ft cu kn lm kd tv pl en tp c f o) : OS2 ft cu kn lm kd tv pl en tp c0 f0 op := h _ _ g
theorem os4_of {kn lm c0 f0 op ft cu : Int} {kd tv pl en tp : Int → Int} (h : OS2 ft cu kn lm kd tv pl en tp c0 f0 op) (hn : ft = 0 → ¬ sgS kd tv cu 60 ∧ ¬ sgS kd tv cu 61 ∧ ¬ sgS kd tv cu 62) : OS4 kn lm kd tv pl en tp c0 f0 op := by
  refine ⟨h.1, ?_⟩
  rw [h.2]
  by_cases z : ft = 0
  · rw [if_pos z]; unfold oSM
    rw [if_neg (fun y => by rcases y with y | y | y; exact (hn z).1 y; exact (hn z).2.1 y; exact (hn z).2.2 y)]
  · rw [if_neg z]
theorem os4_go {kn lm c0 f0 op ft cu : Int} {kd tv pl en tp : Int → Int} (h : OS4 kn lm kd tv pl en tp c0 f0 op) (e : ft ≠ 0) : SON ft cu kn lm kd tv pl en tp c0 f0 op := ⟨fun _ => by rw [h.2, rsO_1 e], fun _ => e⟩
theorem os2_f {kn lm c0 f0 op ft cu : Int} {kd tv pl en tp : Int → Int} (h : OS2 ft cu kn lm kd tv pl en tp c0 f0 op) (e : ft ≠ 0) : SON ft cu kn lm kd tv pl en tp c0 f0 op := ⟨fun _ => by rw [h.2, if_neg e, rsO_1 e], fun _ => e⟩
theorem os3_of {kn lm c f o c0 f0 op ft cu : Int} {kd tv pl en tp : Int → Int} (h : OS2 ft cu kn lm kd tv pl en tp c0 f0 op) (h0 : ft = 0) (hs : sgS kd tv cu 60 ∨ sgS kd tv cu 61 ∨ sgS kd tv cu 62) (e1 : c = cu + 1) (e2 : f = 0) (o1 : o = op) : OS3 kn lm kd tv pl en tp c f o c0 f0 op := by
  subst e1; subst o1
  refine fun ft_zq cu_zq g => ⟨fun _ => ?_, fun z => absurd h.1 z⟩
  rw [h.2, if_pos h0]; unfold oSM
  rw [if_pos hs]; exact g.1 e2
theorem os3_go {kn lm c f o c0 f0 op ft cu : Int} {kd tv pl en tp : Int → Int} (h : OS3 kn lm kd tv pl en tp c f o c0 f0 op) (g : SSM ft cu kn lm kd tv pl en tp c f o) : SON ft cu kn lm kd tv pl en tp c0 f0 op := h _ _ g
/-- a rule -/
noncomputable def bdO (kn lm : Int) (kd tv pl en tp : Int → Int) (c : Int) : Option Int := @ite _ (wdS lm kd pl en tp [99, 111, 108, 111, 114] c ∨ wdS lm kd pl en tp [119, 105, 100, 116, 104] c ∨ wdS lm kd pl en tp [102, 111, 114, 109] c) (Classical.propDecidable _) ((ndO (sgS kd tv) 61 (c + 1)).bind (fSM 0 kn lm kd tv pl en tp)) none
noncomputable def rtO (kn lm : Int) (kd tv pl en tp : Int → Int) (n : Nat) (c : Int) : Option Int := (lpO (bdO kn lm kd tv pl en tp) (fun c => sgS kd tv c 44) n c).bind (ndO (sgS kd tv) 59)
noncomputable def knO (lm : Int) (kd tv pl en tp : Int → Int) (c : Int) : Int := @ite _ (wdS lm kd pl en tp [110, 111, 100, 101] c) (Classical.propDecidable _) 0 1
noncomputable def ruS (lm : Int) (kd tv pl en tp : Int → Int) (c : Int) : Option Int := @ite _ ((wdS lm kd pl en tp [110, 111, 100, 101] c ∨ wdS lm kd pl en tp [101, 100, 103, 101] c) ∧ wdS lm kd pl en tp [105, 102] (c + 1)) (Classical.propDecidable _) (((fTE 0 (knO lm kd tv pl en tp c) lm kd tv pl en tp (c + 2)).bind (ndO (sgS kd tv) 58)).bind (fun d => (bdO (knO lm kd tv pl en tp c) lm kd tv pl en tp d).bind (rtO (knO lm kd tv pl en tp c) lm kd tv pl en tp 2200))) none
def RUL (ft cu lm : Int) (kd tv pl en tp : Int → Int) (c0 : Int) : Prop := ruS lm kd tv pl en tp c0 = rsO ft cu
def RU0 (lm : Int) (kd tv pl en tp : Int → Int) (c0 : Int) : Prop := ruS lm kd tv pl en tp c0 = none
def RDW (ft cu kn lm : Int) (kd tv pl en tp : Int → Int) (c0 : Int) : Prop := ∃ n : Nat, 2100 - cu < n ∧ ruS lm kd tv pl en tp c0 = if ft = 0 then (bdO kn lm kd tv pl en tp cu).bind (rtO kn lm kd tv pl en tp n) else none
def RDL (ft cu kn lm : Int) (kd tv pl en tp : Int → Int) (c0 : Int) : Prop := ∃ n : Nat, 2100 - cu < n ∧ ruS lm kd tv pl en tp c0 = if ft = 0 then rtO kn lm kd tv pl en tp n cu else none
def RU2 (kn lm : Int) (kd tv pl en tp : Int → Int) (c f c0 : Int) : Prop := ∀ ft cu, 0 ≤ cu → SND ft cu kd tv 58 c f → RDW ft cu kn lm kd tv pl en tp c0
def RUa (kn lm : Int) (kd tv pl en tp : Int → Int) (c1 : Int) : Prop := (wdS lm kd pl en tp [110, 111, 100, 101] c1 ∧ kn = 0) ∨ (¬ wdS lm kd pl en tp [110, 111, 100, 101] c1 ∧ wdS lm kd pl en tp [101, 100, 103, 101] c1 ∧ kn = 1)
def RU1 (kn lm : Int) (kd tv pl en tp : Int → Int) (c f o c0 : Int) : Prop := ∀ ft cu, STE ft cu kn lm kd tv pl en tp c f o → RU2 kn lm kd tv pl en tp cu ft c0
def RB2 (kn lm : Int) (kd tv pl en tp : Int → Int) (c f o c0 : Int) : Prop := ∀ ft cu, c ≤ cu → SSM ft cu kn lm kd tv pl en tp c f o → RDL ft cu kn lm kd tv pl en tp c0
def RB1 (kn lm : Int) (kd tv pl en tp : Int → Int) (c f c0 : Int) : Prop := ∀ ft cu, c ≤ cu → SND ft cu kd tv 61 c f → RB2 kn lm kd tv pl en tp cu ft 0 c0
def RDz (kn lm : Int) (kd tv pl en tp : Int → Int) (c f c0 : Int) : Prop := RDL f c kn lm kd tv pl en tp c0
def RU3 (lm : Int) (kd tv pl en tp : Int → Int) (c f c0 : Int) : Prop := ∀ ft cu, SND ft cu kd tv 59 c f → RUL ft cu lm kd tv pl en tp c0
def CMA (cu : Int) (kd tv : Int → Int) (an c f : Int) : Prop := (an = 1 ↔ f = 0 ∧ sgS kd tv c 44) ∧ cu = c + an
theorem ru0_no {lm c0 c_zq : Int} {kd tv pl en tp : Int → Int} (ec : c_zq = c0) (h1 : ¬ wdS lm kd pl en tp [110, 111, 100, 101] c_zq) (h2 : ¬ wdS lm kd pl en tp [101, 100, 103, 101] c_zq) : RU0 lm kd tv pl en tp c0 := by
  subst ec
  unfold RU0 ruS
  rw [if_neg (fun z => by rcases z.1 with y | y; exact h1 y; exact h2 y)]
theorem ru0_if {lm c0 c_zq : Int} {kd tv pl en tp : Int → Int} (ec : c_zq = c0 + 1) (h1 : ¬ wdS lm kd pl en tp [105, 102] c_zq) : RU0 lm kd tv pl en tp c0 := by
  subst ec
  unfold RU0 ruS
  rw [if_neg (fun z => h1 z.2)]
theorem ru0_go {lm c0 ft cu : Int} {kd tv pl en tp : Int → Int} (h : RU0 lm kd tv pl en tp c0) (e : ft ≠ 0) : RUL ft cu lm kd tv pl en tp c0 := by
  unfold RUL; rw [rsO_1 e]; exact h
theorem ru1_of {kn lm c f o c0 c1 c2 : Int} {kd tv pl en tp : Int → Int} (hw : (wdS lm kd pl en tp [110, 111, 100, 101] c1 ∧ kn = 0) ∨ (¬ wdS lm kd pl en tp [110, 111, 100, 101] c1 ∧ wdS lm kd pl en tp [101, 100, 103, 101] c1 ∧ kn = 1)) (hi : wdS lm kd pl en tp [105, 102] c2) (e1 : c1 = c0) (e2 : c2 = c0 + 1) (e : c = c0 + 2) (hf : f = 0) (ho : o = 0) : RU1 kn lm kd tv pl en tp c f o c0 := by
  subst e1; subst e2; subst e; subst ho
  have kn_zq : kn = knO lm kd tv pl en tp c1 := by
    unfold knO
    rcases hw with ⟨w, k⟩ | ⟨w, _, k⟩
    · rw [if_pos w]; exact k
    · rw [if_neg w]; exact k
  have hh : (wdS lm kd pl en tp [110, 111, 100, 101] c1 ∨ wdS lm kd pl en tp [101, 100, 103, 101] c1) ∧ wdS lm kd pl en tp [105, 102] (c1 + 1) := by
    refine ⟨?_, hi⟩
    rcases hw with ⟨w, _⟩ | ⟨_, w, _⟩
    · exact Or.inl w
    · exact Or.inr w
  intro ft cu h ft_zq cu_zq c0_zq g
  refine ⟨2200, by omega, ?_⟩
  have b := (ctr_bind h g).1 hf
  have b_zq : ((fTE 0 kn lm kd tv pl en tp (c1 + 2)).bind (ndO (sgS kd tv) 58)) = rsO ft_zq cu_zq := b
  unfold ruS
  rw [if_pos hh, ← kn_zq, b_zq, rsO_bind]
theorem ru1_go {kn lm c f o c0 ft cu c_zq f_zq : Int} {kd tv pl en tp : Int → Int} (h : RU1 kn lm kd tv pl en tp c f o c0) (g : STE ft cu kn lm kd tv pl en tp c f o) (e1 : c_zq = cu) (e2 : f_zq = ft) : RU2 kn lm kd tv pl en tp c_zq f_zq c0 := by subst e1; subst e2; exact h _ _ g
theorem ru2_go {kn lm c f c0 ft cu a4 : Int} {kd tv pl en tp : Int → Int} (h : RU2 kn lm kd tv pl en tp c f c0) (g : SND ft cu kd tv a4 c f) (e : a4 = 58) (c1 : 0 ≤ cu) : RDW ft cu kn lm kd tv pl en tp c0 := by subst e; exact h _ _ c1 g
theorem rdw_no {kn lm c0 ft cu : Int} {kd tv pl en tp : Int → Int} (h : RDW ft cu kn lm kd tv pl en tp c0) (hn : ft = 0 → ¬ wdS lm kd pl en tp [99, 111, 108, 111, 114] cu ∧ ¬ wdS lm kd pl en tp [119, 105, 100, 116, 104] cu ∧ ¬ wdS lm kd pl en tp [102, 111, 114, 109] cu) : RU0 lm kd tv pl en tp c0 := by
  obtain ⟨n, _, e⟩ := h
  unfold RU0
  rw [e]
  by_cases z : ft = 0
  · rw [if_pos z]; unfold bdO
    rw [if_neg (fun y => by rcases y with y | y | y; exact (hn z).1 y; exact (hn z).2.1 y; exact (hn z).2.2 y)]; rfl
  · rw [if_neg z]
theorem rb1_of {kn lm c0 ft cu c f : Int} {kd tv pl en tp : Int → Int} (h : RDW ft cu kn lm kd tv pl en tp c0) (h0 : ft = 0) (hw : wdS lm kd pl en tp [99, 111, 108, 111, 114] cu ∨ wdS lm kd pl en tp [119, 105, 100, 116, 104] cu ∨ wdS lm kd pl en tp [102, 111, 114, 109] cu) (e1 : c = cu + 1) (e2 : f = 0) : RB1 kn lm kd tv pl en tp c f c0 := by
  subst e1
  obtain ⟨n, hn, e⟩ := h
  intro ft1 cu1 l1 g1 ft2 cu2 l2 g2
  refine ⟨n, by omega, ?_⟩
  rw [e, if_pos h0]
  unfold bdO
  rw [if_pos hw]
  have b := (ctr_bind g1 g2).1 e2
  have b_zq : ((ndO (sgS kd tv) 61 (cu + 1)).bind (fSM 0 kn lm kd tv pl en tp)) = rsO ft2 cu2 := b
  rw [b_zq, rsO_bind]
theorem rb1_go {kn lm c f c0 ft cu c_zq f_zq o a4 : Int} {kd tv pl en tp : Int → Int} (h : RB1 kn lm kd tv pl en tp c f c0) (g : SND ft cu kd tv a4 c f) (e : a4 = 61) (l : c ≤ cu) (e1 : c_zq = cu) (e2 : f_zq = ft) (e3 : o = 0) : RB2 kn lm kd tv pl en tp c_zq f_zq o c0 := by subst e; subst e1; subst e2; subst e3; exact h _ _ l g
theorem rb2_go {kn lm c f o c0 ft cu : Int} {kd tv pl en tp : Int → Int} (h : RB2 kn lm kd tv pl en tp c f o c0) (g : SSM ft cu kn lm kd tv pl en tp c f o) (l : c ≤ cu) : RDL ft cu kn lm kd tv pl en tp c0 := h _ _ l g
theorem rd3_of {kn lm c f c0 ft cu : Int} {kd tv pl en tp : Int → Int} (h : RDL ft cu kn lm kd tv pl en tp c0) (e1 : c = cu) (e2 : f = ft) : RDz kn lm kd tv pl en tp c f c0 := by subst e1; subst e2; exact h
theorem rd3_on {kn lm c f c0 ft cu an cu_zq : Int} {kd tv pl en tp : Int → Int} (h : RDz kn lm kd tv pl en tp c f c0) (g : CMA cu_zq kd tv an c f) (ea : an = 1) (cb : c ≤ 2099) (e1 : cu = cu_zq) (e2 : ft = f) : RDW ft cu kn lm kd tv pl en tp c0 := by
  subst e1; subst e2
  obtain ⟨n, hn, e⟩ := h
  obtain ⟨h0, hs⟩ := g.1.1 ea
  have ec := g.2
  cases n with
  | zero => omega
  | succ n =>
    refine ⟨n, by omega, ?_⟩
    rw [e, if_pos h0, if_pos h0]
    have : cu = c + 1 := by omega
    subst this
    unfold rtO
    show (@ite _ (sgS kd tv c 44) (Classical.propDecidable _) _ _ : Option Int).bind _ = _
    rw [if_pos hs]
    cases bdO kn lm kd tv pl en tp (c + 1) <;> rfl
theorem rd3_off {kn lm c f c0 an cu_zq c_zq f_zq : Int} {kd tv pl en tp : Int → Int} (h : RDz kn lm kd tv pl en tp c f c0) (g : CMA cu_zq kd tv an c f) (ea : an = 0) (cb : c ≤ 2099) (e1 : c_zq = cu_zq) (e2 : f_zq = f) : RU3 lm kd tv pl en tp c_zq f_zq c0 := by
  subst e1; subst e2
  obtain ⟨n, hn, e⟩ := h
  have ec := g.2
  have : c_zq = c := by omega
  subst this
  intro ft cu s
  unfold RUL
  rw [e]
  by_cases z : f_zq = 0
  · rw [if_pos z]
    have hs : ¬ sgS kd tv c_zq 44 := fun y => by have := g.1.2 ⟨z, y⟩; omega
    cases n with
    | zero => omega
    | succ n =>
      unfold rtO
      show (@ite _ (sgS kd tv c_zq 44) (Classical.propDecidable _) _ _ : Option Int).bind _ = _
      rw [if_neg hs]
      exact s.1 z
  · rw [if_neg z, rsO_1 (s.2 z)]
theorem ru3_go {lm c f c0 ft cu a4 : Int} {kd tv pl en tp : Int → Int} (h : RU3 lm kd tv pl en tp c f c0) (g : SND ft cu kd tv a4 c f) (e : a4 = 59) : RUL ft cu lm kd tv pl en tp c0 := by subst e; exact h _ _ g
theorem cma_of {cu an c f cu_zq a4 an_zq f_zq : Int} {kd tv : Int → Int} (g : SGN cu_zq kd tv a4 an_zq f_zq) (e : a4 = 44) (e1 : c = cu_zq) (e2 : f = f_zq) (e3 : an = 1 ↔ an_zq = 1) (e4 : cu = c + an) : CMA cu kd tv an c f := by
  subst e; subst e1; subst e2
  exact ⟨e3.trans g, e4⟩
/-- the rules, first and second time -/
def OKS (lm : Int) (kd tv pl en tp : Int → Int) (c : Int) : Prop := OKR kd (ruS lm kd tv pl en tp) c
def SFP (ft cu lm : Int) (kd tv pl en tp : Int → Int) : Prop := ft = 0 → OKS lm kd tv pl en tp cu → OKS lm kd tv pl en tp 0
def SP1 (lm : Int) (kd tv pl en tp : Int → Int) (c : Int) : Prop := OKS lm kd tv pl en tp c → OKS lm kd tv pl en tp 0
def SOK (lm : Int) (kd tv pl en tp : Int → Int) : Prop := OKS lm kd tv pl en tp 0
def SOC (ft cu lm : Int) (kd tv pl en tp : Int → Int) : Prop := ft = 0 ∧ OKS lm kd tv pl en tp cu
def SC1 (lm : Int) (kd tv pl en tp : Int → Int) (c : Int) : Prop := kd c ≠ 0 ∧ OKS lm kd tv pl en tp c
theorem spa_0 {ft cu lm : Int} {kd tv pl en tp : Int → Int} (h : cu = 0) : SFP ft cu lm kd tv pl en tp := fun _ z => by rw [h] at z; exact z
theorem sp1_of {ft cu lm c : Int} {kd tv pl en tp : Int → Int} (h : SFP ft cu lm kd tv pl en tp) (h0 : ft = 0) (e : c = cu) : SP1 lm kd tv pl en tp c := by subst e; exact h h0
theorem sp1_go {ft cu lm c : Int} {kd tv pl en tp : Int → Int} (h : SP1 lm kd tv pl en tp c) (g : RUL ft cu lm kd tv pl en tp c) : SFP ft cu lm kd tv pl en tp := fun h0 z => h (okr_back (by unfold RUL at g; rw [g, rsO_0 h0]) z)
theorem sok_of {ft cu lm : Int} {kd tv pl en tp : Int → Int} (h : SFP ft cu lm kd tv pl en tp) (h0 : ft = 0) (e : kd cu = 0) : SOK lm kd tv pl en tp := h h0 (okr_end e)
theorem soc_of {ft cu lm : Int} {kd tv pl en tp : Int → Int} (h : SOK lm kd tv pl en tp) (h0 : ft = 0) (e : cu = 0) : SOC ft cu lm kd tv pl en tp := by subst e; exact ⟨h0, h⟩
theorem sc1_of {ft cu lm c : Int} {kd tv pl en tp : Int → Int} (h : SOC ft cu lm kd tv pl en tp) (hk : kd cu ≠ 0) (e : c = cu) : SC1 lm kd tv pl en tp c := by subst e; exact ⟨hk, h.2⟩
theorem sc1_go {ft cu lm c : Int} {kd tv pl en tp : Int → Int} (h : SC1 lm kd tv pl en tp c) (g : RUL ft cu lm kd tv pl en tp c) : SOC ft cu lm kd tv pl en tp := okr_step h.2 h.1 g
/-- ahead of an opening -/
def Sw40 (kd tv pl en tp : Int → Int) (c0 f0 : Int) : Prop := sgS kd tv c0 40 ∧ f0 = 0
def Sw123 (kd tv pl en tp : Int → Int) (c0 f0 : Int) : Prop := sgS kd tv c0 123 ∧ f0 = 0
def SwN (lm : Int) (kd tv pl en tp : Int → Int) (c0 f0 : Int) : Prop := wdS lm kd pl en tp [110, 111, 116] c0 ∧ f0 = 0
theorem spw_start {ft cu kn lm c f o c0 f0 op : Int} {kd tv pl en tp : Int → Int} (h : SVL ft cu kn lm kd tv pl en tp c f o) (e1 : c = c0) (e2 : f = f0) (e3 : o = op) (c1 : 0 ≤ cu) : SPWv ft cu kn lm kd tv pl en tp c0 f0 op := by subst e1; subst e2; subst e3; exact lpc_start h c1
theorem ssl_start {ft cu kn lm c f o c0 f0 op : Int} {kd tv pl en tp : Int → Int} (h : SPQv ft cu kn lm kd tv pl en tp c f o) (e1 : c = c0) (e2 : f = f0) (e3 : o = op) (c1 : 0 ≤ cu) : SSL ft cu kn lm kd tv pl en tp c0 f0 op := by subst e1; subst e2; subst e3; exact lpc_start h c1
theorem sbl_start {ft cu kn lm c f o c0 f0 op : Int} {kd tv pl en tp : Int → Int} (h : SON ft cu kn lm kd tv pl en tp c f o) (e1 : c = c0) (e2 : f = f0) (e3 : o = op) (c1 : 0 ≤ cu) : SBL ft cu kn lm kd tv pl en tp c0 f0 op := by subst e1; subst e2; subst e3; exact lpc_start h c1
theorem stl_start {ft cu kn lm c f o c0 f0 op : Int} {kd tv pl en tp : Int → Int} (h : SBO ft cu kn lm kd tv pl en tp c f o) (e1 : c = c0) (e2 : f = f0) (e3 : o = op) (c1 : 0 ≤ cu) : STL ft cu kn lm kd tv pl en tp c0 f0 op := by subst e1; subst e2; subst e3; exact lpc_start h c1
theorem spw_go {ft cu kn lm c f o c0 f0 op : Int} {kd tv pl en tp : Int → Int} (h : GPW kn lm kd tv pl en tp c f c0 f0 op) (g : SVL ft cu kn lm kd tv pl en tp c f o) (e : o = op) (cb : c ≤ 2100) (hc : c ≤ cu) : SPWv ft cu kn lm kd tv pl en tp c0 f0 op := by subst e; exact lpc_go h cb hc g
theorem ssl_go {ft cu kn lm c f o c0 f0 op : Int} {kd tv pl en tp : Int → Int} (h : GSL kn lm kd tv pl en tp c f c0 f0 op) (g : SPQv ft cu kn lm kd tv pl en tp c f o) (e : o = op) (cb : c ≤ 2100) (hc : c ≤ cu) : SSL ft cu kn lm kd tv pl en tp c0 f0 op := by subst e; exact lpc_go h cb hc g
theorem sbl_go {ft cu kn lm c f o c0 f0 op : Int} {kd tv pl en tp : Int → Int} (h : GBL kn lm kd tv pl en tp c f c0 f0 op) (g : SON ft cu kn lm kd tv pl en tp c f o) (e : o = op) (cb : c ≤ 2100) (hc : c ≤ cu) : SBL ft cu kn lm kd tv pl en tp c0 f0 op := by subst e; exact lpc_go h cb hc g
theorem stl_go {ft cu kn lm c f o c0 f0 op : Int} {kd tv pl en tp : Int → Int} (h : GTL kn lm kd tv pl en tp c f c0 f0 op) (g : SBO ft cu kn lm kd tv pl en tp c f o) (e : o = op) (cb : c ≤ 2100) (hc : c ≤ cu) : STL ft cu kn lm kd tv pl en tp c0 f0 op := by subst e; exact lpc_go h cb hc g
/-- ahead of the next call in a loop -/
theorem sgn_y {cu x an f v : Int} {kd tv : Int → Int} (h : SGN cu kd tv x an f) (e : an ≠ 0) (e1 : an ≤ 1) (e0 : 0 ≤ an) (ev : x = v) : f = 0 ∧ sgS kd tv cu v := by subst ev; exact h.1 (by omega)
theorem sgn_n {cu x an f v : Int} {kd tv : Int → Int} (h : SGN cu kd tv x an f) (e : an = 0) (ev : x = v) (e0 : f = 0) : ¬ sgS kd tv cu v := by subst ev; exact fun z => by have := h.2 ⟨e0, z⟩; omega
theorem gpw_of {ft cu kn lm c f c0 f0 op : Int} {kd tv pl en tp : Int → Int} (h : SPWv ft cu kn lm kd tv pl en tp c0 f0 op) (h0 : ft = 0) (hs : sgS kd tv cu 42 ∨ sgS kd tv cu 47) (e1 : c = cu + 1) (e2 : f = 0) : GPW kn lm kd tv pl en tp c f c0 f0 op := by
  subst e1; subst h0
  refine ⟨e2, ?_, ?_⟩
  · rw [show cu + 1 - 1 = cu by omega]; exact h
  · rw [show cu + 1 - 1 = cu by omega]; exact hs
theorem gsl_of {ft cu kn lm c f c0 f0 op : Int} {kd tv pl en tp : Int → Int} (h : SSL ft cu kn lm kd tv pl en tp c0 f0 op) (h0 : ft = 0) (hs : sgS kd tv cu 43 ∨ sgS kd tv cu 45) (e1 : c = cu + 1) (e2 : f = 0) : GSL kn lm kd tv pl en tp c f c0 f0 op := by
  subst e1; subst h0
  refine ⟨e2, ?_, ?_⟩
  · rw [show cu + 1 - 1 = cu by omega]; exact h
  · rw [show cu + 1 - 1 = cu by omega]; exact hs
theorem gbl_of {ft cu kn lm c f c0 f0 op : Int} {kd tv pl en tp : Int → Int} (h : SBL ft cu kn lm kd tv pl en tp c0 f0 op) (h0 : ft = 0) (hs : wdS lm kd pl en tp [97, 110, 100] cu) (e1 : c = cu + 1) (e2 : f = 0) : GBL kn lm kd tv pl en tp c f c0 f0 op := by
  subst e1; subst h0
  refine ⟨e2, ?_, ?_⟩
  · rw [show cu + 1 - 1 = cu by omega]; exact h
  · rw [show cu + 1 - 1 = cu by omega]; exact hs
theorem gtl_of {ft cu kn lm c f c0 f0 op : Int} {kd tv pl en tp : Int → Int} (h : STL ft cu kn lm kd tv pl en tp c0 f0 op) (h0 : ft = 0) (hs : wdS lm kd pl en tp [111, 114] cu) (e1 : c = cu + 1) (e2 : f = 0) : GTL kn lm kd tv pl en tp c f c0 f0 op := by
  subst e1; subst h0
  refine ⟨e2, ?_, ?_⟩
  · rw [show cu + 1 - 1 = cu by omega]; exact h
  · rw [show cu + 1 - 1 = cu by omega]; exact hs
end
section
/-! the reference's bounds: what lies between the least and the greatest (bounds, dots) -/
def bnP (lx mx ly my x y : Int) : Prop := (lx ≤ x ∧ x ≤ mx) ∧ ly ≤ y ∧ y ≤ my
theorem bnP_w {lx mx ly my x y lx_zq mx_zq ly_zq my_zq : Int} (h : bnP lx mx ly my x y) (a1 : lx_zq ≤ lx) (a2 : mx ≤ mx_zq) (a3 : ly_zq ≤ ly) (a4 : my ≤ my_zq) : bnP lx_zq mx_zq ly_zq my_zq x y := by
  obtain ⟨⟨h1, h2⟩, h3, h4⟩ := h
  exact ⟨⟨by omega, by omega⟩, by omega, by omega⟩
def BNN (lx mx ly my g : Int) (NX NY : Int → Int) (N : Int) : Prop := ∀ j : Int, 0 ≤ j → j < N → bnP lx mx ly my (NX ((24 * g) + j)) (NY ((24 * g) + j))
def BNH (g : Int) (NX NY : Int → Int) (N lx mx ly my : Int) : Prop := BNN lx mx ly my g NX NY N
def bnT (lx mx ly my g r : Int) (NX NY A : Int → Int) (e : Int) : Prop := bnP lx mx ly my (NX ((24 * g) + A ((r + 267) + e))) (NY ((24 * g) + A ((r + 267) + e)))
def bnD (lx mx ly my g r : Int) (NX NY A : Int → Int) (e : Int) : Prop := bnP lx mx ly my (NX ((24 * g) + A ((r + 315) + e))) (NY ((24 * g) + A ((r + 315) + e)))
def bnB (lx mx ly my g : Int) (BX BY : Int → Int) (e k : Int) : Prop := bnP lx mx ly my (BX ((24 * ((48 * g) + e)) + k)) (BY ((24 * ((48 * g) + e)) + k))
def BNE (lx mx ly my g r : Int) (NX NY A BM BX BY : Int → Int) (E : Int) : Prop := BNN lx mx ly my g NX NY (A (r + 0)) ∧ ∀ e : Int, 0 ≤ e → e < E → bnT lx mx ly my g r NX NY A e ∧ bnD lx mx ly my g r NX NY A e ∧ ∀ k : Int, 0 ≤ k → k < BM ((48 * g) + e) → bnB lx mx ly my g BX BY e k
def BNK (lx mx ly my g r : Int) (NX NY A BM BX BY : Int → Int) (E K : Int) : Prop := BNE lx mx ly my g r NX NY A BM BX BY E ∧ (1 ≤ K → bnT lx mx ly my g r NX NY A E) ∧ (∀ k : Int, 0 ≤ k → k < K - 1 → k + 1 ≤ BM ((48 * g) + E) → bnB lx mx ly my g BX BY E k) ∧ (BM ((48 * g) + E) + 2 ≤ K → bnD lx mx ly my g r NX NY A E)
def BNI (g r : Int) (NX NY A BM BX BY : Int → Int) (E K lx mx ly my : Int) : Prop := BNK lx mx ly my g r NX NY A BM BX BY E K
def BNA (lx mx ly my g r : Int) (NX NY A BM BX BY : Int → Int) : Prop := BNE lx mx ly my g r NX NY A BM BX BY (A (r + 1))
theorem bnn_0 {lx mx ly my g N : Int} {NX NY : Int → Int} (h : N ≤ 0) : BNN lx mx ly my g NX NY N := fun j a b => by omega
theorem bnh_of {lx mx ly my g N a b c d : Int} {NX NY : Int → Int} (h : BNN lx mx ly my g NX NY N) (e1 : a = lx) (e2 : b = mx) (e3 : c = ly) (e4 : d = my) : BNH g NX NY N a b c d := by
  subst e1 e2 e3 e4; exact h
theorem bnn_step {lx mx ly my g N N' x y lx_zq mx_zq ly_zq my_zq : Int} {NX NY : Int → Int} (h : BNH g NX NY N lx mx ly my) (hx : x = NX ((24 * g) + N)) (hy : y = NY ((24 * g) + N)) (e : N' = N + 1) (a1 : lx_zq ≤ lx) (a2 : mx ≤ mx_zq) (a3 : ly_zq ≤ ly) (a4 : my ≤ my_zq) (b1 : lx_zq ≤ x) (b2 : x ≤ mx_zq) (b3 : ly_zq ≤ y) (b4 : y ≤ my_zq) : BNN lx_zq mx_zq ly_zq my_zq g NX NY N' := fun j p q => by
  by_cases hj : j < N
  · exact bnP_w (h j p hj) a1 a2 a3 a4
  · have : j = N := by omega
    subst this
    rw [← hx, ← hy]
    exact ⟨⟨b1, b2⟩, b3, b4⟩
theorem bne_0 {lx mx ly my g r N E : Int} {NX NY A BM BX BY : Int → Int} (h : BNN lx mx ly my g NX NY N) (hn : A (r + 0) ≤ N) (e : E = 0) : BNE lx mx ly my g r NX NY A BM BX BY E :=
  ⟨fun j p q => h j p (by omega), fun j p q => by omega⟩
theorem bnk_0 {lx mx ly my g r E K : Int} {NX NY A BM BX BY : Int → Int} (h : BNE lx mx ly my g r NX NY A BM BX BY E) (e : K = 0) (hb : 0 ≤ BM ((48 * g) + E)) : BNK lx mx ly my g r NX NY A BM BX BY E K :=
  ⟨h, fun z => by omega, fun k p q => by omega, fun z => by omega⟩
theorem bne_step {lx mx ly my g r E E_zq K : Int} {NX NY A BM BX BY : Int → Int} (h : BNK lx mx ly my g r NX NY A BM BX BY E K) (hk : BM ((48 * g) + E) + 2 ≤ K) (hb : 0 ≤ BM ((48 * g) + E)) (e : E_zq = E + 1) : BNE lx mx ly my g r NX NY A BM BX BY E_zq :=
  ⟨h.1.1, fun j p q => by
    by_cases hj : j < E
    · exact h.1.2 j p hj
    · have : j = E := by omega
      subst this
      exact ⟨h.2.1 (by omega), h.2.2.2 hk, fun k a b => h.2.2.1 k a (by omega) (by omega)⟩⟩
theorem bni_of {lx mx ly my g r E K a b c d : Int} {NX NY A BM BX BY : Int → Int} (h : BNK lx mx ly my g r NX NY A BM BX BY E K) (e1 : a = lx) (e2 : b = mx) (e3 : c = ly) (e4 : d = my) : BNI g r NX NY A BM BX BY E K a b c d := by
  subst e1 e2 e3 e4; exact h
theorem bnk_step {lx mx ly my g r E K K_zq x y lx_zq mx_zq ly_zq my_zq : Int} {NX NY A BM BX BY : Int → Int} (h : BNI g r NX NY A BM BX BY E K lx mx ly my)
    (x0 : (K = 0) → (x = NX ((24 * g) + A ((r + 267) + E)))) (x1 : (K = (BM ((48 * g) + E) + 1)) → (x = NX ((24 * g) + A ((r + 315) + E)))) (x2 : (K = 0) ∨ ((K = (BM ((48 * g) + E) + 1)) ∨ (x = BX ((24 * ((48 * g) + E)) + (K - 1)))))
    (y0 : (K = 0) → (y = NY ((24 * g) + A ((r + 267) + E)))) (y1 : (K = (BM ((48 * g) + E) + 1)) → (y = NY ((24 * g) + A ((r + 315) + E)))) (y2 : (K = 0) ∨ ((K = (BM ((48 * g) + E) + 1)) ∨ (y = BY ((24 * ((48 * g) + E)) + (K - 1)))))
    (e : K_zq = K + 1) (k0 : 0 ≤ K) (a1 : lx_zq ≤ lx) (a2 : mx ≤ mx_zq) (a3 : ly_zq ≤ ly) (a4 : my ≤ my_zq) (b1 : lx_zq ≤ x) (b2 : x ≤ mx_zq) (b3 : ly_zq ≤ y) (b4 : y ≤ my_zq) : BNK lx_zq mx_zq ly_zq my_zq g r NX NY A BM BX BY E K_zq := by
  have hp : bnP lx_zq mx_zq ly_zq my_zq x y := ⟨⟨b1, b2⟩, b3, b4⟩
  have W : ∀ {a b : Int}, bnP lx mx ly my a b → bnP lx_zq mx_zq ly_zq my_zq a b := fun z => bnP_w z a1 a2 a3 a4
  refine ⟨⟨fun j p q => W (h.1.1 j p q), fun j p q => ⟨W (h.1.2 j p q).1, W (h.1.2 j p q).2.1, fun k a b => W ((h.1.2 j p q).2.2 k a b)⟩⟩, fun z => ?_, fun k p q s => ?_, fun z => ?_⟩
  · by_cases hk : K = 0
    · have e1 := x0 hk
      have e2 := y0 hk
      rw [e1, e2] at hp; exact hp
    · exact W (h.2.1 (by omega))
  · by_cases hk : k < K - 1
    · exact W (h.2.2.1 k p hk s)
    · have ek : K - 1 = k := by omega
      have e1 : x = BX ((24 * ((48 * g) + E)) + (K - 1)) := by
        rcases x2 with z | z | z
        · omega
        · omega
        · exact z
      have e2 : y = BY ((24 * ((48 * g) + E)) + (K - 1)) := by
        rcases y2 with z | z | z
        · omega
        · omega
        · exact z
      rw [e1, e2, ek] at hp; exact hp
  · by_cases hk : BM ((48 * g) + E) + 2 ≤ K
    · exact W (h.2.2.2 hk)
    · have ek : K = BM ((48 * g) + E) + 1 := by omega
      have e1 := x1 ek
      have e2 := y1 ek
      rw [e1, e2] at hp; exact hp
theorem bna_of {lx mx ly my g r E : Int} {NX NY A BM BX BY : Int → Int} (h : BNE lx mx ly my g r NX NY A BM BX BY E) (he : A (r + 1) ≤ E) : BNA lx mx ly my g r NX NY A BM BX BY :=
  ⟨h.1, fun j p q => h.2 j p (by omega)⟩
theorem bna_n {lx mx ly my g r i : Int} {NX NY A BM BX BY : Int → Int} (h : BNA lx mx ly my g r NX NY A BM BX BY) (hi0 : 0 ≤ i) (hi : i < A (r + 0)) : bnP lx mx ly my (NX ((24 * g) + i)) (NY ((24 * g) + i)) := h.1 i hi0 hi
theorem bna_p {lx mx ly my g r e k c d a b : Int} {NX NY A BM BX BY : Int → Int} (h : BNA lx mx ly my g r NX NY A BM BX BY) (he : a ≤ e ∧ e ≤ b) (ha : 0 ≤ a) (hk : c ≤ k ∧ k ≤ d) (hc : 0 ≤ c) (he2 : 1 * e + ((-1) * A (r + 1) + 0) ≤ (-1)) (hk2 : k ≤ (BM ((48 * g) + e) + 1)) : bnT lx mx ly my g r NX NY A e ∧ bnD lx mx ly my g r NX NY A e ∧ (k ≠ 0 → k ≠ BM ((48 * g) + e) + 1 → bnB lx mx ly my g BX BY e (k - 1)) := by
  have q := h.2 e (by omega) (by omega)
  exact ⟨q.1, q.2.1, fun z1 z2 => q.2.2 (k - 1) (by omega) (by omega)⟩
theorem bna_x {lx mx ly my g r e k x c d a b : Int} {NX NY A BM BX BY : Int → Int} (h : BNA lx mx ly my g r NX NY A BM BX BY) (x0 : (k = 0) → (x = NX ((24 * g) + A ((r + 267) + e)))) (x1 : (k = (BM ((48 * g) + e) + 1)) → (x = NX ((24 * g) + A ((r + 315) + e)))) (x2 : (k = 0) ∨ ((k = (BM ((48 * g) + e) + 1)) ∨ (x = BX ((24 * ((48 * g) + e)) + (k - 1))))) (he2 : 1 * e + ((-1) * A (r + 1) + 0) ≤ (-1)) (hk2 : k ≤ (BM ((48 * g) + e) + 1)) (he : a ≤ e ∧ e ≤ b) (hk : c ≤ k ∧ k ≤ d) (ha : 0 ≤ a) (hc : 0 ≤ c) : 1 * lx + ((-1) * x + 0) ≤ 0 ∧ 1 * x + ((-1) * mx + 0) ≤ 0 := by
  obtain ⟨q1, q2, q3⟩ := bna_p h he ha hk hc he2 hk2
  have key : lx ≤ x ∧ x ≤ mx := by
    by_cases z0 : k = 0
    · rw [x0 z0]; exact q1.1
    · by_cases z1 : k = BM ((48 * g) + e) + 1
      · rw [x1 z1]; exact q2.1
      · rcases x2 with z | z | z
        · exact absurd z z0
        · exact absurd z z1
        · rw [z]; exact (q3 z0 z1).1
  exact ⟨by omega, by omega⟩
theorem bna_y {lx mx ly my g r e k y c d a b : Int} {NX NY A BM BX BY : Int → Int} (h : BNA lx mx ly my g r NX NY A BM BX BY) (x0 : (k = 0) → (y = NY ((24 * g) + A ((r + 267) + e)))) (x1 : (k = (BM ((48 * g) + e) + 1)) → (y = NY ((24 * g) + A ((r + 315) + e)))) (x2 : (k = 0) ∨ ((k = (BM ((48 * g) + e) + 1)) ∨ (y = BY ((24 * ((48 * g) + e)) + (k - 1))))) (he2 : 1 * e + ((-1) * A (r + 1) + 0) ≤ (-1)) (hk2 : k ≤ (BM ((48 * g) + e) + 1)) (he : a ≤ e ∧ e ≤ b) (hk : c ≤ k ∧ k ≤ d) (ha : 0 ≤ a) (hc : 0 ≤ c) : 1 * ly + ((-1) * y + 0) ≤ 0 ∧ 1 * y + ((-1) * my + 0) ≤ 0 := by
  obtain ⟨q1, q2, q3⟩ := bna_p h he ha hk hc he2 hk2
  have key : ly ≤ y ∧ y ≤ my := by
    by_cases z0 : k = 0
    · rw [x0 z0]; exact q1.2
    · by_cases z1 : k = BM ((48 * g) + e) + 1
      · rw [x1 z1]; exact q2.2
      · rcases x2 with z | z | z
        · exact absurd z z0
        · exact absurd z z1
        · rw [z]; exact (q3 z0 z1).2
  exact ⟨by omega, by omega⟩
theorem bna_nx {lx mx ly my g r i x : Int} {NX NY A BM BX BY : Int → Int} (h : BNA lx mx ly my g r NX NY A BM BX BY) (e : x = NX ((24 * g) + i)) (hi0 : 0 ≤ i) (hi : i < A (r + 0)) : 1 * lx + ((-1) * x + 0) ≤ 0 ∧ 1 * x + ((-1) * mx + 0) ≤ 0 := by
  have q := (bna_n h hi0 hi).1
  rw [← e] at q
  exact ⟨by omega, by omega⟩
theorem bna_ny {lx mx ly my g r i y : Int} {NX NY A BM BX BY : Int → Int} (h : BNA lx mx ly my g r NX NY A BM BX BY) (e : y = NY ((24 * g) + i)) (hi0 : 0 ≤ i) (hi : i < A (r + 0)) : 1 * ly + ((-1) * y + 0) ≤ 0 ∧ 1 * y + ((-1) * my + 0) ≤ 0 := by
  have q := (bna_n h hi0 hi).2
  rw [← e] at q
  exact ⟨by omega, by omega⟩
end
section
/-! the word node, exactly (Mo.word over its constant) -/
theorem wq_n1 {ft cu lm an : Int} {kd pl en tp : Int → Int} (h : Wqnode ft cu lm kd pl en tp an) : (an = 1) → ((ft = 0) ∧ ((kd cu = 1) ∧ ((en cu = (pl cu + 4)) ∧ (((pl cu + 4) ≤ lm) ∧ (((tp ((pl cu + 0)) % 256) = 110) ∧ (((tp ((pl cu + 1)) % 256) = 111) ∧ (((tp ((pl cu + 2)) % 256) = 100) ∧ ((tp ((pl cu + 3)) % 256) = 101)))))))) :=
  fun z => ⟨(h.1 z).1, wdS4.1 (h.1 z).2⟩
theorem wq_n2 {ft cu lm an : Int} {kd pl en tp : Int → Int} (h : Wqnode ft cu lm kd pl en tp an) : ((ft = 0) ∧ ((kd cu = 1) ∧ ((en cu = (pl cu + 4)) ∧ (((pl cu + 4) ≤ lm) ∧ (((tp ((pl cu + 0)) % 256) = 110) ∧ (((tp ((pl cu + 1)) % 256) = 111) ∧ (((tp ((pl cu + 2)) % 256) = 100) ∧ ((tp ((pl cu + 3)) % 256) = 101)))))))) → (an = 1) :=
  fun z => h.2 ⟨z.1, wdS4.2 z.2⟩
/-! what the parser wants at a place: a fault, or one token further -/
theorem snd_dj {ft cu a c0 f0 : Int} {kd tv : Int → Int} (h : SND ft cu kd tv a c0 f0) : ft ≠ 0 ∨ cu = c0 + 1 := by
  by_cases e : ft = 0
  · by_cases h0 : f0 = 0
    · have q := h.1 h0
      unfold ndO at q
      rw [rsO_0 e] at q
      by_cases hs : sgS kd tv c0 a
      · rw [if_pos hs] at q
        exact Or.inr (Option.some.inj q).symm
      · rw [if_neg hs] at q
        cases q
    · exact Or.inl (h.2 h0)
  · exact Or.inl e
theorem tk_nx0 {kd : Int → Int} {c n : Int} (h : (c + 1) ≤ n ∧ (n ≤ 2010 ∧ (kd (n - 1) = 0 ∨ kd (n - 1) = 4))) (k : kd c ≠ 0 ∧ kd c ≠ 4) : c + 2 ≤ n ∧ n ≤ 2010 := by
  by_cases q : c = n - 1
  · rw [← q] at h
    exfalso
    have := h.2.2
    omega
  · omega
theorem tk_nx1 {kd : Int → Int} {c n : Int} (h : n ≤ 2010 ∧ (kd (n - 1) = 0 ∨ kd (n - 1) = 4)) (hc : c + 1 ≤ n) (k : kd c ≠ 0 ∧ kd c ≠ 4) : c + 2 ≤ n ∧ n ≤ 2010 := tk_nx0 ⟨hc, h⟩ k
end
section
-- texts of graphs: tokens, and what comes of them, as a relation that leaves no choice
def tkL (c : Int) : Prop := (97 ≤ c ∧ c ≤ 122) ∨ (65 ≤ c ∧ c ≤ 90)
def tkD (c : Int) : Prop := 48 ≤ c ∧ c ≤ 57
def tkN (c : Int) : Prop := tkL c ∨ tkD c ∨ c = 95
def tkB (c : Int) : Prop := c = 32 ∨ c = 10
def tkS (c : Int) : Prop := c = 123 ∨ c = 125 ∨ c = 91 ∨ c = 93 ∨ c = 59 ∨ c = 61 ∨ c = 45 ∨ c = 62
/-- the value of a number's bytes, up to three of them -/
def tkV (t : Int → Int) (b e : Int) : Int := if e = b + 1 then t b - 48 else if e = b + 2 then 10 * (t b - 48) + (t (b + 1) - 48) else 100 * (t b - 48) + 10 * (t (b + 1) - 48) + (t (b + 2) - 48)
/-- a name's end -/
def tkE (P : Int → Prop) (t : Int → Int) (n b e : Int) : Prop := b < e ∧ e ≤ n ∧ (∀ j, b ≤ j → j < e → P (t j)) ∧ (e = n ∨ ¬ P (t e))
/-- the token at p: its kind (0 end, 1 name, 2 number, 3 sign, 4 none), beginning, end and value -/
def TK (t : Int → Int) (n p k b e v : Int) : Prop := p ≤ b ∧ b ≤ n ∧ (∀ j, p ≤ j → j < b → tkB (t j)) ∧
  ((b = n ∧ e = b ∧ k = 0 ∧ v = 0) ∨ (b < n ∧ ¬ tkB (t b) ∧
    ((tkL (t b) ∧ tkE tkN t n b e ∧ v = 0 ∧ ((e ≤ b + 8 ∧ k = 1) ∨ (b + 8 < e ∧ k = 4))) ∨
     (tkD (t b) ∧ tkE tkD t n b e ∧ ((e ≤ b + 3 ∧ k = 2 ∧ v = tkV t b e) ∨ (b + 3 < e ∧ k = 4 ∧ v = 0))) ∨
     (¬ tkL (t b) ∧ ¬ tkD (t b) ∧ e = b + 1 ∧ ((tkS (t b) ∧ k = 3 ∧ v = t b) ∨ (¬ tkS (t b) ∧ k = 4 ∧ v = 0))))))
theorem tke_det {P : Int → Prop} {t : Int → Int} {n b e e_zq : Int} (h : tkE P t n b e) (h_zq : tkE P t n b e_zq) : e = e_zq := by
  obtain ⟨a1, a2, a3, a4⟩ := h
  obtain ⟨b1, b2, b3, b4⟩ := h_zq
  rcases Int.lt_trichotomy e e_zq with q | q | q
  · rcases a4 with z | z
    · omega
    · exact absurd (b3 e (by omega) q) z
  · exact q
  · rcases b4 with z | z
    · omega
    · exact absurd (a3 e_zq (by omega) q) z
theorem tkld {c : Int} (h : tkL c) (h_zq : tkD c) : False := by unfold tkL at h; unfold tkD at h_zq; omega
theorem tk_b {t : Int → Int} {n p k b e v k_zq b_zq e_zq v_zq : Int} (h : TK t n p k b e v) (h_zq : TK t n p k_zq b_zq e_zq v_zq) : b = b_zq := by
  obtain ⟨a1, a2, a3, a4⟩ := h
  obtain ⟨b1, b2, b3, b4⟩ := h_zq
  rcases Int.lt_trichotomy b b_zq with q | q | q
  · rcases a4 with z | z
    · omega
    · exact absurd (b3 b a1 q) z.2.1
  · exact q
  · rcases b4 with z | z
    · omega
    · exact absurd (a3 b_zq b1 q) z.2.1
theorem tk_det {t : Int → Int} {n p k b e v k_zq b_zq e_zq v_zq : Int} (h : TK t n p k b e v) (h_zq : TK t n p k_zq b_zq e_zq v_zq) : k = k_zq ∧ b = b_zq ∧ e = e_zq ∧ v = v_zq := by
  have hb := tk_b h h_zq
  subst hb
  obtain ⟨-, -, -, a⟩ := h
  obtain ⟨-, -, -, c⟩ := h_zq
  rcases a with ⟨a1, a2, a3, a4⟩ | ⟨a1, a2, a⟩
  · rcases c with ⟨c1, c2, c3, c4⟩ | ⟨c1, -⟩
    · omega
    · omega
  · rcases c with ⟨c1, -⟩ | ⟨c1, c2, c⟩
    · omega
    · rcases a with ⟨a3, a4, a5, a6⟩ | ⟨a3, a4, a5⟩ | ⟨a3, a4, a5, a6⟩
      · rcases c with ⟨c3, c4, c5, c6⟩ | ⟨c3, -⟩ | ⟨c3, -⟩
        · have := tke_det a4 c4; omega
        · exact (tkld a3 c3).elim
        · exact absurd a3 c3
      · rcases c with ⟨c3, -⟩ | ⟨c3, c4, c5⟩ | ⟨c3, c3_zq, -⟩
        · exact (tkld c3 a3).elim
        · have q := tke_det a4 c4
          subst q
          rcases a5 with ⟨z1, z2, z3⟩ | z
          · rcases c5 with ⟨y1, y2, y3⟩ | y
            · exact ⟨z2.trans y2.symm, rfl, rfl, z3.trans y3.symm⟩
            · omega
          · rcases c5 with y | y
            · omega
            · omega
        · exact absurd a3 c3_zq
      · rcases c with ⟨c3, -⟩ | ⟨c3, -⟩ | ⟨c3, c3_zq, c4, c5⟩
        · exact absurd c3 a3
        · exact absurd c3 a4
        · rcases a6 with ⟨z1, z2, z3⟩ | ⟨z1, z2, z3⟩
          · rcases c5 with ⟨y1, y2, y3⟩ | ⟨y1, -⟩
            · omega
            · exact absurd z1 y1
          · rcases c5 with ⟨y1, -⟩ | ⟨y1, y2, y3⟩
            · exact absurd y1 z1
            · omega
/-- words -/
def tkW4 (t : Int → Int) (b e a0 a1 a2 a3 : Int) : Prop := e = b + 4 ∧ t b = a0 ∧ t (b + 1) = a1 ∧ t (b + 2) = a2 ∧ t (b + 3) = a3
def isWn (t : Int → Int) (k b e : Int) : Prop := k = 1 ∧ tkW4 t b e 110 111 100 101
def isWg (t : Int → Int) (k b e : Int) : Prop := k = 1 ∧ e = b + 5 ∧ t b = 103 ∧ t (b + 1) = 114 ∧ t (b + 2) = 111 ∧ t (b + 3) = 117 ∧ t (b + 4) = 112
def isWs (t : Int → Int) (k b e : Int) : Prop := k = 1 ∧ tkW4 t b e 115 105 122 101
def isWw (t : Int → Int) (k b e : Int) : Prop := k = 1 ∧ e = b + 6 ∧ t b = 119 ∧ t (b + 1) = 101 ∧ t (b + 2) = 105 ∧ t (b + 3) = 103 ∧ t (b + 4) = 104 ∧ t (b + 5) = 116
def isNm (t : Int → Int) (k b e : Int) : Prop := k = 1 ∧ ¬ isWn t k b e ∧ ¬ isWg t k b e
/-- a choice by a proposition -/
noncomputable def cI {α : Type} (P : Prop) (a b : α) : α := @ite α P (Classical.propDecidable P) a b
theorem cI_t {α : Type} {P : Prop} {a b : α} (h : P) : cI P a b = a := if_pos h
theorem cI_f {α : Type} {P : Prop} {a b : α} (h : ¬ P) : cI P a b = b := if_neg h
/-- the node of a name in a row -/
def nmR (t ρ : Int → Int) (i b e : Int) : Prop := ρ (195 + i) = e - b ∧ ∀ k, 0 ≤ k → k < e - b → ρ (3 + 8 * i + k) = t (b + k)
def KN (t ρ : Int → Int) (b e i : Int) : Prop := (i = -1 ∧ ∀ j, 0 ≤ j → j < ρ 0 → ¬ nmR t ρ j b e) ∨ (0 ≤ i ∧ i < ρ 0 ∧ nmR t ρ i b e ∧ ∀ j, 0 ≤ j → j < i → ¬ nmR t ρ j b e)
theorem kn_det {t ρ : Int → Int} {b e i j : Int} (h : KN t ρ b e i) (h_zq : KN t ρ b e j) : i = j := by
  rcases h with ⟨a, h⟩ | ⟨a0, a1, a2, h⟩
  · rcases h_zq with ⟨c, h_zq⟩ | ⟨c0, c1, c2, h_zq⟩
    · omega
    · exact absurd c2 (h j c0 c1)
  · rcases h_zq with ⟨c, h_zq⟩ | ⟨c0, c1, c2, h_zq⟩
    · exact absurd a2 (h_zq i a0 a1)
    · rcases Int.lt_trichotomy i j with q | q | q
      · exact absurd a2 (h_zq i a0 q)
      · exact q
      · exact absurd c2 (h j c0 q)
noncomputable def knR (t ρ : Int → Int) (b e : Int) : Int := @dite _ (∃ i, KN t ρ b e i) (Classical.propDecidable _) (fun h => Classical.choose h) (fun _ => -1)
theorem kn_eq {t ρ : Int → Int} {b e i : Int} (h : KN t ρ b e i) : knR t ρ b e = i := by
  have hx : ∃ i, KN t ρ b e i := ⟨i, h⟩
  unfold knR
  rw [dif_pos hx]
  exact kn_det (Classical.choose_spec hx) h
/-- an edge between two nodes -/
def BTR (ρ : Int → Int) (a b : Int) : Prop := ∃ e, 0 ≤ e ∧ e < ρ 1 ∧ ((ρ (267 + e) = a ∧ ρ (315 + e) = b) ∨ (ρ (267 + e) = b ∧ ρ (315 + e) = a))
/-- rows changed -/
def ruR (ρ : Int → Int) (j a : Int) : Int → Int := fun i => if i = j then a else ρ i
def rnR (ρ t : Int → Int) (j b n : Int) : Int → Int := fun i => if j ≤ i ∧ i < j + n then t (b + (i - j)) else ρ i
def nnR (t ρ : Int → Int) (b e g : Int) : Int → Int := ruR (ruR (rnR (ruR (ruR ρ 0 (ρ 0 + 1)) (195 + ρ 0) (e - b)) t (3 + 8 * ρ 0) b (e - b)) (219 + ρ 0) 1) (243 + ρ 0) g
def neR (ρ : Int → Int) (a b w : Int) : Int → Int := ruR (ruR (ruR (ruR (ruR ρ 1 (ρ 1 + 1)) (267 + ρ 1) a) (315 + ρ 1) b) (363 + ρ 1) 1) (411 + ρ 1) w
def ngR (t ρ : Int → Int) (b e q : Int) : Int → Int := rnR (ruR (ruR (ruR ρ 2 (ρ 2 + 1)) (531 + ρ 2) q) (523 + ρ 2) (e - b)) t (459 + 8 * ρ 2) b (e - b)
def swR (ρ : Int → Int) (y v : Int) : Int → Int := fun i => if 363 + y ≤ i ∧ i < 363 + ρ 1 then v else ρ i
def r0R : Int → Int := fun j => if j = 2 then 1 else if j = 531 then -1 else 0
/-- a state: where one stands (0 item, 1 a node's name, 2 behind it, 3 behind an edge's first name, 4 a next name, 5 a group's name, 7 its brace, 8 behind a next name,
 9 a word, 10 its =, 11 its number, 12 behind it, 13 behind ]; 100 a fault, 101 the end), three numbers, the innermost group, how many are open, place, row -/
abbrev zS : Type := Int × Int × Int × Int × Int × Int × Int × (Int → Int)
def gF (f b : Int) : zS := (100, f, b, 0, 0, 0, 0, fun _ => 0)
/-- a name is met as a node: where it goes on, or what faults -/
noncomputable def gM (t ρ : Int → Int) (g b e : Int) (K : Int → (Int → Int) → zS) : zS :=
  cI (0 ≤ knR t ρ b e) (K (knR t ρ b e) ρ) (cI (ρ 0 = 24) (gF 3 b) (K (ρ 0) (nnR t ρ b e g)))
noncomputable def gD (t : Int → Int) : zS → Int → Int → Int → Int → zS := fun S k b e v =>
  match S with
  | (c, x, y, z, g, d, p, ρ) =>
    cI (c = 0) (cI (k = 0 ∧ d = 0) ((101, 0, 0, 0, 0, 0, 0, ρ) : zS)
      (cI (k = 3 ∧ v = 125 ∧ 0 < d) (0, 0, 0, 0, ρ (531 + g), d - 1, e, ρ)
      (cI (isWn t k b e) (1, 0, 0, 0, g, d, e, ρ)
      (cI (isWg t k b e) (cI (8 ≤ ρ 2 ∨ 4 ≤ d) (gF 3 b) (5, 0, 0, 0, g, d, e, ρ))
      (cI (k = 1) (gM t ρ g b e (fun i ρ' => (3, i, ρ 1, 0, g, d, e, ρ'))) (gF 1 b))))))
    (cI (c = 1) (cI (isNm t k b e) (gM t ρ g b e (fun i ρ' => (2, i, 0, 0, g, d, e, ρ'))) (gF 1 b))
    (cI (c = 2) (cI (k = 3 ∧ v = 91) ((9, x, 0, 0, g, d, e, ρ) : zS) (cI (k = 3 ∧ v = 59) (0, 0, 0, 0, g, d, e, ρ) (gF 1 b)))
    (cI (c = 3) (cI (k = 3 ∧ (v = 45 ∨ v = 62)) ((4, x, y, (if v = 62 then 1 else 0), g, d, e, ρ) : zS) (gF 1 b))
    (cI (c = 4) (cI (isNm t k b e)
        (cI (0 ≤ knR t ρ b e ∧ (knR t ρ b e = x ∨ BTR ρ (knR t ρ b e) x)) (gF 2 b)
          (cI (ρ 1 = 48) (gF 3 b) (gM t ρ g b e (fun i ρ' => (8, i, y, 0, g, d, e, neR ρ' x i z))))) (gF 1 b))
    (cI (c = 5) (cI (isNm t k b e) ((7, 0, 0, 0, ρ 2, d + 1, e, ngR t ρ b e g) : zS) (gF 1 b))
    (cI (c = 7) (cI (k = 3 ∧ v = 123) ((0, 0, 0, 0, g, d, e, ρ) : zS) (gF 1 b))
    (cI (c = 8) (cI (k = 3 ∧ (v = 45 ∨ v = 62)) ((4, x, y, (if v = 62 then 1 else 0), g, d, e, ρ) : zS)
        (cI (k = 3 ∧ v = 91) (9, -1, y, 0, g, d, e, ρ) (cI (k = 3 ∧ v = 59) (0, 0, 0, 0, g, d, e, ρ) (gF 1 b))))
    (cI (c = 9) (cI (k = 1) (cI ((0 ≤ x ∧ isWs t k b e) ∨ (x < 0 ∧ isWw t k b e)) ((10, x, y, 0, g, d, e, ρ) : zS) (gF 4 b)) (gF 1 b))
    (cI (c = 10) (cI (k = 3 ∧ v = 61) ((11, x, y, 0, g, d, e, ρ) : zS) (gF 1 b))
    (cI (c = 11) (cI (k = 2) (cI (1 ≤ v ∧ v ≤ (if 0 ≤ x then 99 else 9)) ((12, x, y, v, g, d, e, ρ) : zS) (gF 5 b)) (gF 1 b))
    (cI (c = 12) (cI (k = 3 ∧ v = 93) ((13, 0, 0, 0, g, d, e, if 0 ≤ x then ruR ρ (219 + x) z else swR ρ y z) : zS) (cI (k = 1) (gF 4 b) (gF 1 b)))
    (cI (c = 13) (cI (k = 3 ∧ v = 59) ((0, 0, 0, 0, g, d, e, ρ) : zS) (gF 1 b))
    ((c, x, y, z, g, d, p, ρ))))))))))))))
/-- what is reached in n steps -/
def GR (t : Int → Int) (n : Int) : Nat → zS → Prop
  | 0, S => S = (0, 0, 0, 0, 0, 0, 0, r0R)
  | m + 1, S => ∃ S1 : zS, GR t n m S1 ∧ S1.1 < 100 ∧ ∃ k b e v, TK t n S1.2.2.2.2.2.2.1 k b e v ∧ S = gD t S1 k b e v
theorem gr_det {t : Int → Int} {n : Int} : ∀ {m : Nat} {S S_zq : zS}, GR t n m S → GR t n m S_zq → S = S_zq
  | 0, _, _, h, h_zq => h.trans h_zq.symm
  | m + 1, _, _, ⟨S1, h1, _, k, b, e, v, hk, hs⟩, ⟨S1_zq, h1_zq, _, k_zq, b_zq, e_zq, v_zq, hk_zq, hs_zq⟩ => by
    have q := gr_det h1 h1_zq
    subst q
    obtain ⟨a1, a2, a3, a4⟩ := tk_det hk hk_zq
    subst a1; subst a2; subst a3; subst a4
    exact hs.trans hs_zq.symm
theorem gr_pre {t : Int → Int} {n : Int} : ∀ {a m : Nat} {S : zS}, GR t n (m + (a + 1)) S → ∃ S1 : zS, GR t n m S1 ∧ S1.1 < 100
  | 0, m, _, ⟨S1, h1, hc, _⟩ => ⟨S1, h1, hc⟩
  | a + 1, m, S, h => by
    have h2 : GR t n (m + (a + 1) + 1) S := h
    obtain ⟨S1, h1, _⟩ := h2
    exact gr_pre (a := a) h1
/-- ends are one -/
theorem gr_end {t : Int → Int} {n : Int} {a m : Nat} {S S_zq : zS} (h : GR t n a S) (h_zq : GR t n m S_zq) (c : 100 ≤ S.1) (c_zq : 100 ≤ S_zq.1) : S = S_zq := by
  rcases Nat.lt_trichotomy a m with q | q | q
  · obtain ⟨z, rfl⟩ : ∃ z, m = a + (z + 1) := ⟨m - a - 1, by omega⟩
    obtain ⟨S1, h1, hc⟩ := gr_pre h_zq
    have := gr_det h h1
    subst this
    omega
  · subst q; exact gr_det h h_zq
  · obtain ⟨z, rfl⟩ : ∃ z, a = m + (z + 1) := ⟨a - m - 1, by omega⟩
    obtain ⟨S1, h1, hc⟩ := gr_pre h
    have := gr_det h_zq h1
    subst this
    omega
-- what comes at each place
theorem gD_c0 {t ρ : Int → Int} {x y z p k b e v g d : Int} : gD t (0, x, y, z, g, d, p, ρ) k b e v = cI (k = 0 ∧ d = 0) ((101, 0, 0, 0, 0, 0, 0, ρ) : zS)
      (cI (k = 3 ∧ v = 125 ∧ 0 < d) (0, 0, 0, 0, ρ (531 + g), d - 1, e, ρ)
      (cI (isWn t k b e) (1, 0, 0, 0, g, d, e, ρ)
      (cI (isWg t k b e) (cI (8 ≤ ρ 2 ∨ 4 ≤ d) (gF 3 b) (5, 0, 0, 0, g, d, e, ρ))
      (cI (k = 1) (gM t ρ g b e (fun i ρ' => (3, i, ρ 1, 0, g, d, e, ρ'))) (gF 1 b))))) := cI_t rfl
theorem gD_c1 {t ρ : Int → Int} {x y z p k b e v g d : Int} : gD t (1, x, y, z, g, d, p, ρ) k b e v = cI (isNm t k b e) (gM t ρ g b e (fun i ρ' => (2, i, 0, 0, g, d, e, ρ'))) (gF 1 b) := (cI_f (by decide)).trans (cI_t rfl)
theorem gD_c2 {t ρ : Int → Int} {x y z p k b e v g d : Int} : gD t (2, x, y, z, g, d, p, ρ) k b e v = cI (k = 3 ∧ v = 91) ((9, x, 0, 0, g, d, e, ρ) : zS) (cI (k = 3 ∧ v = 59) (0, 0, 0, 0, g, d, e, ρ) (gF 1 b)) := (cI_f (by decide)).trans ((cI_f (by decide)).trans (cI_t rfl))
theorem gD_c3 {t ρ : Int → Int} {x y z p k b e v g d : Int} : gD t (3, x, y, z, g, d, p, ρ) k b e v = cI (k = 3 ∧ (v = 45 ∨ v = 62)) ((4, x, y, (if v = 62 then 1 else 0), g, d, e, ρ) : zS) (gF 1 b) := (cI_f (by decide)).trans ((cI_f (by decide)).trans ((cI_f (by decide)).trans (cI_t rfl)))
theorem gD_c4 {t ρ : Int → Int} {x y z p k b e v g d : Int} : gD t (4, x, y, z, g, d, p, ρ) k b e v = cI (isNm t k b e)
        (cI (0 ≤ knR t ρ b e ∧ (knR t ρ b e = x ∨ BTR ρ (knR t ρ b e) x)) (gF 2 b)
          (cI (ρ 1 = 48) (gF 3 b) (gM t ρ g b e (fun i ρ' => (8, i, y, 0, g, d, e, neR ρ' x i z))))) (gF 1 b) := (cI_f (by decide)).trans ((cI_f (by decide)).trans ((cI_f (by decide)).trans ((cI_f (by decide)).trans (cI_t rfl))))
theorem gD_c5 {t ρ : Int → Int} {x y z p k b e v g d : Int} : gD t (5, x, y, z, g, d, p, ρ) k b e v = cI (isNm t k b e) ((7, 0, 0, 0, ρ 2, d + 1, e, ngR t ρ b e g) : zS) (gF 1 b) := (cI_f (by decide)).trans ((cI_f (by decide)).trans ((cI_f (by decide)).trans ((cI_f (by decide)).trans ((cI_f (by decide)).trans (cI_t rfl)))))
theorem gD_c7 {t ρ : Int → Int} {x y z p k b e v g d : Int} : gD t (7, x, y, z, g, d, p, ρ) k b e v = cI (k = 3 ∧ v = 123) ((0, 0, 0, 0, g, d, e, ρ) : zS) (gF 1 b) := (cI_f (by decide)).trans ((cI_f (by decide)).trans ((cI_f (by decide)).trans ((cI_f (by decide)).trans ((cI_f (by decide)).trans ((cI_f (by decide)).trans (cI_t rfl))))))
theorem gD_c8 {t ρ : Int → Int} {x y z p k b e v g d : Int} : gD t (8, x, y, z, g, d, p, ρ) k b e v = cI (k = 3 ∧ (v = 45 ∨ v = 62)) ((4, x, y, (if v = 62 then 1 else 0), g, d, e, ρ) : zS)
        (cI (k = 3 ∧ v = 91) (9, -1, y, 0, g, d, e, ρ) (cI (k = 3 ∧ v = 59) (0, 0, 0, 0, g, d, e, ρ) (gF 1 b))) := (cI_f (by decide)).trans ((cI_f (by decide)).trans ((cI_f (by decide)).trans ((cI_f (by decide)).trans ((cI_f (by decide)).trans ((cI_f (by decide)).trans ((cI_f (by decide)).trans (cI_t rfl)))))))
theorem gD_c9 {t ρ : Int → Int} {x y z p k b e v g d : Int} : gD t (9, x, y, z, g, d, p, ρ) k b e v = cI (k = 1) (cI ((0 ≤ x ∧ isWs t k b e) ∨ (x < 0 ∧ isWw t k b e)) ((10, x, y, 0, g, d, e, ρ) : zS) (gF 4 b)) (gF 1 b) := (cI_f (by decide)).trans ((cI_f (by decide)).trans ((cI_f (by decide)).trans ((cI_f (by decide)).trans ((cI_f (by decide)).trans ((cI_f (by decide)).trans ((cI_f (by decide)).trans ((cI_f (by decide)).trans (cI_t rfl))))))))
theorem gD_c10 {t ρ : Int → Int} {x y z p k b e v g d : Int} : gD t (10, x, y, z, g, d, p, ρ) k b e v = cI (k = 3 ∧ v = 61) ((11, x, y, 0, g, d, e, ρ) : zS) (gF 1 b) := (cI_f (by decide)).trans ((cI_f (by decide)).trans ((cI_f (by decide)).trans ((cI_f (by decide)).trans ((cI_f (by decide)).trans ((cI_f (by decide)).trans ((cI_f (by decide)).trans ((cI_f (by decide)).trans ((cI_f (by decide)).trans (cI_t rfl)))))))))
theorem gD_c11 {t ρ : Int → Int} {x y z p k b e v g d : Int} : gD t (11, x, y, z, g, d, p, ρ) k b e v = cI (k = 2) (cI (1 ≤ v ∧ v ≤ (if 0 ≤ x then 99 else 9)) ((12, x, y, v, g, d, e, ρ) : zS) (gF 5 b)) (gF 1 b) := (cI_f (by decide)).trans ((cI_f (by decide)).trans ((cI_f (by decide)).trans ((cI_f (by decide)).trans ((cI_f (by decide)).trans ((cI_f (by decide)).trans ((cI_f (by decide)).trans ((cI_f (by decide)).trans ((cI_f (by decide)).trans ((cI_f (by decide)).trans (cI_t rfl))))))))))
theorem gD_c12 {t ρ : Int → Int} {x y z p k b e v g d : Int} : gD t (12, x, y, z, g, d, p, ρ) k b e v = cI (k = 3 ∧ v = 93) ((13, 0, 0, 0, g, d, e, if 0 ≤ x then ruR ρ (219 + x) z else swR ρ y z) : zS) (cI (k = 1) (gF 4 b) (gF 1 b)) := (cI_f (by decide)).trans ((cI_f (by decide)).trans ((cI_f (by decide)).trans ((cI_f (by decide)).trans ((cI_f (by decide)).trans ((cI_f (by decide)).trans ((cI_f (by decide)).trans ((cI_f (by decide)).trans ((cI_f (by decide)).trans ((cI_f (by decide)).trans ((cI_f (by decide)).trans (cI_t rfl)))))))))))
theorem gD_c13 {t ρ : Int → Int} {x y z p k b e v g d : Int} : gD t (13, x, y, z, g, d, p, ρ) k b e v = cI (k = 3 ∧ v = 59) ((0, 0, 0, 0, g, d, e, ρ) : zS) (gF 1 b) := (cI_f (by decide)).trans ((cI_f (by decide)).trans ((cI_f (by decide)).trans ((cI_f (by decide)).trans ((cI_f (by decide)).trans ((cI_f (by decide)).trans ((cI_f (by decide)).trans ((cI_f (by decide)).trans ((cI_f (by decide)).trans ((cI_f (by decide)).trans ((cI_f (by decide)).trans ((cI_f (by decide)).trans (cI_t rfl))))))))))))
end
section
-- the reference's reader, told by the states of z1
def RPR (A : Int → Int) (r : Int) (ρ : Int → Int) : Prop := ∀ j, 0 ≤ j → j < 539 → A (r + j) = ρ j
/-- the token that one looks at was read from place p0 on -/
def TKR (lim pos kind place value frm : Int) (T : Int → Int) (p0 : Int) : Prop := frm = place ∧ ∃ v, TK T lim p0 kind place pos v ∧ (kind = 2 ∨ kind = 3 → v = value)
/-- a state whose next token has not been read; Q: what is known of its row -/
def TSQ (Q : (Int → Int) → Prop) (lim fault : Int) (T : Int → Int) (c x y z g d p : Int) : Prop := fault = 0 ∧ ∃ (m : Nat) (ρ : Int → Int), GR T lim m (c, x, y, z, g, d, p, ρ) ∧ Q ρ
/-- a state, its next token read -/
def RSQ (Q : (Int → Int) → Prop) (lim pos kind place value frm fault : Int) (T : Int → Int) (c x y z g d : Int) : Prop := fault = 0 ∧ frm = place ∧ ∃ (m : Nat) (ρ : Int → Int) (p v : Int), GR T lim m (c, x, y, z, g, d, p, ρ) ∧ Q ρ ∧ TK T lim p kind place pos v ∧ (kind = 2 ∨ kind = 3 → v = value)
/-- a fault is met -/
def FSX (lim : Int) (T : Int → Int) (f p : Int) : Prop := 0 < f ∧ ∃ m : Nat, GR T lim m (gF f p)
def FS (lim fault fp : Int) (T : Int → Int) : Prop := FSX lim T fault fp
theorem fs_of {lim fault fp f p : Int} {T : Int → Int} (h : FSX lim T f p) (e1 : fault = f) (e2 : fp = p) : FS lim fault fp T := by rw [e1, e2]; exact h
theorem rsq_of {Q : (Int → Int) → Prop} {lim pos kind place value frm fault c x y z g d p : Int} {T : Int → Int} (h : TSQ Q lim fault T c x y z g d p) (k : TKR lim pos kind place value frm T p) : RSQ Q lim pos kind place value frm fault T c x y z g d := by
  obtain ⟨h0, m, ρ, h1, h2⟩ := h
  obtain ⟨e, v, k1, k2⟩ := k
  exact ⟨h0, e, m, ρ, p, v, h1, h2, k1, k2⟩
theorem rsq_0 {Q : (Int → Int) → Prop} {lim pos kind place value frm fault c x y z g d : Int} {T : Int → Int} (h : RSQ Q lim pos kind place value frm fault T c x y z g d) : fault = 0 ∧ frm = place := ⟨h.1, h.2.1⟩
/-- where a token lies -/
theorem tk_lim {t : Int → Int} {n p k b e v : Int} (h : TK t n p k b e v) : e ≤ n ∧ b ≤ e ∧ (k ≠ 0 → b < e) ∧ (k = 1 → e ≤ b + 8 ∧ ∀ j, b ≤ j → j < e → tkN (t j)) := by
  obtain ⟨-, h0, -, h⟩ := h
  rcases h with ⟨a, b, c, d⟩ | ⟨a, -, h⟩
  · exact ⟨by omega, by omega, by omega, by omega⟩
  · rcases h with ⟨-, ⟨c1, c2, c3, -⟩, -, c4⟩ | ⟨-, ⟨c1, c2, -, -⟩, c4⟩ | ⟨-, -, c1, c4⟩
    · exact ⟨c2, by omega, fun _ => c1, fun q => ⟨by omega, c3⟩⟩
    · exact ⟨c2, by omega, fun _ => c1, fun q => by omega⟩
    · exact ⟨by omega, by omega, fun _ => by omega, fun q => by omega⟩
theorem rsq_lim {Q : (Int → Int) → Prop} {lim pos kind place value frm fault c x y z g d : Int} {T : Int → Int} (h : RSQ Q lim pos kind place value frm fault T c x y z g d) : pos ≤ lim ∧ frm ≤ pos ∧ (kind ≠ 0 → frm < pos) ∧ (kind = 1 → pos ≤ frm + 8 ∧ ∀ j, frm ≤ j → j < pos → tkN (T j)) := by
  obtain ⟨_, e, _, _, _, _, _, _, k, _⟩ := h
  rw [e]; exact tk_lim k
/-- one step, to a state -/
theorem rsq_go {Q Q_zq : (Int → Int) → Prop} {lim pos kind place value frm fault c x y z g d c_zq x_zq y_zq z_zq g_zq d_zq : Int} {T : Int → Int} (h : RSQ Q lim pos kind place value frm fault T c x y z g d) (hc : c < 100)
    (hs : ∀ (p v : Int) (ρ : Int → Int), Q ρ → (kind = 2 ∨ kind = 3 → v = value) → ∃ ρ', gD T (c, x, y, z, g, d, p, ρ) kind place pos v = (c_zq, x_zq, y_zq, z_zq, g_zq, d_zq, pos, ρ') ∧ Q_zq ρ') : TSQ Q_zq lim fault T c_zq x_zq y_zq z_zq g_zq d_zq pos := by
  obtain ⟨h0, _, m, ρ, p, v, h1, h2, h3, h4⟩ := h
  obtain ⟨ρ', e, q⟩ := hs p v ρ h2 h4
  exact ⟨h0, m + 1, ρ', ⟨_, h1, hc, kind, place, pos, v, h3, e.symm⟩, q⟩
/-- one step, to a fault -/
theorem rsq_flt {Q : (Int → Int) → Prop} {lim pos kind place value frm fault c x y z g d f : Int} {T : Int → Int} (h : RSQ Q lim pos kind place value frm fault T c x y z g d) (hc : c < 100) (hf : 0 < f)
    (hs : ∀ (p v : Int) (ρ : Int → Int), Q ρ → (kind = 2 ∨ kind = 3 → v = value) → gD T (c, x, y, z, g, d, p, ρ) kind place pos v = gF f place) : FSX lim T f place := by
  obtain ⟨h0, _, m, ρ, p, v, h1, h2, h3, h4⟩ := h
  exact ⟨hf, m + 1, _, h1, hc, kind, place, pos, v, h3, (hs p v ρ h2 h4).symm⟩
theorem rsq_imp {Q Q_zq : (Int → Int) → Prop} {lim pos kind place value frm fault c x y z g d : Int} {T : Int → Int} (h : RSQ Q lim pos kind place value frm fault T c x y z g d) (k : ∀ ρ, Q ρ → Q_zq ρ) : RSQ Q_zq lim pos kind place value frm fault T c x y z g d := by
  obtain ⟨h0, e, m, ρ, p, v, h1, h2, h3⟩ := h
  exact ⟨h0, e, m, ρ, p, v, h1, k ρ h2, h3⟩
theorem tsq_imp {Q Q_zq : (Int → Int) → Prop} {lim fault c x y z g d p : Int} {T : Int → Int} (h : TSQ Q lim fault T c x y z g d p) (k : ∀ ρ, Q ρ → Q_zq ρ) : TSQ Q_zq lim fault T c x y z g d p := by
  obtain ⟨h0, m, ρ, h1, h2⟩ := h
  exact ⟨h0, m, ρ, h1, k ρ h2⟩
end
section
-- the reference's next(), its words and signs
def BTB (T : Int → Int) : Prop := ∀ j : Int, 0 ≤ j → j < 2000 → (-128) ≤ T j ∧ T j ≤ 127
def ZX0 (lim pos : Int) (T : Int → Int) (p0 : Int) : Prop := 0 ≤ p0 ∧ p0 ≤ pos ∧ pos ≤ lim ∧ lim ≤ 2000 ∧ ∀ j, p0 ≤ j → j < pos → tkB (T j)
theorem zx0_start {lim pos : Int} {T : Int → Int} {p0 : Int} (h : pos ≤ lim) (e : p0 = pos) (h0 : 0 ≤ pos ∧ lim ≤ 2000) : ZX0 lim pos T p0 := ⟨by omega, by omega, h, h0.2, fun j a b => by omega⟩
theorem zx0_step {lim pos pos_zq : Int} {T : Int → Int} {p0 : Int} (hT : BTB T) (h : ZX0 lim pos T p0) (q : pos < lim) (hc : T pos % 256 = 32 ∨ T pos % 256 = 10) (e : pos_zq = pos + 1) : ZX0 lim pos_zq T p0 := by
  obtain ⟨a0, a1, a2, a3, a4⟩ := h
  have z := hT pos (by omega) (by omega)
  refine ⟨a0, by omega, by omega, a3, fun j b1 b2 => ?_⟩
  by_cases w : j = pos
  · subst w; unfold tkB; omega
  · exact a4 j b1 (by omega)
/-- a token begins -/
def ZX1 (lim pos : Int) (T : Int → Int) (p0 : Int) : Prop := ZX0 lim pos T p0 ∧ (pos < lim → ¬ tkB (T pos))
theorem zx1_mk {lim pos : Int} {T : Int → Int} {p0 : Int} (h : ZX0 lim pos T p0) (hc : pos < lim → T pos % 256 ≠ 32) (hd : pos < lim → T pos % 256 ≠ 10) : ZX1 lim pos T p0 := by
  refine ⟨h, fun q => ?_⟩
  have := hc q
  have := hd q
  unfold tkB
  omega
/-- a name or number goes on: P its bytes -/
def ZXG (P : Int → Prop) (lim pos place frm : Int) (T : Int → Int) (p0 : Int) : Prop := frm = place ∧ ZX1 lim place T p0 ∧ place < lim ∧ place ≤ pos ∧ pos ≤ lim ∧ ∀ j, place ≤ j → j < pos → P (T j)
def ZXL (lim pos place frm : Int) (T : Int → Int) (p0 : Int) : Prop := ZXG tkN lim pos place frm T p0 ∧ tkL (T place)
def ZXN (lim pos place frm : Int) (T : Int → Int) (p0 : Int) : Prop := ZXL lim pos place frm T p0 ∧ pos < lim ∧ tkN (T pos)
def ZXD (lim pos place value frm : Int) (T : Int → Int) (p0 : Int) : Prop := ZXG tkD lim pos place frm T p0 ∧ tkD (T place) ∧ 0 ≤ value ∧ (pos = place → value = 0) ∧ (place < pos → pos ≤ place + 3 → value ≤ 999 ∧ value = tkV T place pos)
/-- it ends -/
def ZXM (lim pos place frm : Int) (T : Int → Int) (p0 : Int) : Prop := ZXL lim pos place frm T p0 ∧ (pos = lim ∨ ¬ tkN (T pos))
def ZXE (lim pos place value frm : Int) (T : Int → Int) (p0 : Int) : Prop := ZXD lim pos place value frm T p0 ∧ (pos = lim ∨ ¬ tkD (T pos))
/-- a sign, or none -/
def ZXS (lim pos place frm : Int) (T : Int → Int) (p0 c : Int) : Prop := frm = place ∧ pos = place ∧ ZX1 lim place T p0 ∧ place < lim ∧ ¬ tkL (T place) ∧ ¬ tkD (T place) ∧ c = T place % 256
def ZSG (c : Int) : Prop := c = 123 ∨ c = 125 ∨ c = 91 ∨ c = 93 ∨ c = 59 ∨ c = 61 ∨ c = 45 ∨ c = 62
def ZXS1 (lim pos place frm : Int) (T : Int → Int) (p0 c : Int) : Prop := ZXS lim pos place frm T p0 c ∧ ZSG c
theorem tkN_pos {c : Int} (h : tkN c) : 48 ≤ c ∧ c ≤ 122 := by unfold tkN tkL tkD at h; omega
theorem zxl_start {lim pos place frm : Int} {T : Int → Int} {p0 : Int} (hT : BTB T) (h : ZX1 lim pos T p0) (q : pos < lim) (hc : (97 ≤ T pos % 256 ∧ T pos % 256 ≤ 122) ∨ (65 ≤ T pos % 256 ∧ T pos % 256 ≤ 90)) (e1 : place = pos) (e2 : frm = pos) : ZXL lim pos place frm T p0 := by
  rw [e1, e2]
  have z := hT pos (by have := h.1; obtain ⟨_, _, _, _, _⟩ := this; omega) (by have := h.1; obtain ⟨_, _, _, _, _⟩ := this; omega)
  refine ⟨⟨rfl, h, q, by omega, by omega, fun j a b => by omega⟩, ?_⟩
  unfold tkL; omega
theorem zxg_lim {P : Int → Prop} {lim pos place frm : Int} {T : Int → Int} {p0 : Int} (h : ZXG P lim pos place frm T p0) : 0 ≤ place ∧ place ≤ pos ∧ pos ≤ lim ∧ lim ≤ 2000 := by
  obtain ⟨a1, ⟨⟨b0, b1, b2, b3, b4⟩, b5⟩, a3, a4, a5, a6⟩ := h
  exact ⟨by omega, a4, a5, b3⟩
theorem zxn_mk {lim pos place frm : Int} {T : Int → Int} {p0 : Int} (hT : BTB T) (h : ZXL lim pos place frm T p0) (q : pos < lim) (hc : (97 ≤ T pos % 256 ∧ T pos % 256 ≤ 122) ∨ (65 ≤ T pos % 256 ∧ T pos % 256 ≤ 90) ∨ (48 ≤ T pos % 256 ∧ T pos % 256 ≤ 57) ∨ T pos % 256 = 95) : ZXN lim pos place frm T p0 := by
  have w := zxg_lim h.1
  have z := hT pos (by omega) (by omega)
  refine ⟨h, q, ?_⟩
  unfold tkN tkL tkD; omega
theorem zxl_step {lim pos pos_zq place frm : Int} {T : Int → Int} {p0 : Int} (h : ZXN lim pos place frm T p0) (e : pos_zq = pos + 1) : ZXL lim pos_zq place frm T p0 := by
  obtain ⟨⟨⟨a1, a2, a3, a4, a5, a6⟩, a7⟩, q, hn⟩ := h
  refine ⟨⟨a1, a2, a3, by omega, by omega, fun j b1 b2 => ?_⟩, a7⟩
  by_cases w : j = pos
  · subst w; exact hn
  · exact a6 j b1 (by omega)
theorem zxm_mk {lim pos place frm : Int} {T : Int → Int} {p0 : Int} (h : ZXL lim pos place frm T p0) (hc : pos < lim → ¬ ((97 ≤ T pos % 256 ∧ T pos % 256 ≤ 122) ∨ (65 ≤ T pos % 256 ∧ T pos % 256 ≤ 90) ∨ (48 ≤ T pos % 256 ∧ T pos % 256 ≤ 57) ∨ T pos % 256 = 95)) : ZXM lim pos place frm T p0 := by
  refine ⟨h, ?_⟩
  rcases (show pos < lim ∨ lim ≤ pos by omega) with z | z
  · right
    have := hc z
    unfold tkN tkL tkD; omega
  · left; have := (zxg_lim h.1).2.2.1; omega
theorem tkr_name {lim pos place value frm kind : Int} {T : Int → Int} {p0 : Int} (h : ZXM lim pos place frm T p0) (k : (pos ≤ place + 8 ∧ kind = 1) ∨ (place + 8 < pos ∧ kind = 4)) : TKR lim pos kind place value frm T p0 := by
  obtain ⟨⟨⟨a1, ⟨⟨b0, b1, b2, _, b3⟩, b4⟩, a3, a4, a5, a6⟩, a7⟩, a8⟩ := h
  have q : place < pos := by
    rcases (show place < pos ∨ pos ≤ place by omega) with z | z
    · exact z
    · have e : pos = place := by omega
      rcases a8 with w | w
      · omega
      · rw [e] at w; exact absurd (Or.inl a7) w
  refine ⟨a1, 0, ⟨b1, b2, b3, Or.inr ⟨a3, b4 a3, Or.inl ⟨a7, ⟨q, a5, a6, a8⟩, rfl, k⟩⟩⟩, fun w => ?_⟩
  omega
theorem zxd_start {lim pos place value frm : Int} {T : Int → Int} {p0 : Int} (hT : BTB T) (h : ZX1 lim pos T p0) (q : pos < lim) (hc : 48 ≤ T pos % 256 ∧ T pos % 256 ≤ 57) (e1 : place = pos) (e2 : frm = pos) (e3 : value = 0) : ZXD lim pos place value frm T p0 := by
  rw [e1, e2]
  have z := hT pos (by have := h.1; obtain ⟨_, _, _, _, _⟩ := this; omega) (by have := h.1; obtain ⟨_, _, _, _, _⟩ := this; omega)
  refine ⟨⟨rfl, h, q, by omega, by omega, fun j a b => by omega⟩, ?_, by omega, fun _ => e3, fun a => by omega⟩
  unfold tkD; omega
theorem zxd_step {lim pos pos_zq place value value_zq frm c : Int} {T : Int → Int} {p0 : Int} (hT : BTB T) (h : ZXD lim pos place value frm T p0) (q0 : pos < lim) (h1 : c = T pos % 256) (hc : 48 ≤ c ∧ c ≤ 57) (e : pos_zq = pos + 1) (v1 : value ≤ 99999 → value_zq = 10 * value + c - 48) (v2 : 99999 < value → value_zq = value) : ZXD lim pos_zq place value_zq frm T p0 := by
  have w0 := zxg_lim h.1
  obtain ⟨⟨a1, a2, a3, a4, a5, a6⟩, a7, a8, a9, a10⟩ := h
  have hb := hT pos (by omega) (by omega)
  have hp : T pos = c := by omega
  refine ⟨⟨a1, a2, a3, by omega, by omega, fun j b1 b2 => ?_⟩, a7, ?_, fun w => by omega, fun w1 w2 => ?_⟩
  · by_cases w : j = pos
    · subst w; unfold tkD; omega
    · exact a6 j b1 (by omega)
  · rcases (show 99999 < value ∨ value ≤ 99999 by omega) with w | w
    · have := v2 w; omega
    · have := v1 w; omega
  · by_cases y1 : pos = place
    · have y2 := a9 y1
      have y3 := v1 (by omega)
      subst y1
      refine ⟨by omega, ?_⟩
      unfold tkV
      rw [if_pos e]; omega
    · obtain ⟨y2, y3⟩ := a10 (by omega) (by omega)
      have y4 := v1 (by omega)
      by_cases y5 : pos = place + 1
      · subst y5
        unfold tkV at y3 ⊢
        rw [if_pos rfl] at y3
        rw [if_neg (by omega), if_pos (by omega)]
        have := a6 place (by omega) (by omega)
        unfold tkD at this
        exact ⟨by omega, by omega⟩
      · have y6 : pos = place + 2 := by omega
        subst y6
        unfold tkV at y3 ⊢
        rw [if_neg (by omega), if_pos rfl] at y3
        rw [if_neg (by omega), if_neg (by omega)]
        have q1 := a6 place (by omega) (by omega)
        have q2 := a6 (place + 1) (by omega) (by omega)
        unfold tkD at q1 q2
        exact ⟨by omega, by omega⟩
theorem zxe_mk {lim pos place value frm : Int} {T : Int → Int} {p0 : Int} (h : ZXD lim pos place value frm T p0) (hc : pos < lim → ¬ (48 ≤ T pos % 256 ∧ T pos % 256 ≤ 57)) : ZXE lim pos place value frm T p0 := by
  refine ⟨h, ?_⟩
  rcases (show pos < lim ∨ lim ≤ pos by omega) with z | z
  · right
    have := hc z
    unfold tkD; omega
  · left; have := (zxg_lim h.1).2.2.1; omega
theorem tkr_num {lim pos place value frm kind : Int} {T : Int → Int} {p0 : Int} (h : ZXE lim pos place value frm T p0) (k : (pos ≤ place + 3 ∧ kind = 2) ∨ (place + 3 < pos ∧ kind = 4)) : TKR lim pos kind place value frm T p0 := by
  obtain ⟨⟨⟨a1, ⟨⟨b0, b1, b2, _, b3⟩, b4⟩, a3, a4, a5, a6⟩, a7, a9, a10, a11⟩, a8⟩ := h
  have q : place < pos := by
    rcases (show place < pos ∨ pos ≤ place by omega) with z | z
    · exact z
    · have e : pos = place := by omega
      rcases a8 with w | w
      · omega
      · rw [e] at w; exact absurd a7 w
  rcases k with ⟨k1, k2⟩ | ⟨k1, k2⟩
  · refine ⟨a1, value, ⟨b1, b2, b3, Or.inr ⟨a3, b4 a3, Or.inr (Or.inl ⟨a7, ⟨q, a5, a6, a8⟩, Or.inl ⟨k1, k2, (a11 q k1).2⟩⟩)⟩⟩, fun w => rfl⟩
  · refine ⟨a1, 0, ⟨b1, b2, b3, Or.inr ⟨a3, b4 a3, Or.inr (Or.inl ⟨a7, ⟨q, a5, a6, a8⟩, Or.inr ⟨k1, k2, rfl⟩⟩)⟩⟩, fun w => ?_⟩
    omega
theorem tkr_end {lim pos place value frm kind : Int} {T : Int → Int} {p0 : Int} (h : ZX1 lim pos T p0) (q : lim ≤ pos) (e1 : place = pos) (e2 : frm = pos) (e3 : kind = 0) : TKR lim pos kind place value frm T p0 := by
  rw [e1, e2]
  obtain ⟨⟨b0, b1, b2, _, b3⟩, b4⟩ := h
  exact ⟨rfl, 0, ⟨b1, b2, b3, Or.inl ⟨by omega, rfl, e3, rfl⟩⟩, fun w => by omega⟩
theorem zxs_mk {lim pos place frm c : Int} {T : Int → Int} {p0 : Int} (h : ZX1 lim pos T p0) (q : pos < lim) (h1 : c = T pos % 256) (hc : ¬ ((97 ≤ c ∧ c ≤ 122) ∨ (65 ≤ c ∧ c ≤ 90))) (hd : ¬ (48 ≤ c ∧ c ≤ 57)) (e1 : place = pos) (e2 : frm = pos) : ZXS lim pos place frm T p0 c := by
  rw [e1, e2]
  refine ⟨rfl, rfl, h, q, ?_, ?_, h1⟩
  · unfold tkL; omega
  · unfold tkD; omega
theorem tkr_sign {lim pos pos_zq place value frm kind c : Int} {T : Int → Int} {p0 : Int} (hT : BTB T) (h : ZXS lim pos place frm T p0 c) (e : pos_zq = pos + 1) (hv : value = c) (hk : (kind = 3 ∧ ZSG c) ∨ (kind = 4 ∧ ¬ ZSG c)) : TKR lim pos_zq kind place value frm T p0 := by
  obtain ⟨a1, a2, ⟨⟨b0, b1, b2, bl, b3⟩, b4⟩, a3, a4, a5, a6⟩ := h
  subst a2
  have hb := hT pos (by omega) (by omega)
  rcases hk with ⟨k1, k2⟩ | ⟨k1, k2⟩
  · have hc : T pos = c := by unfold ZSG at k2; omega
    refine ⟨a1, c, ⟨b1, b2, b3, Or.inr ⟨a3, b4 a3, Or.inr (Or.inr ⟨a4, a5, e, Or.inl ⟨?_, k1, hc.symm⟩⟩)⟩⟩, fun w => hv.symm⟩
    unfold tkS; rw [hc]; exact k2
  · refine ⟨a1, 0, ⟨b1, b2, b3, Or.inr ⟨a3, b4 a3, Or.inr (Or.inr ⟨a4, a5, e, Or.inr ⟨?_, k1, rfl⟩⟩)⟩⟩, fun w => ?_⟩
    · unfold tkS; unfold ZSG at k2; omega
    · omega
/-- a word's question, and its answer -/
def zWD (W : (Int → Int) → Int → Int → Int → Prop) (kind pos lim frm : Int) (T : Int → Int) (ans : Int) : Prop := pos ≤ lim → ((ans = 1 ∧ W T kind frm pos) ∨ (ans = 0 ∧ ¬ W T kind frm pos))
def WQn (kind pos lim frm : Int) (T : Int → Int) (ans : Int) : Prop := zWD isWn kind pos lim frm T ans
def WQg (kind pos lim frm : Int) (T : Int → Int) (ans : Int) : Prop := zWD isWg kind pos lim frm T ans
def WQs (kind pos lim frm : Int) (T : Int → Int) (ans : Int) : Prop := zWD isWs kind pos lim frm T ans
def WQw (kind pos lim frm : Int) (T : Int → Int) (ans : Int) : Prop := zWD isWw kind pos lim frm T ans
def NMQ (kind pos lim frm : Int) (T : Int → Int) (ans : Int) : Prop := pos ≤ lim → ((ans = 1 ∧ isNm T kind frm pos) ∨ (ans = 0 ∧ ¬ isNm T kind frm pos))
theorem nmq_1 {kind pos lim frm a b ans : Int} {T : Int → Int} (h1 : WQn kind pos lim frm T a) (h2 : WQg kind pos lim frm T b) (hk : kind = 1) (ha : a = 0) (hb : b = 0) (e : ans = 1) : NMQ kind pos lim frm T ans := by
  intro q
  rcases h1 q with z | z
  · omega
  · rcases h2 q with w | w
    · omega
    · exact Or.inl ⟨e, hk, z.2, w.2⟩
theorem nmq_n {kind pos lim frm a ans : Int} {T : Int → Int} (h1 : WQn kind pos lim frm T a) (ha : a ≠ 0) (e : ans = 0) : NMQ kind pos lim frm T ans := by
  intro q
  rcases h1 q with z | z
  · exact Or.inr ⟨e, fun w => w.2.1 z.2⟩
  · omega
theorem nmq_g {kind pos lim frm a ans : Int} {T : Int → Int} (h1 : WQg kind pos lim frm T a) (ha : a ≠ 0) (e : ans = 0) : NMQ kind pos lim frm T ans := by
  intro q
  rcases h1 q with z | z
  · exact Or.inr ⟨e, fun w => w.2.2 z.2⟩
  · omega
theorem nmq_k {kind pos lim frm ans : Int} {T : Int → Int} (hk : kind ≠ 1) (e : ans = 0) : NMQ kind pos lim frm T ans := fun _ => Or.inr ⟨e, fun w => hk w.1⟩
def SGQ (fault kind value : Int) (c ans : Int) : Prop := (ans = 1 ∧ fault = 0 ∧ kind = 3 ∧ value = c) ∨ (ans = 0 ∧ ¬ (fault = 0 ∧ kind = 3 ∧ value = c))
/-- the node of the name that stands there, by the rows themselves -/
def KNQ (pos lim frm r : Int) (A T : Int → Int) (ans : Int) : Prop := pos ≤ lim → (∀ j, frm ≤ j → j < pos → tkN (T j)) → KN T (fun j => A (r + j)) frm pos ans
def nmA (pos frm r : Int) (A T : Int → Int) (i : Int) : Prop := nmR T (fun j => A (r + j)) i frm pos
/-- nodes below i have other names -/
def KNL (pos lim frm r : Int) (A T : Int → Int) (i : Int) : Prop := pos ≤ lim → (∀ j, frm ≤ j → j < pos → tkN (T j)) → ∀ j, 0 ≤ j → j < i → ¬ nmA pos frm r A T j
/-- node i's first k letters -/
def KNI (pos lim frm r : Int) (A T : Int → Int) (i k is : Int) : Prop := pos ≤ lim → (∀ j, frm ≤ j → j < pos → tkN (T j)) → (is = 1 ∧ A (r + (195 + i)) = pos - frm ∧ ∀ j, 0 ≤ j → j < k → A (r + (3 + 8 * i + j)) = T (frm + j)) ∨ (is = 0 ∧ ¬ nmA pos frm r A T i)
theorem knl_0 {pos lim frm r : Int} {A T : Int → Int} {i : Int} (h : i = 0) : KNL pos lim frm r A T i := fun _ _ j a b => by omega
theorem knl_step {pos lim frm r : Int} {A T : Int → Int} {i i_zq k is : Int} (h : KNL pos lim frm r A T i) (h2 : KNI pos lim frm r A T i k is) (hi : is = 0) (e : i_zq = i + 1) : KNL pos lim frm r A T i_zq := by
  intro q w j a b
  by_cases z : j = i
  · rcases h2 q w with y | y
    · omega
    · rw [z]; exact y.2
  · exact h q w j a (by omega)
theorem kni_0 {pos lim frm r l : Int} {A T : Int → Int} {i k is : Int} (hk : k = 0) (hl : l = A (r + (195 + i))) (h1 : l = pos - frm → is = 1) (h0 : l ≠ pos - frm → is = 0) : KNI pos lim frm r A T i k is := by
  intro q w
  by_cases z : l = pos - frm
  · exact Or.inl ⟨h1 z, by omega, fun j a b => by omega⟩
  · refine Or.inr ⟨h0 z, fun y => z ?_⟩
    have y1 : A (r + (195 + i)) = pos - frm := y.1
    omega
theorem kni_step {pos lim frm r a c : Int} {A T : Int → Int} {i k k_zq is is_zq p : Int} (h : KNI pos lim frm r A T i k is) (h1 : is = 1) (hk : 0 ≤ k) (hk2 : k < pos - frm) {q0 : Int} (ha : a = A q0) (hq0 : q0 = r + (3 + 8 * i + k)) (hp : p = frm + k) (c1 : p + 1 ≤ lim → c = T p % 256) (e : k_zq = k + 1) (h2 : a = c → is_zq = 1) (h3 : a ≠ c → is_zq = 0) : KNI pos lim frm r A T i k_zq is_zq := by
  rw [hq0] at ha
  intro q w
  rcases h q w with ⟨y1, y2, y3⟩ | y
  · have hc : c = T (frm + k) := by
      have z := c1 (by omega)
      have z2 := tkN_pos (w (frm + k) (by omega) (by omega))
      rw [z, hp]; omega
    by_cases z : a = c
    · refine Or.inl ⟨h2 z, y2, fun j b1 b2 => ?_⟩
      by_cases y : j = k
      · rw [y, ← ha, z, hc]
      · exact y3 j b1 (by omega)
    · refine Or.inr ⟨h3 z, fun y => z ?_⟩
      have := y.2 k hk hk2
      rw [ha, hc]; exact this
  · omega
theorem knq_of {pos lim frm r n : Int} {A T : Int → Int} {i k is ans : Int} (h : KNL pos lim frm r A T i) (h2 : KNI pos lim frm r A T i k is) (h1 : is = 1) (hk : pos - frm ≤ k) (hn : n = A (r + 0)) (hi : 0 ≤ i) (hi2 : i < n) (e : ans = i) : KNQ pos lim frm r A T ans := by
  intro q w
  rcases h2 q w with ⟨y1, y2, y3⟩ | y
  · refine Or.inr ⟨by omega, ?_, ?_, fun j a b => h q w j a (by omega)⟩
    · show ans < A (r + 0); omega
    · rw [e]; exact ⟨y2, fun j a b => y3 j a (by omega)⟩
  · omega
theorem knq_no {pos lim frm r n : Int} {A T : Int → Int} {i ans : Int} (h : KNL pos lim frm r A T i) (hn : n = A (r + 0)) (hi : n ≤ i) (e : ans = -1) : KNQ pos lim frm r A T ans := by
  intro q w
  refine Or.inl ⟨e, fun j a b => h q w j a ?_⟩
  have b_zq : j < A (r + 0) := b
  omega
/-- what the rows say, the state's row says too -/
theorem kn_rpr {A T ρ : Int → Int} {r b e i : Int} (h : RPR A r ρ) (hn : 0 ≤ ρ 0 ∧ ρ 0 ≤ 24) (he : e ≤ b + 8) (k : KN T (fun j => A (r + j)) b e i) : KN T ρ b e i := by
  have h0 : A (r + 0) = ρ 0 := h 0 (by omega) (by omega)
  have key : ∀ j, 0 ≤ j → j < ρ 0 → (nmR T ρ j b e ↔ nmR T (fun j => A (r + j)) j b e) := by
    intro j a c
    have q1 : A (r + (195 + j)) = ρ (195 + j) := h (195 + j) (by omega) (by omega)
    unfold nmR
    constructor
    · rintro ⟨y1, y2⟩
      refine ⟨by show A (r + (195 + j)) = _; omega, fun w a1 a2 => ?_⟩
      show A (r + (3 + 8 * j + w)) = _
      rw [h (3 + 8 * j + w) (by omega) (by omega)]; exact y2 w a1 a2
    · rintro ⟨y1, y2⟩
      have y1_zq : A (r + (195 + j)) = e - b := y1
      refine ⟨by omega, fun w a1 a2 => ?_⟩
      rw [← h (3 + 8 * j + w) (by omega) (by omega)]; exact y2 w a1 a2
  rcases k with ⟨a, k⟩ | ⟨a0, a1, a2, k⟩
  · refine Or.inl ⟨a, fun j x y => ?_⟩
    rw [key j x y]
    exact k j x (by show j < A (r + 0); omega)
  · have a1_zq : i < A (r + 0) := a1
    refine Or.inr ⟨a0, by omega, (key i a0 (by omega)).mpr a2, fun j x y => ?_⟩
    rw [key j x (by omega)]
    exact k j x y
end
section
-- the reference's reader: predicates, and what each step gives
def zRS0 (lim pos kind place value frm fault r : Int) (T A : Int → Int) (g d : Int) : Prop := RSQ (RPR A r) lim pos kind place value frm fault T 0 0 0 0 g d
def zTS0 (lim fault r : Int) (T A : Int → Int) (g d p : Int) : Prop := TSQ (RPR A r) lim fault T 0 0 0 0 g d p
def zRS1 (lim pos kind place value frm fault r : Int) (T A : Int → Int) (g d : Int) : Prop := RSQ (RPR A r) lim pos kind place value frm fault T 1 0 0 0 g d
def zTS1 (lim fault r : Int) (T A : Int → Int) (g d p : Int) : Prop := TSQ (RPR A r) lim fault T 1 0 0 0 g d p
def zRS2 (lim pos kind place value frm fault r : Int) (T A : Int → Int) (x g d : Int) : Prop := RSQ (RPR A r) lim pos kind place value frm fault T 2 x 0 0 g d
def zTS2 (lim fault r : Int) (T A : Int → Int) (x g d p : Int) : Prop := TSQ (RPR A r) lim fault T 2 x 0 0 g d p
def zRS3 (lim pos kind place value frm fault r : Int) (T A : Int → Int) (x y g d : Int) : Prop := RSQ (RPR A r) lim pos kind place value frm fault T 3 x y 0 g d
def zTS3 (lim fault r : Int) (T A : Int → Int) (x y g d p : Int) : Prop := TSQ (RPR A r) lim fault T 3 x y 0 g d p
def zRS4 (lim pos kind place value frm fault r : Int) (T A : Int → Int) (x y z g d : Int) : Prop := RSQ (RPR A r) lim pos kind place value frm fault T 4 x y z g d
def zTS4 (lim fault r : Int) (T A : Int → Int) (x y z g d p : Int) : Prop := TSQ (RPR A r) lim fault T 4 x y z g d p
def zRS5 (lim pos kind place value frm fault r : Int) (T A : Int → Int) (g d : Int) : Prop := RSQ (RPR A r) lim pos kind place value frm fault T 5 0 0 0 g d
def zTS5 (lim fault r : Int) (T A : Int → Int) (g d p : Int) : Prop := TSQ (RPR A r) lim fault T 5 0 0 0 g d p
def zRS7 (lim pos kind place value frm fault r : Int) (T A : Int → Int) (g d : Int) : Prop := RSQ (RPR A r) lim pos kind place value frm fault T 7 0 0 0 g d
def zTS7 (lim fault r : Int) (T A : Int → Int) (g d p : Int) : Prop := TSQ (RPR A r) lim fault T 7 0 0 0 g d p
def zRS8 (lim pos kind place value frm fault r : Int) (T A : Int → Int) (x y g d : Int) : Prop := RSQ (RPR A r) lim pos kind place value frm fault T 8 x y 0 g d
def zTS8 (lim fault r : Int) (T A : Int → Int) (x y g d p : Int) : Prop := TSQ (RPR A r) lim fault T 8 x y 0 g d p
def zRS9s (lim pos kind place value frm fault r : Int) (T A : Int → Int) (x g d : Int) : Prop := RSQ (RPR A r) lim pos kind place value frm fault T 9 x 0 0 g d
def zTS9s (lim fault r : Int) (T A : Int → Int) (x g d p : Int) : Prop := TSQ (RPR A r) lim fault T 9 x 0 0 g d p
def zRS9w (lim pos kind place value frm fault r : Int) (T A : Int → Int) (y g d : Int) : Prop := RSQ (RPR A r) lim pos kind place value frm fault T 9 (-1) y 0 g d
def zTS9w (lim fault r : Int) (T A : Int → Int) (y g d p : Int) : Prop := TSQ (RPR A r) lim fault T 9 (-1) y 0 g d p
def zRS10s (lim pos kind place value frm fault r : Int) (T A : Int → Int) (x g d : Int) : Prop := RSQ (RPR A r) lim pos kind place value frm fault T 10 x 0 0 g d
def zTS10s (lim fault r : Int) (T A : Int → Int) (x g d p : Int) : Prop := TSQ (RPR A r) lim fault T 10 x 0 0 g d p
def zRS10w (lim pos kind place value frm fault r : Int) (T A : Int → Int) (y g d : Int) : Prop := RSQ (RPR A r) lim pos kind place value frm fault T 10 (-1) y 0 g d
def zTS10w (lim fault r : Int) (T A : Int → Int) (y g d p : Int) : Prop := TSQ (RPR A r) lim fault T 10 (-1) y 0 g d p
def zRS11s (lim pos kind place value frm fault r : Int) (T A : Int → Int) (x g d : Int) : Prop := RSQ (RPR A r) lim pos kind place value frm fault T 11 x 0 0 g d
def zTS11s (lim fault r : Int) (T A : Int → Int) (x g d p : Int) : Prop := TSQ (RPR A r) lim fault T 11 x 0 0 g d p
def zRS11w (lim pos kind place value frm fault r : Int) (T A : Int → Int) (y g d : Int) : Prop := RSQ (RPR A r) lim pos kind place value frm fault T 11 (-1) y 0 g d
def zTS11w (lim fault r : Int) (T A : Int → Int) (y g d p : Int) : Prop := TSQ (RPR A r) lim fault T 11 (-1) y 0 g d p
def zRS12s (lim pos kind place value frm fault r : Int) (T A : Int → Int) (x z g d : Int) : Prop := RSQ (RPR A r) lim pos kind place value frm fault T 12 x 0 z g d
def zTS12s (lim fault r : Int) (T A : Int → Int) (x z g d p : Int) : Prop := TSQ (RPR A r) lim fault T 12 x 0 z g d p
def zRS12w (lim pos kind place value frm fault r : Int) (T A : Int → Int) (y z g d : Int) : Prop := RSQ (RPR A r) lim pos kind place value frm fault T 12 (-1) y z g d
def zTS12w (lim fault r : Int) (T A : Int → Int) (y z g d p : Int) : Prop := TSQ (RPR A r) lim fault T 12 (-1) y z g d p
def zRS13 (lim pos kind place value frm fault r : Int) (T A : Int → Int) (g d : Int) : Prop := RSQ (RPR A r) lim pos kind place value frm fault T 13 0 0 0 g d
def zTS13 (lim fault r : Int) (T A : Int → Int) (g d p : Int) : Prop := TSQ (RPR A r) lim fault T 13 0 0 0 g d p
def zRP13s (lim pos kind place value frm fault r : Int) (T A : Int → Int) (x z g d : Int) : Prop := RSQ (fun ρ => ∃ ρ' : Int → Int, RPR A r ρ' ∧ ρ = ruR ρ' (219 + x) z) lim pos kind place value frm fault T 13 0 0 0 g d
def zTP13s (lim fault r : Int) (T A : Int → Int) (x z g d p : Int) : Prop := TSQ (fun ρ => ∃ ρ' : Int → Int, RPR A r ρ' ∧ ρ = ruR ρ' (219 + x) z) lim fault T 13 0 0 0 g d p
def zRP13w (lim pos kind place value frm fault r : Int) (T A : Int → Int) (y z g d : Int) : Prop := RSQ (fun ρ => ∃ ρ' : Int → Int, RPR A r ρ' ∧ ρ = swR ρ' y z) lim pos kind place value frm fault T 13 0 0 0 g d
def zTP13w (lim fault r : Int) (T A : Int → Int) (y z g d p : Int) : Prop := TSQ (fun ρ => ∃ ρ' : Int → Int, RPR A r ρ' ∧ ρ = swR ρ' y z) lim fault T 13 0 0 0 g d p
def zRP8 (lim pos kind place value frm fault r : Int) (T A : Int → Int) (x y w z g d : Int) : Prop := RSQ (fun ρ => ∃ ρ' : Int → Int, RPR A r ρ' ∧ ρ = neR ρ' w x z) lim pos kind place value frm fault T 8 x y 0 g d
def zTP8 (lim fault r : Int) (T A : Int → Int) (x y w z g d p : Int) : Prop := TSQ (fun ρ => ∃ ρ' : Int → Int, RPR A r ρ' ∧ ρ = neR ρ' w x z) lim fault T 8 x y 0 g d p
def zRSZ (lim pos kind place value frm fault r : Int) (T A : Int → Int) : Prop := RSQ (RPR A r) lim pos kind place value frm fault T 0 0 0 0 0 0
def zTSZ (lim fault r : Int) (T A : Int → Int) (p : Int) : Prop := TSQ (RPR A r) lim fault T 0 0 0 0 0 0 p
/-- an item begins: neither the end nor a brace that closes -/
def zRSI (lim pos kind place value frm fault r : Int) (T A : Int → Int) (g d : Int) : Prop := zRS0 lim pos kind place value frm fault r T A g d ∧ ¬ (kind = 0 ∧ d = 0) ∧ ¬ (kind = 3 ∧ value = 125 ∧ 0 < d)
def zRSE (lim pos kind place value frm fault r : Int) (T A : Int → Int) (g d : Int) : Prop := zRSI lim pos kind place value frm fault r T A g d ∧ ¬ isWn T kind place pos ∧ ¬ isWg T kind place pos
def zRSG (lim pos kind place value frm fault r : Int) (T A : Int → Int) (g d : Int) : Prop := zRS0 lim pos kind place value frm fault r T A g d ∧ isWg T kind place pos
def zOS0 (lim pos kind place value frm fault fp r : Int) (T A : Int → Int) (g d : Int) : Prop := FS lim fault fp T ∨ zRS0 lim pos kind place value frm fault r T A g d
def zOSZ (lim pos kind place value frm fault fp r : Int) (T A : Int → Int) : Prop := FS lim fault fp T ∨ zRSZ lim pos kind place value frm fault r T A
def zOS2 (lim pos kind place value frm fault fp r : Int) (T A : Int → Int) (x g d : Int) : Prop := FS lim fault fp T ∨ zRS2 lim pos kind place value frm fault r T A x g d
def zOS3 (lim pos kind place value frm fault fp r : Int) (T A : Int → Int) (x g d : Int) : Prop := FS lim fault fp T ∨ zRS3 lim pos kind place value frm fault r T A x (A (r + 1)) g d
def zOP8 (lim pos kind place value frm fault fp r : Int) (T A : Int → Int) (x y w z g d : Int) : Prop := FS lim fault fp T ∨ zRP8 lim pos kind place value frm fault r T A x y w z g d
/-- at the head of a row of edges -/
def zOSL (lim pos kind place value frm fault fp r : Int) (T A : Int → Int) (x y g d : Int) : Prop := FS lim fault fp T ∨ zRS8 lim pos kind place value frm fault r T A x y g d ∨ (zRS3 lim pos kind place value frm fault r T A x y g d ∧ kind = 3 ∧ (value = 45 ∨ value = 62))
/-- what of() gives -/
def zOFs (lim pos kind place value frm fault fp r : Int) (T A : Int → Int) (x ans g d : Int) : Prop := (ans = 0 ∧ FS lim fault fp T) ∨ (ans = 0 ∧ zRS2 lim pos kind place value frm fault r T A x g d ∧ ¬ (kind = 3 ∧ value = 91)) ∨ (0 < ans ∧ zRP13s lim pos kind place value frm fault r T A x ans g d)
def zOFw (lim pos kind place value frm fault fp r : Int) (T A : Int → Int) (y ans g d : Int) : Prop := (ans = 0 ∧ FS lim fault fp T) ∨ (ans = 0 ∧ (∃ x, zRS8 lim pos kind place value frm fault r T A x y g d) ∧ ¬ (kind = 3 ∧ (value = 91 ∨ value = 45 ∨ value = 62))) ∨ (0 < ans ∧ zRP13w lim pos kind place value frm fault r T A y ans g d)
/-- ahead of of(): how it begins -/
def zOBs (lim pos kind place value frm fault fp r : Int) (T A : Int → Int) (x g d : Int) : Prop := FS lim fault fp T ∨ (0 ≤ x ∧ zRS2 lim pos kind place value frm fault r T A x g d)
def zOBw (lim pos kind place value frm fault fp r : Int) (T A : Int → Int) (y g d : Int) : Prop := FS lim fault fp T ∨ ((∃ x, zRS8 lim pos kind place value frm fault r T A x y g d) ∧ ¬ (kind = 3 ∧ (value = 45 ∨ value = 62)))
def zOIs (lim pos kind place value frm fault r : Int) (T A : Int → Int) (x z g d : Int) : Prop := 0 ≤ x ∧ ((z = 0 ∧ zRS9s lim pos kind place value frm fault r T A x g d) ∨ (0 < z ∧ zRS12s lim pos kind place value frm fault r T A x z g d ∧ ¬ (kind = 3 ∧ value = 93)))
def zOIw (lim pos kind place value frm fault r : Int) (T A : Int → Int) (y z g d : Int) : Prop := (z = 0 ∧ zRS9w lim pos kind place value frm fault r T A y g d) ∨ (0 < z ∧ zRS12w lim pos kind place value frm fault r T A y z g d ∧ ¬ (kind = 3 ∧ value = 93))
/-- weights are set: rows y to e - 1 -/
def zRWQ (lim pos kind place value frm fault r : Int) (T A : Int → Int) (y z e g d : Int) : Prop := RSQ (fun ρ => ∃ ρ' : Int → Int, ρ = swR ρ' y z ∧ ρ' 1 = A (r + 1) ∧ (e = y ∨ e ≤ A (r + 1)) ∧ ∀ j, 0 ≤ j → j < 539 → A (r + j) = if 363 + y ≤ j ∧ j < 363 + e then z else ρ' j) lim pos kind place value frm fault T 13 0 0 0 g d
def zOWQ (lim pos kind place value frm fault fp r : Int) (T A : Int → Int) (y z e g d : Int) : Prop := (0 < fault ∧ FS lim fault fp T) ∨ (fault = 0 ∧ z = 0 ∧ (∃ x, zRS8 lim pos kind place value frm fault r T A x y g d) ∧ ¬ (kind = 3 ∧ (value = 91 ∨ value = 45 ∨ value = 62))) ∨ (fault = 0 ∧ 0 < z ∧ zRWQ lim pos kind place value frm fault r T A y z e g d)
/-- a sign C is wanted: where it leads, or fault 1 -/
def NDQ (Q : (Int → Int) → Prop) (lim pos kind place value frm fault : Int) (T : Int → Int) (C c x y z g d : Int) : Prop := fault = 0 ∧ frm = place ∧ ∃ (m : Nat) (S : zS) (ρ : Int → Int) (v : Int), GR T lim m S ∧ S.1 < 100 ∧ Q ρ ∧ TK T lim S.2.2.2.2.2.2.1 kind place pos v ∧ (kind = 2 ∨ kind = 3 → v = value) ∧ gD T S kind place pos v = cI (kind = 3 ∧ v = C) (c, x, y, z, g, d, pos, ρ) (gF 1 place)
def Ns (lim pos kind place value frm fault r : Int) (T A : Int → Int) (g d : Int) : Prop := NDQ (RPR A r) lim pos kind place value frm fault T 59 0 0 0 0 g d
def zONs (lim pos kind place value frm fault fp r : Int) (T A : Int → Int) (g d : Int) : Prop := FS lim fault fp T ∨ Ns lim pos kind place value frm fault r T A g d
def Nes (lim pos kind place value frm fault r : Int) (T A : Int → Int) (x g d : Int) : Prop := 0 ≤ x ∧ NDQ (RPR A r) lim pos kind place value frm fault T 61 11 x 0 0 g d
def zONes (lim pos kind place value frm fault fp r : Int) (T A : Int → Int) (x g d : Int) : Prop := FS lim fault fp T ∨ Nes lim pos kind place value frm fault r T A x g d
def New (lim pos kind place value frm fault r : Int) (T A : Int → Int) (y g d : Int) : Prop := NDQ (RPR A r) lim pos kind place value frm fault T 61 11 (-1) y 0 g d
def zONew (lim pos kind place value frm fault fp r : Int) (T A : Int → Int) (y g d : Int) : Prop := FS lim fault fp T ∨ New lim pos kind place value frm fault r T A y g d
def No (lim pos kind place value frm fault r : Int) (T A : Int → Int) (g d : Int) : Prop := NDQ (RPR A r) lim pos kind place value frm fault T 123 0 0 0 0 g (d + 1)
def zONo (lim pos kind place value frm fault fp r : Int) (T A : Int → Int) (g d : Int) : Prop := FS lim fault fp T ∨ No lim pos kind place value frm fault r T A g d
def Nc (lim pos kind place value frm fault r : Int) (T A : Int → Int) (g d : Int) : Prop := NDQ (RPR A r) lim pos kind place value frm fault T 125 0 0 0 0 g d
def zONc (lim pos kind place value frm fault fp r : Int) (T A : Int → Int) (g d : Int) : Prop := FS lim fault fp T ∨ Nc lim pos kind place value frm fault r T A g d
def zRS7p (lim pos kind place value frm fault r : Int) (T A : Int → Int) (g d : Int) : Prop := RSQ (RPR A r) lim pos kind place value frm fault T 7 0 0 0 g (d + 1)
def zTS7p (lim fault r : Int) (T A : Int → Int) (g d p : Int) : Prop := TSQ (RPR A r) lim fault T 7 0 0 0 g (d + 1) p
def zOP0 (lim pos kind place value frm fault fp r : Int) (T A : Int → Int) (g d : Int) : Prop := FS lim fault fp T ∨ zRS0 lim pos kind place value frm fault r T A g (d + 1)
def zO11s (lim pos kind place value frm fault fp r : Int) (T A : Int → Int) (x g d : Int) : Prop := FS lim fault fp T ∨ (0 ≤ x ∧ zRS11s lim pos kind place value frm fault r T A x g d)
def zO11w (lim pos kind place value frm fault fp r : Int) (T A : Int → Int) (y g d : Int) : Prop := FS lim fault fp T ∨ zRS11w lim pos kind place value frm fault r T A y g d
def zO12s (lim pos kind place value frm fault r : Int) (T A : Int → Int) (x z g d : Int) : Prop := 0 ≤ x ∧ 0 < z ∧ zRS12s lim pos kind place value frm fault r T A x z g d
def zO12w (lim pos kind place value frm fault r : Int) (T A : Int → Int) (y z g d : Int) : Prop := 0 < z ∧ zRS12w lim pos kind place value frm fault r T A y z g d
def zNbs (lim pos kind place value frm fault r : Int) (T A : Int → Int) (x z g d : Int) : Prop := zO12s lim pos kind place value frm fault r T A x z g d ∧ kind = 3 ∧ value = 93
def zNbw (lim pos kind place value frm fault r : Int) (T A : Int → Int) (y z g d : Int) : Prop := zO12w lim pos kind place value frm fault r T A y z g d ∧ kind = 3 ∧ value = 93
def zNc (lim pos kind place value frm fault fp r : Int) (T A : Int → Int) (g d : Int) : Prop := FS lim fault fp T ∨ (kind = 3 ∧ value = 125 ∧ Nc lim pos kind place value frm fault r T A g d)
theorem ndq_go {Q : (Int → Int) → Prop} {lim pos kind place value frm fault C c x y z g d : Int} {T : Int → Int} (h : NDQ Q lim pos kind place value frm fault T C c x y z g d) (hk : kind = 3) (hv : value = C) : TSQ Q lim fault T c x y z g d pos := by
  obtain ⟨h0, _, m, S, ρ, v, h1, h2, h3, h4, h5, h6⟩ := h
  refine ⟨h0, m + 1, ρ, ⟨S, h1, h2, kind, place, pos, v, h4, ?_⟩, h3⟩
  rw [h6]
  exact (cI_t ⟨hk, by rw [h5 (Or.inr hk)]; exact hv⟩).symm
theorem ndq_flt {Q : (Int → Int) → Prop} {lim pos kind place value frm fault C c x y z g d : Int} {T : Int → Int} (h : NDQ Q lim pos kind place value frm fault T C c x y z g d) (hn : ¬ (kind = 3 ∧ value = C)) : FSX lim T 1 place := by
  obtain ⟨h0, _, m, S, ρ, v, h1, h2, h3, h4, h5, h6⟩ := h
  refine ⟨by omega, m + 1, S, h1, h2, kind, place, pos, v, h4, ?_⟩
  rw [h6]
  exact (cI_f (fun q => hn ⟨q.1, by rw [← h5 (Or.inr q.1)]; exact q.2⟩)).symm
theorem ndq_0 {Q : (Int → Int) → Prop} {lim pos kind place value frm fault C c x y z g d : Int} {T : Int → Int} (h : NDQ Q lim pos kind place value frm fault T C c x y z g d) : fault = 0 := h.1
theorem ndq_of {Q Q_zq : (Int → Int) → Prop} {lim pos kind place value frm fault c0 x0 y0 z0 g0 d0 C c x y z g d : Int} {T : Int → Int} (h : RSQ Q lim pos kind place value frm fault T c0 x0 y0 z0 g0 d0) (hc : c0 < 100) (hs : ∀ (p v : Int) (ρ : Int → Int), Q ρ → (kind = 2 ∨ kind = 3 → v = value) → ∃ ρ', Q_zq ρ' ∧ gD T (c0, x0, y0, z0, g0, d0, p, ρ) kind place pos v = cI (kind = 3 ∧ v = C) (c, x, y, z, g, d, pos, ρ') (gF 1 place)) : NDQ Q_zq lim pos kind place value frm fault T C c x y z g d := by
  obtain ⟨h0, he, m, ρ, p, v, h1, h2, h3, h4⟩ := h
  obtain ⟨ρ', q1, q2⟩ := hs p v ρ h2 h4
  exact ⟨h0, he, m, _, ρ', v, h1, hc, q1, h3, h4, q2⟩
theorem cI_congr {α : Type} {P : Prop} {a b b_zq : α} (h : ¬ P → b = b_zq) : cI P a b = cI P a b_zq := by
  by_cases q : P
  · rw [cI_t q, cI_t q]
  · rw [cI_f q, cI_f q]; exact h q
theorem ns_13 {lim pos kind place value frm fault r g d : Int} {T A : Int → Int} (h : zRS13 lim pos kind place value frm fault r T A g d) : Ns lim pos kind place value frm fault r T A g d := by
  exact ndq_of h (by decide) (fun p v ρ q _ => ⟨ρ, q, gD_c13⟩)
theorem ns_2 {lim pos kind place value frm fault r x g d : Int} {T A : Int → Int} (h : zRS2 lim pos kind place value frm fault r T A x g d) (hn : ¬ (kind = 3 ∧ value = 91)) : Ns lim pos kind place value frm fault r T A g d := by
  exact ndq_of h (by decide) (fun p v ρ q e => ⟨ρ, q, gD_c2.trans (cI_f (fun a => hn ⟨a.1, by rw [← e (Or.inr a.1)]; exact a.2⟩))⟩)
theorem ns_8 {lim pos kind place value frm fault r x y g d : Int} {T A : Int → Int} (h : zRS8 lim pos kind place value frm fault r T A x y g d) (hn : ¬ (kind = 3 ∧ (value = 91 ∨ value = 45 ∨ value = 62))) : Ns lim pos kind place value frm fault r T A g d := by
  exact ndq_of h (by decide) (fun p v ρ q e => ⟨ρ, q, gD_c8.trans ((cI_f (fun a => hn ⟨a.1, by have := e (Or.inr a.1); have := a.2; omega⟩)).trans (cI_f (fun a => hn ⟨a.1, by have := e (Or.inr a.1); have := a.2; omega⟩)))⟩)
theorem nes_10 {lim pos kind place value frm fault r x g d : Int} {T A : Int → Int} (h : zRS10s lim pos kind place value frm fault r T A x g d) (h0 : 0 ≤ x) : Nes lim pos kind place value frm fault r T A x g d := by
  exact ⟨h0, ndq_of h (by decide) (fun p v ρ q _ => ⟨ρ, q, gD_c10⟩)⟩
theorem new_10 {lim pos kind place value frm fault r y g d : Int} {T A : Int → Int} (h : zRS10w lim pos kind place value frm fault r T A y g d) : New lim pos kind place value frm fault r T A y g d := by
  exact ndq_of h (by decide) (fun p v ρ q _ => ⟨ρ, q, gD_c10⟩)
theorem no_7 {lim pos kind place value frm fault r g d : Int} {T A : Int → Int} (h : zRS7p lim pos kind place value frm fault r T A g d) : No lim pos kind place value frm fault r T A g d := by
  exact ndq_of h (by decide) (fun p v ρ q _ => ⟨ρ, q, gD_c7⟩)
/-- what is told of a group's own group: it was so when it came -/
def HST (lim : Int) (T : Int → Int) (j q : Int) : Prop := 0 ≤ j ∧ ∃ (m : Nat) (S : zS), GR T lim m S ∧ S.1 < 100 ∧ j < S.2.2.2.2.2.2.2 2 ∧ S.2.2.2.2.2.2.2 (531 + j) = q
end
section
-- what all states that are reached keep
theorem cI_e {α : Type} {P : Prop} {a b : α} {M : α → Prop} (h1 : P → M a) (h2 : ¬ P → M b) : M (cI P a b) := by
  by_cases q : P
  · rw [cI_t q]; exact h1 q
  · rw [cI_f q]; exact h2 q
theorem knR_lt {t ρ : Int → Int} {b e : Int} (h : 0 ≤ knR t ρ b e) : knR t ρ b e < ρ 0 := by
  by_cases q : ∃ i, KN t ρ b e i
  · obtain ⟨i, hi⟩ := q
    rw [kn_eq hi] at h ⊢
    rcases hi with ⟨a, -⟩ | ⟨-, a, -⟩
    · omega
    · exact a
  · unfold knR at h
    rw [dif_neg q] at h
    omega
theorem ruR_e {ρ : Int → Int} {j a i : Int} (h : i ≠ j) : ruR ρ j a i = ρ i := if_neg h
theorem ruR_t {ρ : Int → Int} {j a i : Int} (h : i = j) : ruR ρ j a i = a := if_pos h
theorem rnR_e {ρ t : Int → Int} {j b n i : Int} (h : ¬ (j ≤ i ∧ i < j + n)) : rnR ρ t j b n i = ρ i := if_neg h
theorem rnR_t {ρ t : Int → Int} {j b n i : Int} (h : j ≤ i ∧ i < j + n) : rnR ρ t j b n i = t (b + (i - j)) := if_pos h
theorem swR_e {ρ : Int → Int} {y v i : Int} (h : ¬ (363 + y ≤ i ∧ i < 363 + ρ 1)) : swR ρ y v i = ρ i := if_neg h
/-- rows: how many there are -/
def ROK (ρ : Int → Int) : Prop := 0 ≤ ρ 0 ∧ ρ 0 ≤ 24 ∧ 0 ≤ ρ 1 ∧ ρ 1 ≤ 48 ∧ 1 ≤ ρ 2 ∧ ρ 2 ≤ 8
/-- groups stay -/
def RGK (ρ ρ' : Int → Int) : Prop := ρ 2 ≤ ρ' 2 ∧ ∀ j, 0 ≤ j → j < ρ 2 → ρ' (531 + j) = ρ (531 + j)
theorem rgk_r (ρ : Int → Int) : RGK ρ ρ := ⟨by omega, fun _ _ _ => rfl⟩
theorem rgk_t {ρ ρ' ρ2 : Int → Int} (h : RGK ρ ρ') (k : RGK ρ' ρ2) : RGK ρ ρ2 := ⟨by have := h.1; have := k.1; omega, fun j a b => (k.2 j a (by have := h.1; omega)).trans (h.2 j a b)⟩
def SGD (S : zS) : Prop := S.1 = 100 ∨ ((-1 ≤ S.2.1 ∧ S.2.1 < 24 ∧ 0 ≤ S.2.2.1 ∧ (S.1 = 5 → S.2.2.2.2.2.2.2 2 < 8)) ∧ ROK S.2.2.2.2.2.2.2)
def SKP (S S_zq : zS) : Prop := S_zq.1 = 100 ∨ RGK S.2.2.2.2.2.2.2 S_zq.2.2.2.2.2.2.2
theorem nnR_ok {t ρ : Int → Int} {b e g : Int} (h : ROK ρ) (h0 : ρ 0 ≠ 24) (he : b ≤ e ∧ e ≤ b + 8) : ROK (nnR t ρ b e g) ∧ RGK ρ (nnR t ρ b e g) ∧ nnR t ρ b e g 1 = ρ 1 ∧ nnR t ρ b e g 0 = ρ 0 + 1 := by
  obtain ⟨a0, a1, a2, a3, a4, a5⟩ := h
  have k : ∀ i, (i = 1 ∨ i = 2 ∨ 531 ≤ i) → nnR t ρ b e g i = ρ i := fun i hi => by
    unfold nnR
    rw [ruR_e (by omega), ruR_e (by omega), rnR_e (by omega), ruR_e (by omega), ruR_e (by omega)]
  have k0 : nnR t ρ b e g 0 = ρ 0 + 1 := by
    unfold nnR
    rw [ruR_e (by omega), ruR_e (by omega), rnR_e (by omega), ruR_e (by omega), ruR_t rfl]
  have k1 := k 1 (by omega)
  have k2 := k 2 (by omega)
  exact ⟨⟨by omega, by omega, by omega, by omega, by omega, by omega⟩, ⟨by omega, fun j x y => k (531 + j) (by omega)⟩, k1, k0⟩
theorem neR_ok {ρ : Int → Int} {a b w : Int} (h : ROK ρ) (h0 : ρ 1 ≠ 48) : ROK (neR ρ a b w) ∧ RGK ρ (neR ρ a b w) := by
  obtain ⟨a0, a1, a2, a3, a4, a5⟩ := h
  have k : ∀ i, (i = 0 ∨ i = 2 ∨ 531 ≤ i) → neR ρ a b w i = ρ i := fun i hi => by
    unfold neR
    rw [ruR_e (by omega), ruR_e (by omega), ruR_e (by omega), ruR_e (by omega), ruR_e (by omega)]
  have k1 : neR ρ a b w 1 = ρ 1 + 1 := by
    unfold neR
    rw [ruR_e (by omega), ruR_e (by omega), ruR_e (by omega), ruR_e (by omega), ruR_t rfl]
  have k0 := k 0 (by omega)
  have k2 := k 2 (by omega)
  exact ⟨⟨by omega, by omega, by omega, by omega, by omega, by omega⟩, ⟨by omega, fun j x y => k (531 + j) (by omega)⟩⟩
theorem ngR_ok {t ρ : Int → Int} {b e q : Int} (h : ROK ρ) (h0 : ρ 2 < 8) (he : b ≤ e ∧ e ≤ b + 8) : ROK (ngR t ρ b e q) ∧ RGK ρ (ngR t ρ b e q) ∧ ngR t ρ b e q 2 = ρ 2 + 1 ∧ ngR t ρ b e q (531 + ρ 2) = q := by
  obtain ⟨a0, a1, a2, a3, a4, a5⟩ := h
  have k : ∀ i, (i = 0 ∨ i = 1 ∨ (531 ≤ i ∧ i ≠ 531 + ρ 2)) → ngR t ρ b e q i = ρ i := fun i hi => by
    unfold ngR
    rw [rnR_e (by omega), ruR_e (by omega), ruR_e (by omega), ruR_e (by omega)]
  have k2 : ngR t ρ b e q 2 = ρ 2 + 1 := by
    unfold ngR
    rw [rnR_e (by omega), ruR_e (by omega), ruR_e (by omega), ruR_t rfl]
  have k3 : ngR t ρ b e q (531 + ρ 2) = q := by
    unfold ngR
    rw [rnR_e (by omega), ruR_e (by omega), ruR_t rfl]
  have k0 := k 0 (by omega)
  have k1 := k 1 (by omega)
  exact ⟨⟨by omega, by omega, by omega, by omega, by omega, by omega⟩, ⟨by omega, fun j x y => k (531 + j) (by omega)⟩, k2, k3⟩
theorem rsz_ok {ρ : Int → Int} {x v : Int} (h : ROK ρ) (h0 : 0 ≤ x ∧ x < 24) : ROK (ruR ρ (219 + x) v) ∧ RGK ρ (ruR ρ (219 + x) v) := by
  have k : ∀ i, (i = 0 ∨ i = 1 ∨ i = 2 ∨ 531 ≤ i) → ruR ρ (219 + x) v i = ρ i := fun i hi => ruR_e (by omega)
  obtain ⟨a0, a1, a2, a3, a4, a5⟩ := h
  have k0 := k 0 (by omega)
  have k1 := k 1 (by omega)
  have k2 := k 2 (by omega)
  exact ⟨⟨by omega, by omega, by omega, by omega, by omega, by omega⟩, ⟨by omega, fun j x y => k (531 + j) (by omega)⟩⟩
theorem swR_ok {ρ : Int → Int} {y v : Int} (h : ROK ρ) (h0 : 0 ≤ y) : ROK (swR ρ y v) ∧ RGK ρ (swR ρ y v) := by
  obtain ⟨a0, a1, a2, a3, a4, a5⟩ := h
  have k : ∀ i, (i = 0 ∨ i = 1 ∨ i = 2 ∨ 531 ≤ i) → swR ρ y v i = ρ i := fun i hi => swR_e (by omega)
  have k0 := k 0 (by omega)
  have k1 := k 1 (by omega)
  have k2 := k 2 (by omega)
  exact ⟨⟨by omega, by omega, by omega, by omega, by omega, by omega⟩, ⟨by omega, fun j x y => k (531 + j) (by omega)⟩⟩
theorem gM_e {M : zS → Prop} {t ρ : Int → Int} {g b e : Int} {K : Int → (Int → Int) → zS} (h1 : ∀ i, 0 ≤ i → i < ρ 0 → knR t ρ b e = i → M (K i ρ)) (h2 : knR t ρ b e < 0 → ρ 0 ≠ 24 → M (K (ρ 0) (nnR t ρ b e g))) (h3 : M (gF 3 b)) : M (gM t ρ g b e K) := by
  unfold gM
  refine cI_e (fun q => h1 _ q (knR_lt q) rfl) (fun q => cI_e (fun _ => h3) (fun q2 => h2 (by omega) q2))
theorem gF_g {f b : Int} {S : zS} : SGD (gF f b) ∧ SKP S (gF f b) := ⟨Or.inl rfl, Or.inl rfl⟩
/-- a state with the row that there is -/
theorem st_same {c x y z g d p c_zq x_zq y_zq z_zq g_zq d_zq p_zq : Int} {ρ : Int → Int} (hx : -1 ≤ x_zq ∧ x_zq < 24 ∧ 0 ≤ y_zq ∧ (c_zq = 5 → ρ 2 < 8)) (hr : ROK ρ) : SGD (c_zq, x_zq, y_zq, z_zq, g_zq, d_zq, p_zq, ρ) ∧ SKP (c, x, y, z, g, d, p, ρ) (c_zq, x_zq, y_zq, z_zq, g_zq, d_zq, p_zq, ρ) := ⟨Or.inr ⟨hx, hr⟩, Or.inr (rgk_r ρ)⟩
theorem st_new {c x y z g d p c_zq x_zq y_zq z_zq g_zq d_zq p_zq : Int} {ρ ρ' : Int → Int} (hx : -1 ≤ x_zq ∧ x_zq < 24 ∧ 0 ≤ y_zq ∧ (c_zq = 5 → ρ' 2 < 8)) (hr : ROK ρ') (hk : RGK ρ ρ') : SGD (c_zq, x_zq, y_zq, z_zq, g_zq, d_zq, p_zq, ρ') ∧ SKP (c, x, y, z, g, d, p, ρ) (c_zq, x_zq, y_zq, z_zq, g_zq, d_zq, p_zq, ρ') := ⟨Or.inr ⟨hx, hr⟩, Or.inr hk⟩
theorem gD_ok {t : Int → Int} {S : zS} {k b e v : Int} (h : SGD S) (hc : S.1 ≠ 100) (he : b ≤ e ∧ (k = 1 → e ≤ b + 8)) : SGD (gD t S k b e v) ∧ SKP S (gD t S k b e v) := by
  obtain ⟨c, x, y, z, g, d, p, ρ⟩ := S
  rcases h with h | ⟨hx, hr⟩
  · exact absurd h hc
  have hx_zq : -1 ≤ x ∧ x < 24 ∧ 0 ≤ y ∧ (c = 5 → ρ 2 < 8) := hx
  have hr_zq : ROK ρ := hr
  have hm : ∀ (K : Int → (Int → Int) → zS), k = 1 → (∀ i ρ', 0 ≤ i → i < 24 → ROK ρ' → RGK ρ ρ' → ρ' 1 = ρ 1 → SGD (K i ρ') ∧ SKP (c, x, y, z, g, d, p, ρ) (K i ρ')) → SGD (gM t ρ g b e K) ∧ SKP (c, x, y, z, g, d, p, ρ) (gM t ρ g b e K) := by
    intro K hk hK
    have q := hr_zq
    obtain ⟨a0, a1, a2, a3, a4, a5⟩ := q
    refine gM_e (M := fun S => SGD S ∧ SKP (c, x, y, z, g, d, p, ρ) S) (fun i i0 i1 _ => hK i ρ i0 (by omega) hr_zq (rgk_r ρ) rfl) (fun _ q => ?_) gF_g
    obtain ⟨w1, w2, w3, _⟩ := nnR_ok (t := t) (g := g) hr_zq q ⟨he.1, he.2 hk⟩
    exact hK (ρ 0) _ a0 (by omega) w1 w2 w3
  have r0 := hr_zq.1
  have r1 := hr_zq.2.2.1
  unfold gD
  refine cI_e (M := fun S => SGD S ∧ SKP (c, x, y, z, g, d, p, ρ) S) (fun hc0 => ?_) (fun _ => ?_)
  · exact cI_e (M := fun S => SGD S ∧ SKP (c, x, y, z, g, d, p, ρ) S) (fun q => st_same (by omega) hr_zq) (fun q => cI_e (M := fun S => SGD S ∧ SKP (c, x, y, z, g, d, p, ρ) S) (fun q => st_same (by omega) hr_zq) (fun q => cI_e (M := fun S => SGD S ∧ SKP (c, x, y, z, g, d, p, ρ) S) (fun q => st_same (by omega) hr_zq) (fun q => cI_e (M := fun S => SGD S ∧ SKP (c, x, y, z, g, d, p, ρ) S) (fun q => cI_e (M := fun S => SGD S ∧ SKP (c, x, y, z, g, d, p, ρ) S) (fun _ => gF_g) (fun q8 => st_same (by omega) hr_zq)) (fun q => cI_e (M := fun S => SGD S ∧ SKP (c, x, y, z, g, d, p, ρ) S) (fun q => hm _ q (fun i ρ' i0 i1 q1 q2 q3 => st_new (by omega) q1 q2)) (fun _ => gF_g)))))
  refine cI_e (M := fun S => SGD S ∧ SKP (c, x, y, z, g, d, p, ρ) S) (fun hc1 => ?_) (fun _ => ?_)
  · exact cI_e (M := fun S => SGD S ∧ SKP (c, x, y, z, g, d, p, ρ) S) (fun q => hm _ q.1 (fun i ρ' i0 i1 q1 q2 q3 => st_new (by omega) q1 q2)) (fun _ => gF_g)
  refine cI_e (M := fun S => SGD S ∧ SKP (c, x, y, z, g, d, p, ρ) S) (fun hc2 => ?_) (fun _ => ?_)
  · exact cI_e (M := fun S => SGD S ∧ SKP (c, x, y, z, g, d, p, ρ) S) (fun q => st_same (by omega) hr_zq) (fun q => cI_e (M := fun S => SGD S ∧ SKP (c, x, y, z, g, d, p, ρ) S) (fun q => st_same (by omega) hr_zq) (fun _ => gF_g))
  refine cI_e (M := fun S => SGD S ∧ SKP (c, x, y, z, g, d, p, ρ) S) (fun hc3 => ?_) (fun _ => ?_)
  · exact cI_e (M := fun S => SGD S ∧ SKP (c, x, y, z, g, d, p, ρ) S) (fun q => st_same (by omega) hr_zq) (fun _ => gF_g)
  refine cI_e (M := fun S => SGD S ∧ SKP (c, x, y, z, g, d, p, ρ) S) (fun hc4 => ?_) (fun _ => ?_)
  · exact cI_e (M := fun S => SGD S ∧ SKP (c, x, y, z, g, d, p, ρ) S) (fun q => cI_e (M := fun S => SGD S ∧ SKP (c, x, y, z, g, d, p, ρ) S) (fun _ => gF_g) (fun q2 => cI_e (M := fun S => SGD S ∧ SKP (c, x, y, z, g, d, p, ρ) S) (fun _ => gF_g) (fun q8 => hm _ q.1 (fun i ρ' i0 i1 q1 q2 q3 => have w := neR_ok (a := x) (b := i) (w := z) q1 (by omega); st_new (by omega) w.1 (rgk_t q2 w.2))))) (fun _ => gF_g)
  refine cI_e (M := fun S => SGD S ∧ SKP (c, x, y, z, g, d, p, ρ) S) (fun hc5 => ?_) (fun _ => ?_)
  · exact cI_e (M := fun S => SGD S ∧ SKP (c, x, y, z, g, d, p, ρ) S) (fun q => have w := ngR_ok (t := t) (q := g) hr_zq (hx_zq.2.2.2 hc5) ⟨he.1, he.2 q.1⟩; st_new (by omega) w.1 w.2.1) (fun _ => gF_g)
  refine cI_e (M := fun S => SGD S ∧ SKP (c, x, y, z, g, d, p, ρ) S) (fun hc7 => ?_) (fun _ => ?_)
  · exact cI_e (M := fun S => SGD S ∧ SKP (c, x, y, z, g, d, p, ρ) S) (fun q => st_same (by omega) hr_zq) (fun _ => gF_g)
  refine cI_e (M := fun S => SGD S ∧ SKP (c, x, y, z, g, d, p, ρ) S) (fun hc8 => ?_) (fun _ => ?_)
  · exact cI_e (M := fun S => SGD S ∧ SKP (c, x, y, z, g, d, p, ρ) S) (fun q => st_same (by omega) hr_zq) (fun q => cI_e (M := fun S => SGD S ∧ SKP (c, x, y, z, g, d, p, ρ) S) (fun q => st_same (by omega) hr_zq) (fun q => cI_e (M := fun S => SGD S ∧ SKP (c, x, y, z, g, d, p, ρ) S) (fun q => st_same (by omega) hr_zq) (fun _ => gF_g)))
  refine cI_e (M := fun S => SGD S ∧ SKP (c, x, y, z, g, d, p, ρ) S) (fun hc9 => ?_) (fun _ => ?_)
  · exact cI_e (M := fun S => SGD S ∧ SKP (c, x, y, z, g, d, p, ρ) S) (fun q => cI_e (M := fun S => SGD S ∧ SKP (c, x, y, z, g, d, p, ρ) S) (fun q => st_same (by omega) hr_zq) (fun _ => gF_g)) (fun _ => gF_g)
  refine cI_e (M := fun S => SGD S ∧ SKP (c, x, y, z, g, d, p, ρ) S) (fun hc10 => ?_) (fun _ => ?_)
  · exact cI_e (M := fun S => SGD S ∧ SKP (c, x, y, z, g, d, p, ρ) S) (fun q => st_same (by omega) hr_zq) (fun _ => gF_g)
  refine cI_e (M := fun S => SGD S ∧ SKP (c, x, y, z, g, d, p, ρ) S) (fun hc11 => ?_) (fun _ => ?_)
  · exact cI_e (M := fun S => SGD S ∧ SKP (c, x, y, z, g, d, p, ρ) S) (fun q => cI_e (M := fun S => SGD S ∧ SKP (c, x, y, z, g, d, p, ρ) S) (fun q => st_same (by omega) hr_zq) (fun _ => gF_g)) (fun _ => gF_g)
  refine cI_e (M := fun S => SGD S ∧ SKP (c, x, y, z, g, d, p, ρ) S) (fun hc12 => ?_) (fun _ => ?_)
  · refine cI_e (M := fun S => SGD S ∧ SKP (c, x, y, z, g, d, p, ρ) S) (fun q => ?_) (fun q => cI_e (M := fun S => SGD S ∧ SKP (c, x, y, z, g, d, p, ρ) S) (fun _ => gF_g) (fun _ => gF_g))
    by_cases qx : 0 ≤ x
    · rw [if_pos qx]
      have w := rsz_ok (v := z) hr_zq (x := x) (by omega)
      exact st_new (by omega) w.1 w.2
    · rw [if_neg qx]
      have w := swR_ok (v := z) hr_zq (y := y) (by omega)
      exact st_new (by omega) w.1 w.2
  refine cI_e (M := fun S => SGD S ∧ SKP (c, x, y, z, g, d, p, ρ) S) (fun hc13 => ?_) (fun _ => ?_)
  · exact cI_e (M := fun S => SGD S ∧ SKP (c, x, y, z, g, d, p, ρ) S) (fun q => st_same (by omega) hr_zq) (fun _ => gF_g)
  · exact ⟨Or.inr ⟨hx, hr⟩, Or.inr (rgk_r ρ)⟩
theorem gr_good {T : Int → Int} {n : Int} : ∀ {m : Nat} {S : zS}, GR T n m S → SGD S
  | 0, _, h => by
    rw [show _ = _ from h]
    exact Or.inr ⟨⟨by decide, by decide, by decide, fun q => by revert q; decide⟩, by decide, by decide, by decide, by decide, by decide, by decide⟩
  | m + 1, _, ⟨S1, h1, hc, k, b, e, v, hk, hs⟩ => by
    rw [hs]
    have q := tk_lim hk
    exact (gD_ok (gr_good h1) (by omega) ⟨q.2.1, fun w => (q.2.2.2 w).1⟩).1
theorem gr_keep {T : Int → Int} {n : Int} : ∀ {a m : Nat} {S S_zq : zS}, GR T n m S → GR T n (m + a) S_zq → S_zq.1 ≠ 100 → S.1 ≠ 100 → RGK S.2.2.2.2.2.2.2 S_zq.2.2.2.2.2.2.2
  | 0, m, S, S_zq, h, h_zq, _, _ => by rw [gr_det h h_zq]; exact rgk_r _
  | a + 1, m, S, S_zq, h, h_zq, hc_zq, hc => by
    obtain ⟨S1, h1, hc1, k, b, e, v, hk, hs⟩ := (show GR T n (m + a + 1) S_zq from h_zq)
    have i1 := gr_keep (a := a) h h1 (by omega) hc
    have q := tk_lim hk
    have i2 := (gD_ok (gr_good h1) (by omega) (k := k) (b := b) (e := e) (v := v) (t := T) ⟨q.2.1, fun w => (q.2.2.2 w).1⟩).2
    rw [← hs] at i2
    rcases i2 with w | w
    · exact absurd w hc_zq
    · exact rgk_t i1 w
/-- the group that a group is in, at any two times at which it is there -/
theorem hst_eq {lim j q : Int} {T : Int → Int} {m : Nat} {S : zS} (h : HST lim T j q) (k : GR T lim m S) (hc : S.1 ≠ 100) (hj : j < S.2.2.2.2.2.2.2 2) : S.2.2.2.2.2.2.2 (531 + j) = q := by
  obtain ⟨j0, m0, S0, g0, c0, l0, e0⟩ := h
  by_cases w : m0 ≤ m
  · obtain ⟨a, rfl⟩ : ∃ a, m = m0 + a := ⟨m - m0, by omega⟩
    rw [← e0]
    exact (gr_keep g0 k hc (by omega)).2 j j0 l0
  · obtain ⟨a, rfl⟩ : ∃ a, m0 = m + a := ⟨m0 - m, by omega⟩
    rw [← e0]
    exact ((gr_keep k g0 (by omega) hc).2 j j0 hj).symm
end
section
-- the reference: each step
theorem rpr_at {A ρ : Int → Int} {r j q : Int} (h : RPR A r ρ) (h0 : 0 ≤ j ∧ j < 539) (e : q = r + j) : A q = ρ j := by rw [e]; exact h j h0.1 h0.2
theorem rsq_ok {Q : (Int → Int) → Prop} {lim pos kind place value frm fault c x y z g d : Int} {T : Int → Int} (h : RSQ Q lim pos kind place value frm fault T c x y z g d) (hc : c ≠ 100) : ∃ ρ, Q ρ ∧ ROK ρ ∧ -1 ≤ x ∧ x < 24 ∧ 0 ≤ y ∧ (c = 5 → ρ 2 < 8) := by
  obtain ⟨_, _, m, ρ, p, v, h1, h2, _⟩ := h
  rcases gr_good h1 with q | ⟨⟨q1, q2, q3, q4⟩, q5⟩
  · exact absurd q hc
  · exact ⟨ρ, h2, q5, q1, q2, q3, q4⟩
theorem rsq_row {lim pos kind place value frm fault r c x y z g d : Int} {T A : Int → Int} (h : RSQ (RPR A r) lim pos kind place value frm fault T c x y z g d) (hc : c ≠ 100) : (0 ≤ A (r + 0) ∧ A (r + 0) ≤ 24) ∧ (0 ≤ A (r + 1) ∧ A (r + 1) ≤ 48) ∧ (1 ≤ A (r + 2) ∧ A (r + 2) ≤ 8) := by
  obtain ⟨ρ, h1, ⟨a0, a1, a2, a3, a4, a5⟩, _⟩ := rsq_ok h hc
  rw [h1 0 (by omega) (by omega), h1 1 (by omega) (by omega), h1 2 (by omega) (by omega)]
  omega
/-- with what is known of all states -/
theorem rsq_goR {Q Q_zq : (Int → Int) → Prop} {lim pos kind place value frm fault c x y z g d c_zq x_zq y_zq z_zq g_zq d_zq : Int} {T : Int → Int} (h : RSQ Q lim pos kind place value frm fault T c x y z g d) (hc : c < 100)
    (hs : ∀ (p v : Int) (ρ : Int → Int), Q ρ → ROK ρ → (kind = 2 ∨ kind = 3 → v = value) → ∃ ρ', gD T (c, x, y, z, g, d, p, ρ) kind place pos v = (c_zq, x_zq, y_zq, z_zq, g_zq, d_zq, pos, ρ') ∧ Q_zq ρ') : TSQ Q_zq lim fault T c_zq x_zq y_zq z_zq g_zq d_zq pos := by
  obtain ⟨h0, _, m, ρ, p, v, h1, h2, h3, h4⟩ := h
  have hr : ROK ρ := by
    rcases gr_good h1 with q | ⟨_, q⟩
    · exact absurd q (by show c ≠ 100; omega)
    · exact q
  obtain ⟨ρ', e, q⟩ := hs p v ρ h2 hr h4
  exact ⟨h0, m + 1, ρ', ⟨_, h1, hc, kind, place, pos, v, h3, e.symm⟩, q⟩
theorem rsq_fltR {Q : (Int → Int) → Prop} {lim pos kind place value frm fault c x y z g d f : Int} {T : Int → Int} (h : RSQ Q lim pos kind place value frm fault T c x y z g d) (hc : c < 100) (hf : 0 < f)
    (hs : ∀ (p v : Int) (ρ : Int → Int), Q ρ → ROK ρ → (kind = 2 ∨ kind = 3 → v = value) → gD T (c, x, y, z, g, d, p, ρ) kind place pos v = gF f place) : FSX lim T f place := by
  obtain ⟨h0, _, m, ρ, p, v, h1, h2, h3, h4⟩ := h
  have hr : ROK ρ := by
    rcases gr_good h1 with q | ⟨_, q⟩
    · exact absurd q (by show c ≠ 100; omega)
    · exact q
  exact ⟨hf, m + 1, _, h1, hc, kind, place, pos, v, h3, (hs p v ρ h2 hr h4).symm⟩
theorem gM_old {t ρ : Int → Int} {g b e i : Int} {K : Int → (Int → Int) → zS} (h : KN t ρ b e i) (h0 : 0 ≤ i) : gM t ρ g b e K = K i ρ := by
  unfold gM
  rw [kn_eq h]
  exact cI_t h0
theorem gM_full {t ρ : Int → Int} {g b e i : Int} {K : Int → (Int → Int) → zS} (h : KN t ρ b e i) (h0 : i < 0) (h1 : ρ 0 = 24) : gM t ρ g b e K = gF 3 b := by
  unfold gM
  rw [kn_eq h]
  exact (cI_f (by omega)).trans (cI_t h1)
theorem gM_new {t ρ : Int → Int} {g b e : Int} {K : Int → (Int → Int) → zS} (h : knR t ρ b e = -1) (h1 : ρ 0 < 24) : gM t ρ g b e K = K (ρ 0) (nnR t ρ b e g) := by
  unfold gM
  rw [h]
  exact (cI_f (by omega)).trans (cI_f (by omega))
/-- known(), of the state's row -/
theorem knq_rho {lim pos kind place value frm fault r c x y z g d i : Int} {T A : Int → Int} (h : RSQ (RPR A r) lim pos kind place value frm fault T c x y z g d) (k : KNQ pos lim frm r A T i) (hk : kind = 1) : ∀ ρ, RPR A r ρ → ROK ρ → KN T ρ place pos i := by
  intro ρ q1 q2
  have e := (rsq_0 h).2
  have l := rsq_lim h
  have w := k l.1 (l.2.2.2 hk).2
  rw [← e]
  exact kn_rpr q1 ⟨q2.1, q2.2.1⟩ (l.2.2.2 hk).1 w
theorem nmq_t {kind pos lim place frm : Int} {T : Int → Int} {ans : Int} (h : NMQ kind pos lim frm T ans) (hl : pos ≤ lim) (e : frm = place) (h1 : ans ≠ 0) : isNm T kind place pos := by
  rcases h hl with q | q
  · rw [← e]; exact q.2
  · exact absurd q.1 h1
theorem nmq_f {kind pos lim place frm : Int} {T : Int → Int} {ans : Int} (h : NMQ kind pos lim frm T ans) (hl : pos ≤ lim) (e : frm = place) (h1 : ans = 0) : ¬ isNm T kind place pos := by
  rcases h hl with q | q
  · omega
  · rw [← e]; exact q.2
theorem wd_t {W : (Int → Int) → Int → Int → Int → Prop} {kind pos lim place frm : Int} {T : Int → Int} {ans : Int} (h : zWD W kind pos lim frm T ans) (hl : pos ≤ lim) (e : frm = place) (h1 : ans ≠ 0) : W T kind place pos := by
  rcases h hl with q | q
  · rw [← e]; exact q.2
  · exact absurd q.1 h1
theorem wd_f {W : (Int → Int) → Int → Int → Int → Prop} {kind pos lim place frm : Int} {T : Int → Int} {ans : Int} (h : zWD W kind pos lim frm T ans) (hl : pos ≤ lim) (e : frm = place) (h1 : ans = 0) : ¬ W T kind place pos := by
  rcases h hl with q | q
  · omega
  · rw [← e]; exact q.2
/-- an edge between two: what between() says -/
def BT2 (r : Int) (A : Int → Int) (a b z : Int) : Prop := (0 ≤ z → z < A (r + 1) ∧ inc A r z a ∧ inc A r z b) ∧ (z < 0 → BTL r A a b (A (r + 1)))
theorem bt2_yes {r a b z : Int} {A ρ : Int → Int} (h : BT2 r A a b z) (hr : RPR A r ρ) (hk : ROK ρ) (hz : 0 ≤ z) (hab : a ≠ b) : BTR ρ a b := by
  obtain ⟨h1, h2, h3⟩ := h.1 hz
  have e1 := hr 1 (by omega) (by omega)
  have hk3 := hk.2.2.2.1
  refine ⟨z, hz, by omega, ?_⟩
  have t1 : A (r + 267 + z) = ρ (267 + z) := by rw [← hr (267 + z) (by omega) (by omega)]; congr 1; omega
  have t2 : A (r + 315 + z) = ρ (315 + z) := by rw [← hr (315 + z) (by omega) (by omega)]; congr 1; omega
  unfold inc at h2 h3
  omega
theorem bt2_no {r a b z : Int} {A ρ : Int → Int} (h : BT2 r A a b z) (hr : RPR A r ρ) (hk : ROK ρ) (hz : z < 0) (hab : a ≠ b) : ¬ BTR ρ a b := by
  rintro ⟨e, e0, e1, e2⟩
  have q1 := hr 1 (by omega) (by omega)
  have hk3 := hk.2.2.2.1
  have t1 : A (r + 267 + e) = ρ (267 + e) := by rw [← hr (267 + e) (by omega) (by omega)]; congr 1; omega
  have t2 : A (r + 315 + e) = ρ (315 + e) := by rw [← hr (315 + e) (by omega) (by omega)]; congr 1; omega
  refine h.2 hz e e0 (by omega) ⟨?_, ?_, hab⟩
  · unfold inc; omega
  · unfold inc; omega
/-- a row, one place changed -/
theorem rpr_put {A A_zq ρ : Int → Int} {r j q v : Int} (h : RPR A r ρ) (hr : 0 ≤ r) (s : st1 A A_zq q v) (e : q = r + j) (hj : 0 ≤ j) : RPR A_zq r (ruR ρ j v) := by
  intro k k0 k1
  by_cases w : k = j
  · rw [ruR_t w]; exact (s (r + k) (by omega)).1 (by omega)
  · rw [ruR_e w, (s (r + k) (by omega)).2 (by omega)]; exact h k k0 k1
theorem rpr_ext {A ρ ρ' : Int → Int} {r : Int} (h : RPR A r ρ) (e : ∀ j, 0 ≤ j → j < 539 → ρ' j = ρ j) : RPR A r ρ' := fun j a b => by rw [e j a b]; exact h j a b
/-- a new node's row, k letters written -/
def zNWQ (A : Int → Int) (r : Int) (T : Int → Int) (b e i k : Int) (ρ : Int → Int) : Prop := knR T ρ b e = -1 ∧ ρ 0 < 24 ∧ i = ρ 0 ∧ (0 ≤ k ∧ k ≤ e - b) ∧ RPR A r (rnR (ruR (ruR ρ 0 (ρ 0 + 1)) (195 + ρ 0) (e - b)) T (3 + 8 * ρ 0) b k)
/-- a new group's row, k letters written -/
def zGWQ (A : Int → Int) (r : Int) (T : Int → Int) (b e i k q : Int) (ρ : Int → Int) : Prop := ρ 2 < 8 ∧ i = ρ 2 ∧ (0 ≤ k ∧ k ≤ e - b) ∧ RPR A r (rnR (ruR (ruR (ruR ρ 2 (ρ 2 + 1)) (531 + ρ 2) q) (523 + ρ 2) (e - b)) T (459 + 8 * ρ 2) b k)
theorem rn_step {A A_zq ρ T : Int → Int} {r j b k q c : Int} (h : RPR A r (rnR ρ T j b k)) (hr : 0 ≤ r) (s : st1 A A_zq q c) (e : q = r + (j + k)) (hj : 0 ≤ j) (hk : 0 ≤ k) (hc : c = T (b + k)) : RPR A_zq r (rnR ρ T j b (k + 1)) := by
  intro i i0 i1
  by_cases w : i = j + k
  · rw [rnR_t (by omega), (s (r + i) (by omega)).1 (by omega), hc]; congr 1; omega
  · rw [(s (r + i) (by omega)).2 (by omega), h i i0 i1]
    by_cases w2 : j ≤ i ∧ i < j + k
    · rw [rnR_t w2, rnR_t (by omega)]
    · rw [rnR_e w2, rnR_e (by omega)]
theorem nwq_start {A A1 A2 T ρ : Int → Int} {r b e i k p1 v1 p2 v2 : Int} (h : RPR A r ρ) (hr : 0 ≤ r) (hk : knR T ρ b e = -1) (h0 : 0 ≤ ρ 0 ∧ ρ 0 < 24) (s1 : st1 A A1 p1 v1) (s2 : st1 A1 A2 p2 v2) (e1 : p1 = r) (w1 : v1 = A p1 + 1) (hi : i = A r) (e2 : p2 = r + 195 + i) (w2 : v2 = e - b) (hbe : b ≤ e) (k0 : k = 0) : zNWQ A2 r T b e i k ρ := by
  have q0 : A r = ρ 0 := by have := h 0 (by omega) (by omega); rw [← this]; congr 1; omega
  have hv1 : v1 = ρ 0 + 1 := by rw [w1, e1]; omega
  have a1 := rpr_put h hr s1 (j := 0) (by omega) (by omega)
  have a2 := rpr_put a1 hr s2 (j := 195 + ρ 0) (by omega) (by omega)
  refine ⟨hk, h0.2, by omega, by omega, ?_⟩
  rw [hv1, w2] at a2
  refine rpr_ext a2 (fun j _ _ => rnR_e (by omega))
theorem nwq_step {A A_zq T ρ : Int → Int} {r b e i k k_zq q c : Int} (h : zNWQ A r T b e i k ρ) (hr : 0 ≤ r) (h0 : 0 ≤ ρ 0) (s : st1 A A_zq q c) (e1 : q = r + (3 + 8 * i + k)) (hc : c = T (b + k)) (hk : k < e - b) (ek : k_zq = k + 1) : zNWQ A_zq r T b e i k_zq ρ := by
  obtain ⟨a1, a2, a3, a4, a5⟩ := h
  rw [ek]
  exact ⟨a1, a2, a3, by omega, rn_step a5 hr s (by omega) (by omega) (by omega) hc⟩
theorem nwq_end {A A1 A2 T ρ : Int → Int} {r b e i k g p1 v1 p2 v2 : Int} (h : zNWQ A r T b e i k ρ) (hr : 0 ≤ r) (h0 : 0 ≤ ρ 0) (hk : e - b ≤ k) (s1 : st1 A A1 p1 v1) (s2 : st1 A1 A2 p2 v2) (e1 : p1 = r + 219 + i) (w1 : v1 = 1) (e2 : p2 = r + 243 + i) (w2 : v2 = g) : RPR A2 r (nnR T ρ b e g) := by
  obtain ⟨a1, a2, a3, a4, a5⟩ := h
  have b1 := rpr_put a5 hr s1 (j := 219 + ρ 0) (by omega) (by omega)
  have b2 := rpr_put b1 hr s2 (j := 243 + ρ 0) (by omega) (by omega)
  rw [w1, w2, show k = e - b by omega] at b2
  exact b2
theorem gwq_start {A A1 A2 A3 T ρ : Int → Int} {r b e i k q p1 v1 p2 v2 p3 v3 : Int} (h : RPR A r ρ) (hr : 0 ≤ r) (h0 : 1 ≤ ρ 2 ∧ ρ 2 < 8) (s1 : st1 A A1 p1 v1) (s2 : st1 A1 A2 p2 v2) (s3 : st1 A2 A3 p3 v3) (e1 : p1 = r + 2) (w1 : v1 = A p1 + 1) (hi : i = A (r + 2)) (e2 : p2 = r + 531 + i) (w2 : v2 = q) (e3 : p3 = r + 523 + i) (w3 : v3 = e - b) (hbe : b ≤ e) (k0 : k = 0) : zGWQ A3 r T b e i k q ρ := by
  have q0 := h 2 (by omega) (by omega)
  have hv1 : v1 = ρ 2 + 1 := by rw [w1, e1]; omega
  have a1 := rpr_put h hr s1 (j := 2) (by omega) (by omega)
  have a2 := rpr_put a1 hr s2 (j := 531 + ρ 2) (by omega) (by omega)
  have a3 := rpr_put a2 hr s3 (j := 523 + ρ 2) (by omega) (by omega)
  refine ⟨h0.2, by omega, by omega, ?_⟩
  rw [hv1, w2, w3] at a3
  refine rpr_ext a3 (fun j _ _ => rnR_e (by omega))
theorem gwq_step {A A_zq T ρ : Int → Int} {r b e i k k_zq q g c : Int} (h : zGWQ A r T b e i k g ρ) (hr : 0 ≤ r) (h0 : 1 ≤ ρ 2) (s : st1 A A_zq q c) (e1 : q = r + (459 + 8 * i + k)) (hc : c = T (b + k)) (hk : k < e - b) (ek : k_zq = k + 1) : zGWQ A_zq r T b e i k_zq g ρ := by
  obtain ⟨a1, a3, a4, a5⟩ := h
  rw [ek]
  exact ⟨a1, a3, by omega, rn_step a5 hr s (by omega) (by omega) (by omega) hc⟩
theorem gwq_end {A T ρ : Int → Int} {r b e i k g : Int} (h : zGWQ A r T b e i k g ρ) (hk : e - b ≤ k) : RPR A r (ngR T ρ b e g) := by
  obtain ⟨a1, a3, a4, a5⟩ := h
  rw [show k = e - b by omega] at a5
  exact a5
theorem rpr_ne {A A1 A2 A3 A4 A5 ρ : Int → Int} {r a b w p1 v1 p2 v2 p3 v3 p4 v4 p5 v5 : Int} (h : RPR A r ρ) (hr : 0 ≤ r) (h0 : 0 ≤ ρ 1) (s1 : st1 A A1 p1 v1) (s2 : st1 A1 A2 p2 v2) (s3 : st1 A2 A3 p3 v3) (s4 : st1 A3 A4 p4 v4) (s5 : st1 A4 A5 p5 v5) (e1 : p1 = r + 1) (w1 : v1 = A p1 + 1) (e2 : p2 = r + 267 + A (r + 1)) (w2 : v2 = a) (e3 : p3 = r + 315 + A (r + 1)) (w3 : v3 = b) (e4 : p4 = r + 363 + A (r + 1)) (w4 : v4 = 1) (e5 : p5 = r + 411 + A (r + 1)) (w5 : v5 = w) : RPR A5 r (neR ρ a b w) := by
  have q0 := h 1 (by omega) (by omega)
  have hv1 : v1 = ρ 1 + 1 := by rw [w1, e1]; omega
  have a1 := rpr_put h hr s1 (j := 1) (by omega) (by omega)
  have a2 := rpr_put a1 hr s2 (j := 267 + ρ 1) (by omega) (by omega)
  have a3 := rpr_put a2 hr s3 (j := 315 + ρ 1) (by omega) (by omega)
  have a4 := rpr_put a3 hr s4 (j := 363 + ρ 1) (by omega) (by omega)
  have a5 := rpr_put a4 hr s5 (j := 411 + ρ 1) (by omega) (by omega)
  rw [hv1, w2, w3, w4, w5] at a5
  exact a5
end
section
-- the reference: a name met, and all other steps
def zTM0 (lim fault r : Int) (T A : Int → Int) (i g d p : Int) : Prop := TSQ (RPR A r) lim fault T 3 i (A (r + 1)) 0 g d p
def zMN0 (lim pos kind place value frm fault r : Int) (T A : Int → Int) (i k g d : Int) : Prop := RSQ (fun ρ => zNWQ A r T frm pos i k ρ) lim pos kind place value frm fault T 0 0 0 0 g d ∧ isNm T kind place pos
def zMN1 (lim pos kind place value frm fault r : Int) (T A : Int → Int) (i k g d : Int) : Prop := RSQ (fun ρ => zNWQ A r T frm pos i k ρ) lim pos kind place value frm fault T 1 0 0 0 g d ∧ isNm T kind place pos
def zMN4 (lim pos kind place value frm fault r : Int) (T A : Int → Int) (i k x y z g d : Int) : Prop := RSQ (fun ρ => zNWQ A r T frm pos i k ρ ∧ ρ 1 ≠ 48) lim pos kind place value frm fault T 4 x y z g d ∧ isNm T kind place pos
def zMG (lim pos kind place value frm fault r : Int) (T A : Int → Int) (i k g d : Int) : Prop := RSQ (zGWQ A r T frm pos i k g) lim pos kind place value frm fault T 5 0 0 0 g d ∧ isNm T kind place pos
theorem gDm_0 {t ρ : Int → Int} {x y z p k b e v g d : Int} (h : isNm t k b e) : gD t (0, x, y, z, g, d, p, ρ) k b e v = gM t ρ g b e (fun i ρ' => (3, i, ρ 1, 0, g, d, e, ρ')) :=
  gD_c0.trans ((cI_f (fun q => by have := h.1; omega)).trans ((cI_f (fun q => by have := h.1; omega)).trans ((cI_f h.2.1).trans ((cI_f h.2.2).trans (cI_t h.1)))))
theorem gDm_1 {t ρ : Int → Int} {x y z p k b e v g d : Int} (h : isNm t k b e) : gD t (1, x, y, z, g, d, p, ρ) k b e v = gM t ρ g b e (fun i ρ' => (2, i, 0, 0, g, d, e, ρ')) := gD_c1.trans (cI_t h)
theorem gDm_4 {t ρ : Int → Int} {x y z p k b e v g d : Int} (h : isNm t k b e) (hj : ¬ (0 ≤ knR t ρ b e ∧ (knR t ρ b e = x ∨ BTR ρ (knR t ρ b e) x))) (h8 : ρ 1 ≠ 48) : gD t (4, x, y, z, g, d, p, ρ) k b e v = gM t ρ g b e (fun i ρ' => (8, i, y, 0, g, d, e, neR ρ' x i z)) := gD_c4.trans ((cI_t h).trans ((cI_f hj).trans (cI_f h8)))
theorem met_no0 {lim pos kind place value frm fault r g d ans : Int} {T A : Int → Int} (h : zRSE lim pos kind place value frm fault r T A g d) (n : NMQ kind pos lim frm T ans) (e : ans = 0) : FSX lim T 1 place := by
  have hs := h.1.1
  have hk : kind ≠ 1 := fun q => nmq_f n (rsq_lim hs).1 (rsq_0 hs).2 e ⟨q, h.2.1, h.2.2⟩
  exact rsq_flt hs (by decide) (by decide) (fun p v ρ q w => gD_c0.trans ((cI_f h.1.2.1).trans ((cI_f (fun a => h.1.2.2 ⟨a.1, by rw [← w (Or.inr a.1)]; exact a.2.1, a.2.2⟩)).trans ((cI_f h.2.1).trans ((cI_f h.2.2).trans (cI_f hk))))))
theorem met_no1 {lim pos kind place value frm fault r g d ans : Int} {T A : Int → Int} (h : zRS1 lim pos kind place value frm fault r T A g d) (n : NMQ kind pos lim frm T ans) (e : ans = 0) : FSX lim T 1 place := by
  exact rsq_flt h (by decide) (by decide) (fun p v ρ q w => gD_c1.trans (cI_f (nmq_f n (rsq_lim h).1 (rsq_0 h).2 e)))
theorem met_no4 {lim pos kind place value frm fault r x y z g d ans : Int} {T A : Int → Int} (h : zRS4 lim pos kind place value frm fault r T A x y z g d) (n : NMQ kind pos lim frm T ans) (e : ans = 0) : FSX lim T 1 place := by
  exact rsq_flt h (by decide) (by decide) (fun p v ρ q w => gD_c4.trans (cI_f (nmq_f n (rsq_lim h).1 (rsq_0 h).2 e)))
theorem met_join {lim pos kind place value frm fault r x y z g d i ans : Int} {T A : Int → Int} (h : zRS4 lim pos kind place value frm fault r T A x y z g d) (n : NMQ kind pos lim frm T ans) (e : ans ≠ 0) (kn : KNQ pos lim frm r A T i) (hi : 0 ≤ i) (hj : i = x ∨ ∃ w, 0 ≤ w ∧ i ≠ x ∧ BT2 r A i x w) : FSX lim T 2 place := by
  have hn := nmq_t n (rsq_lim h).1 (rsq_0 h).2 e
  refine rsq_fltR h (by decide) (by decide) (fun p v ρ q hr w => gD_c4.trans ((cI_t hn).trans (cI_t ?_)))
  have k2 := kn_eq (knq_rho h kn hn.1 ρ q hr)
  rw [k2]
  refine ⟨hi, ?_⟩
  rcases hj with a | ⟨w, w0, w1, w2⟩
  · exact Or.inl a
  · exact Or.inr (bt2_yes w2 q hr w0 w1)
theorem not_join {r x i b e : Int} {T A ρ : Int → Int} (kn : KN T ρ b e i) (q : RPR A r ρ) (hr : ROK ρ) (hj : i < 0 ∨ (i ≠ x ∧ ∃ w, w < 0 ∧ BT2 r A i x w)) : ¬ (0 ≤ knR T ρ b e ∧ (knR T ρ b e = x ∨ BTR ρ (knR T ρ b e) x)) := by
  rw [kn_eq kn]
  rintro ⟨a, b⟩
  rcases hj with z | ⟨z, w, w1, w2⟩
  · omega
  · rcases b with b | b
    · exact z b
    · exact bt2_no w2 q hr w1 z b
theorem met_full0 {lim pos kind place value frm fault r g d i ans : Int} {T A : Int → Int} (h : zRSE lim pos kind place value frm fault r T A g d) (n : NMQ kind pos lim frm T ans) (e : ans ≠ 0) (kn : KNQ pos lim frm r A T i) (hi : i < 0) (h24 : A (r + 0) = 24) : FSX lim T 3 place := by
  have hs := h.1.1
  have hn := nmq_t n (rsq_lim hs).1 (rsq_0 hs).2 e
  exact rsq_fltR hs (by decide) (by decide) (fun p v ρ q hr w => (gDm_0 hn).trans (gM_full (knq_rho hs kn hn.1 ρ q hr) hi (by rw [← q 0 (by omega) (by omega)]; exact h24)))
theorem met_full1 {lim pos kind place value frm fault r g d i ans : Int} {T A : Int → Int} (h : zRS1 lim pos kind place value frm fault r T A g d) (n : NMQ kind pos lim frm T ans) (e : ans ≠ 0) (kn : KNQ pos lim frm r A T i) (hi : i < 0) (h24 : A (r + 0) = 24) : FSX lim T 3 place := by
  have hn := nmq_t n (rsq_lim h).1 (rsq_0 h).2 e
  exact rsq_fltR h (by decide) (by decide) (fun p v ρ q hr w => (gDm_1 hn).trans (gM_full (knq_rho h kn hn.1 ρ q hr) hi (by rw [← q 0 (by omega) (by omega)]; exact h24)))
theorem met_full4 {lim pos kind place value frm fault r x y z g d i ans : Int} {T A : Int → Int} (h : zRS4 lim pos kind place value frm fault r T A x y z g d) (n : NMQ kind pos lim frm T ans) (e : ans ≠ 0) (kn : KNQ pos lim frm r A T i) (hj : i < 0 ∨ (i ≠ x ∧ ∃ w, w < 0 ∧ BT2 r A i x w)) (h24 : (i < 0 ∧ A (r + 0) = 24) ∨ A (r + 1) = 48) : FSX lim T 3 place := by
  have hn := nmq_t n (rsq_lim h).1 (rsq_0 h).2 e
  refine rsq_fltR h (by decide) (by decide) (fun p v ρ q hr w => ?_)
  have k2 := knq_rho h kn hn.1 ρ q hr
  have e0 := q 0 (by omega) (by omega)
  have e1 := q 1 (by omega) (by omega)
  by_cases h8 : ρ 1 = 48
  · exact gD_c4.trans ((cI_t hn).trans ((cI_f (not_join k2 q hr hj)).trans (cI_t h8)))
  · rcases h24 with a | a
    · exact (gDm_4 hn (not_join k2 q hr hj) h8).trans (gM_full k2 a.1 (by omega))
    · omega
theorem met_old0 {lim pos kind place value frm fault r g d i p ans : Int} {T A : Int → Int} (h : zRSE lim pos kind place value frm fault r T A g d) (n : NMQ kind pos lim frm T ans) (e : ans ≠ 0) (kn : KNQ pos lim frm r A T i) (hi : 0 ≤ i) (hp : p = pos) : zTM0 lim fault r T A i g d p := by
  have hs := h.1.1
  rw [hp]
  have hn := nmq_t n (rsq_lim hs).1 (rsq_0 hs).2 e
  refine rsq_goR hs (by decide) (fun p v ρ q hr w => ⟨ρ, ?_, q⟩)
  rw [(gDm_0 hn).trans (gM_old (knq_rho hs kn hn.1 ρ q hr) hi), q 1 (by omega) (by omega)]
theorem met_old1 {lim pos kind place value frm fault r g d i p ans : Int} {T A : Int → Int} (h : zRS1 lim pos kind place value frm fault r T A g d) (n : NMQ kind pos lim frm T ans) (e : ans ≠ 0) (kn : KNQ pos lim frm r A T i) (hi : 0 ≤ i) (hp : p = pos) : zTS2 lim fault r T A i g d p := by
  rw [hp]
  have hn := nmq_t n (rsq_lim h).1 (rsq_0 h).2 e
  exact rsq_goR h (by decide) (fun p v ρ q hr w => ⟨ρ, (gDm_1 hn).trans (gM_old (knq_rho h kn hn.1 ρ q hr) hi), q⟩)
theorem met_old4 {lim pos kind place value frm fault r x y z g d i p ans : Int} {T A : Int → Int} (h : zRS4 lim pos kind place value frm fault r T A x y z g d) (n : NMQ kind pos lim frm T ans) (e : ans ≠ 0) (kn : KNQ pos lim frm r A T i) (hi : 0 ≤ i) (hj : i < 0 ∨ (i ≠ x ∧ ∃ w, w < 0 ∧ BT2 r A i x w)) (h48 : A (r + 1) ≠ 48) (hp : p = pos) : zTP8 lim fault r T A i y x z g d p := by
  rw [hp]
  have hn := nmq_t n (rsq_lim h).1 (rsq_0 h).2 e
  refine rsq_goR h (by decide) (fun p v ρ q hr w => ⟨neR ρ x i z, ?_, ρ, q, rfl⟩)
  have e1 := q 1 (by omega) (by omega)
  have k2 := knq_rho h kn hn.1 ρ q hr
  exact (gDm_4 hn (not_join k2 q hr hj) (by omega)).trans (gM_old k2 hi)
theorem mn_start0 {a1 v1 a2 v2 j : Int} {lim pos kind place value frm fault r g d i k ans : Int} {T A A1 A2 : Int → Int} (h : zRSE lim pos kind place value frm fault r T A g d) (hr0 : 0 ≤ r) (n : NMQ kind pos lim frm T ans) (e : ans ≠ 0) (kn : KNQ pos lim frm r A T j) (hj0 : j < 0) (h24 : A (r + 0) ≠ 24) (s1 : st1 A A1 a1 v1) (s2 : st1 A1 A2 a2 v2) (e1 : a1 = r) (w1 : v1 = A a1 + 1) (hi : i = A r) (e2 : a2 = r + 195 + i) (w2 : v2 = pos - frm) (k0 : k = 0) : zMN0 lim pos kind place value frm fault r T A2 i k g d := by
  have hs := h.1.1
  have l := rsq_lim hs
  have hn := nmq_t n l.1 (rsq_0 hs).2 e
  refine ⟨?_, hn⟩
  obtain ⟨ρ0, _, hok, _⟩ := rsq_ok hs (by decide)
  obtain ⟨f0, f1, m, ρ, p, v, g1, q, g3, g4⟩ := hs
  have hr : ROK ρ := by
    rcases gr_good g1 with z | ⟨_, z⟩
    · exact absurd z (show ¬ ((0 : Int) = 100) by decide)
    · exact z
  have k2 := knq_rho (h.1.1) kn hn.1 ρ q hr
  have q0 := q 0 (by omega) (by omega)
  have q1 := q 1 (by omega) (by omega)
  have hr1 := hr.1
  have hr2 := hr.2.1
  have hm : j = -1 := by
    rcases k2 with z | z
    · exact z.1
    · have := z.1; omega
  have nw : zNWQ A2 r T frm pos i k ρ := nwq_start q hr0 (by rw [f1, kn_eq k2]; exact hm) ⟨by omega, by omega⟩ s1 s2 e1 w1 hi e2 w2 l.2.1 k0
  exact ⟨f0, f1, m, ρ, p, v, g1, nw, g3, g4⟩
theorem mn_step0 {q c k_zq : Int} {lim pos kind place value frm fault r g d i k : Int} {T A A1 : Int → Int} (hT : ∀ j, frm ≤ j → j < pos → tkN (T j)) (h : zMN0 lim pos kind place value frm fault r T A i k g d) (hr0 : 0 ≤ r) (s : st1 A A1 q c) (e1 : q = r + (3 + 8 * i + k)) (hc : c = T (frm + k)) (hk : k < pos - frm) (ek : k_zq = k + 1) : zMN0 lim pos kind place value frm fault r T A1 i k_zq g d := by
  obtain ⟨⟨f0, f1, m, ρ, p, v, g1, q, g3, g4⟩, hn⟩ := h
  have hr : ROK ρ := by
    rcases gr_good g1 with z | ⟨_, z⟩
    · exact absurd z (show ¬ ((0 : Int) = 100) by decide)
    · exact z
  have hr1 := hr.1
  exact ⟨⟨f0, f1, m, ρ, p, v, g1, nwq_step q hr0 hr1 s e1 hc hk ek, g3, g4⟩, hn⟩
theorem mn_end0 {a1 v1 a2 v2 : Int} {lim pos kind place value frm fault r g d i k p : Int} {T A A1 A2 : Int → Int} (h : zMN0 lim pos kind place value frm fault r T A i k g d) (hr0 : 0 ≤ r) (hk : pos - frm ≤ k) (s1 : st1 A A1 a1 v1) (s2 : st1 A1 A2 a2 v2) (e1 : a1 = r + 219 + i) (w1 : v1 = 1) (e2 : a2 = r + 243 + i) (w2 : v2 = g) (hp : p = pos) : zTM0 lim fault r T A2 i g d p := by
  rw [hp]
  obtain ⟨h, hn⟩ := h
  have f1 := (rsq_0 h).2
  refine rsq_goR h (by decide) (fun p v ρ q hr w => ?_)
  have hr1 := hr.1
  have nw := q
  have hrow : RPR A2 r (nnR T ρ place pos g) := by rw [← f1]; exact nwq_end nw hr0 hr1 hk s1 s2 e1 w1 e2 w2
  have kk : knR T ρ place pos = -1 := by rw [← f1]; exact nw.1
  have hi := nw.2.2.1
  have l24 := nw.2.1
  refine ⟨_, ?_, hrow⟩
  have h1 := hrow 1 (by omega) (by omega)
  rw [(gDm_0 hn).trans (gM_new kk l24), ← hi, h1, (nnR_ok hr (by omega) ⟨by have := rsq_lim h; omega, by have := (rsq_lim h).2.2.2 hn.1; omega⟩).2.2.1]
theorem mn_start1 {a1 v1 a2 v2 j : Int} {lim pos kind place value frm fault r g d i k ans : Int} {T A A1 A2 : Int → Int} (h : zRS1 lim pos kind place value frm fault r T A g d) (hr0 : 0 ≤ r) (n : NMQ kind pos lim frm T ans) (e : ans ≠ 0) (kn : KNQ pos lim frm r A T j) (hj0 : j < 0) (h24 : A (r + 0) ≠ 24) (s1 : st1 A A1 a1 v1) (s2 : st1 A1 A2 a2 v2) (e1 : a1 = r) (w1 : v1 = A a1 + 1) (hi : i = A r) (e2 : a2 = r + 195 + i) (w2 : v2 = pos - frm) (k0 : k = 0) : zMN1 lim pos kind place value frm fault r T A2 i k g d := by
  have hs := h
  have l := rsq_lim hs
  have hn := nmq_t n l.1 (rsq_0 hs).2 e
  refine ⟨?_, hn⟩
  obtain ⟨ρ0, _, hok, _⟩ := rsq_ok hs (by decide)
  obtain ⟨f0, f1, m, ρ, p, v, g1, q, g3, g4⟩ := hs
  have hr : ROK ρ := by
    rcases gr_good g1 with z | ⟨_, z⟩
    · exact absurd z (show ¬ ((1 : Int) = 100) by decide)
    · exact z
  have k2 := knq_rho (h) kn hn.1 ρ q hr
  have q0 := q 0 (by omega) (by omega)
  have q1 := q 1 (by omega) (by omega)
  have hr1 := hr.1
  have hr2 := hr.2.1
  have hm : j = -1 := by
    rcases k2 with z | z
    · exact z.1
    · have := z.1; omega
  have nw : zNWQ A2 r T frm pos i k ρ := nwq_start q hr0 (by rw [f1, kn_eq k2]; exact hm) ⟨by omega, by omega⟩ s1 s2 e1 w1 hi e2 w2 l.2.1 k0
  exact ⟨f0, f1, m, ρ, p, v, g1, nw, g3, g4⟩
theorem mn_step1 {q c k_zq : Int} {lim pos kind place value frm fault r g d i k : Int} {T A A1 : Int → Int} (hT : ∀ j, frm ≤ j → j < pos → tkN (T j)) (h : zMN1 lim pos kind place value frm fault r T A i k g d) (hr0 : 0 ≤ r) (s : st1 A A1 q c) (e1 : q = r + (3 + 8 * i + k)) (hc : c = T (frm + k)) (hk : k < pos - frm) (ek : k_zq = k + 1) : zMN1 lim pos kind place value frm fault r T A1 i k_zq g d := by
  obtain ⟨⟨f0, f1, m, ρ, p, v, g1, q, g3, g4⟩, hn⟩ := h
  have hr : ROK ρ := by
    rcases gr_good g1 with z | ⟨_, z⟩
    · exact absurd z (show ¬ ((1 : Int) = 100) by decide)
    · exact z
  have hr1 := hr.1
  exact ⟨⟨f0, f1, m, ρ, p, v, g1, nwq_step q hr0 hr1 s e1 hc hk ek, g3, g4⟩, hn⟩
theorem mn_end1 {a1 v1 a2 v2 : Int} {lim pos kind place value frm fault r g d i k p : Int} {T A A1 A2 : Int → Int} (h : zMN1 lim pos kind place value frm fault r T A i k g d) (hr0 : 0 ≤ r) (hk : pos - frm ≤ k) (s1 : st1 A A1 a1 v1) (s2 : st1 A1 A2 a2 v2) (e1 : a1 = r + 219 + i) (w1 : v1 = 1) (e2 : a2 = r + 243 + i) (w2 : v2 = g) (hp : p = pos) : zTS2 lim fault r T A2 i g d p := by
  rw [hp]
  obtain ⟨h, hn⟩ := h
  have f1 := (rsq_0 h).2
  refine rsq_goR h (by decide) (fun p v ρ q hr w => ?_)
  have hr1 := hr.1
  have nw := q
  have hrow : RPR A2 r (nnR T ρ place pos g) := by rw [← f1]; exact nwq_end nw hr0 hr1 hk s1 s2 e1 w1 e2 w2
  have kk : knR T ρ place pos = -1 := by rw [← f1]; exact nw.1
  have hi := nw.2.2.1
  have l24 := nw.2.1
  refine ⟨_, ?_, hrow⟩
  rw [(gDm_1 hn).trans (gM_new kk l24), ← hi]
theorem mn_start4 {a1 v1 a2 v2 j : Int} {lim pos kind place value frm fault r x y z g d i k ans : Int} {T A A1 A2 : Int → Int} (h : zRS4 lim pos kind place value frm fault r T A x y z g d) (hr0 : 0 ≤ r) (n : NMQ kind pos lim frm T ans) (e : ans ≠ 0) (kn : KNQ pos lim frm r A T j) (hj0 : j < 0) (h24 : A (r + 0) ≠ 24) (h48 : A (r + 1) ≠ 48) (s1 : st1 A A1 a1 v1) (s2 : st1 A1 A2 a2 v2) (e1 : a1 = r) (w1 : v1 = A a1 + 1) (hi : i = A r) (e2 : a2 = r + 195 + i) (w2 : v2 = pos - frm) (k0 : k = 0) : zMN4 lim pos kind place value frm fault r T A2 i k x y z g d := by
  have hs := h
  have l := rsq_lim hs
  have hn := nmq_t n l.1 (rsq_0 hs).2 e
  refine ⟨?_, hn⟩
  obtain ⟨ρ0, _, hok, _⟩ := rsq_ok hs (by decide)
  obtain ⟨f0, f1, m, ρ, p, v, g1, q, g3, g4⟩ := hs
  have hr : ROK ρ := by
    rcases gr_good g1 with z | ⟨_, z⟩
    · exact absurd z (show ¬ ((4 : Int) = 100) by decide)
    · exact z
  have k2 := knq_rho (h) kn hn.1 ρ q hr
  have q0 := q 0 (by omega) (by omega)
  have q1 := q 1 (by omega) (by omega)
  have hr1 := hr.1
  have hr2 := hr.2.1
  have hm : j = -1 := by
    rcases k2 with z | z
    · exact z.1
    · have := z.1; omega
  have nw : zNWQ A2 r T frm pos i k ρ := nwq_start q hr0 (by rw [f1, kn_eq k2]; exact hm) ⟨by omega, by omega⟩ s1 s2 e1 w1 hi e2 w2 l.2.1 k0
  exact ⟨f0, f1, m, ρ, p, v, g1, ⟨nw, by omega⟩, g3, g4⟩
theorem mn_step4 {q c k_zq : Int} {lim pos kind place value frm fault r x y z g d i k : Int} {T A A1 : Int → Int} (hT : ∀ j, frm ≤ j → j < pos → tkN (T j)) (h : zMN4 lim pos kind place value frm fault r T A i k x y z g d) (hr0 : 0 ≤ r) (s : st1 A A1 q c) (e1 : q = r + (3 + 8 * i + k)) (hc : c = T (frm + k)) (hk : k < pos - frm) (ek : k_zq = k + 1) : zMN4 lim pos kind place value frm fault r T A1 i k_zq x y z g d := by
  obtain ⟨⟨f0, f1, m, ρ, p, v, g1, q, g3, g4⟩, hn⟩ := h
  have hr : ROK ρ := by
    rcases gr_good g1 with z | ⟨_, z⟩
    · exact absurd z (show ¬ ((4 : Int) = 100) by decide)
    · exact z
  have hr1 := hr.1
  exact ⟨⟨f0, f1, m, ρ, p, v, g1, ⟨nwq_step q.1 hr0 hr1 s e1 hc hk ek, q.2⟩, g3, g4⟩, hn⟩
theorem mn_end4 {a1 v1 a2 v2 : Int} {lim pos kind place value frm fault r x y z g d i k p : Int} {T A A1 A2 : Int → Int} (h : zMN4 lim pos kind place value frm fault r T A i k x y z g d) (hr0 : 0 ≤ r) (hk : pos - frm ≤ k) (s1 : st1 A A1 a1 v1) (s2 : st1 A1 A2 a2 v2) (e1 : a1 = r + 219 + i) (w1 : v1 = 1) (e2 : a2 = r + 243 + i) (w2 : v2 = g) (hp : p = pos) : zTP8 lim fault r T A2 i y x z g d p := by
  rw [hp]
  obtain ⟨h, hn⟩ := h
  have f1 := (rsq_0 h).2
  refine rsq_goR h (by decide) (fun p v ρ q hr w => ?_)
  have hr1 := hr.1
  have nw := q.1
  have hrow : RPR A2 r (nnR T ρ place pos g) := by rw [← f1]; exact nwq_end nw hr0 hr1 hk s1 s2 e1 w1 e2 w2
  have kk : knR T ρ place pos = -1 := by rw [← f1]; exact nw.1
  have hi := nw.2.2.1
  have l24 := nw.2.1
  refine ⟨neR (nnR T ρ place pos g) x i z, ?_, nnR T ρ place pos g, hrow, rfl⟩
  rw [(gDm_4 hn (by rw [kk]; rintro ⟨a, _⟩; omega) q.2).trans (gM_new kk l24), ← hi]
end
