-- style sheets of the reference: contracts of the parser's methods
/-- a method does what a function says: from no fault; a fault stays -/
def CTR (F : Int → Option Int) (ft cu c0 f0 : Int) : Prop := (f0 = 0 → F c0 = rsO ft cu) ∧ (f0 ≠ 0 → ft ≠ 0)
theorem ctr_bind {F G : Int → Option Int} {f1 c1 ft cu c0 f0 : Int} (h : CTR F f1 c1 c0 f0) (g : CTR G ft cu c1 f1) : CTR (fun c => (F c).bind G) ft cu c0 f0 := by
  refine ⟨fun z => ?_, fun z => g.2 (h.2 z)⟩
  show (F c0).bind G = _
  rw [h.1 z, rsO_bind]
  by_cases y : f1 = 0
  · rw [if_pos y]; exact g.1 y
  · rw [if_neg y, rsO_1 (g.2 y)]
/-- its loop is under way -/
def LPC (F G : Int → Option Int) (m : Int → Prop) (ft cu c0 f0 : Int) : Prop := (f0 = 0 → LPO G m ((F c0).bind (lpO G m 2200)) ft cu) ∧ (f0 ≠ 0 → ft ≠ 0)
theorem lpc_start {F G : Int → Option Int} {m : Int → Prop} {ft cu c0 f0 : Int} (h : CTR F ft cu c0 f0) (c1 : 0 ≤ cu) : LPC F G m ft cu c0 f0 := ⟨fun z => lpo_start c1 (by rw [h.1 z]), h.2⟩
theorem lpc_step {F G : Int → Option Int} {m : Int → Prop} {ft cu ft' cu' c0 f0 c1 f1 : Int} (h : LPC F G m ft cu c0 f0) (h0 : ft = 0) (hm : m cu) (cb : cu ≤ 2099) (hc : cu < cu') (g : CTR G ft' cu' c1 f1) (e1 : c1 = cu + 1) (e2 : f1 = 0) : LPC F G m ft' cu' c0 f0 := by
  subst e1
  exact ⟨fun z => lpo_step (h.1 z) h0 hm cb hc (g.1 e2), fun z => absurd h0 (h.2 z)⟩
theorem lpc_end {F G : Int → Option Int} {m : Int → Prop} {ft cu c0 f0 : Int} (h : LPC F G m ft cu c0 f0) (hm : ft = 0 → ¬ m cu) (cb : cu ≤ 2099) : CTR (fun c => (F c).bind (lpO G m 2200)) ft cu c0 f0 := ⟨fun z => lpo_end (h.1 z) hm cb, h.2⟩
/-- signs and words of the reference -/
def sgS (kd tv : Int → Int) (c a : Int) : Prop := kd c = 3 ∧ tv c = a
def wdS (lm : Int) (kd pl en tp : Int → Int) (s : List Int) (c : Int) : Prop := kd c = 1 ∧ en c = pl c + s.length ∧ pl c + s.length ≤ lm ∧ ∀ i : Nat, i < s.length → tp (pl c + i) % 256 = s.getD i 0
def nwS : List (List Int) := [[100, 101, 103], [105, 110], [111, 117, 116], [115, 105, 122, 101], [103, 114, 111, 117, 112], [102, 97, 114], [99, 111, 114, 101], [99, 117, 116], [120], [121]]
def ewS : List (List Int) := [[119, 101, 105, 103, 104, 116], [116, 117, 114, 110, 101, 100], [98, 114, 105, 100, 103, 101], [102, 114, 111, 109], [116, 111], [98, 108, 111, 99, 107], [108, 111, 110, 103], [111, 110, 101]]
def iwS (kn lm : Int) (kd pl en tp : Int → Int) (c : Int) : Prop := ∃ s, s ∈ (if kn = 0 then nwS else ewS) ∧ wdS lm kd pl en tp s c
noncomputable def lvS (kn lm : Int) (kd tv pl en tp : Int → Int) (k : Nat) : (Int → Option Int) × (Int → Option Int) × (Int → Option Int) := lvO kd (sgS kd tv) (iwS kn lm kd pl en tp) (wdS lm kd pl en tp [110, 111, 116]) (wdS lm kd pl en tp [97, 110, 100]) (wdS lm kd pl en tp [111, 114]) k
noncomputable def fVL (op kn lm : Int) (kd tv pl en tp : Int → Int) : Int → Option Int := vlO kd (sgS kd tv) (iwS kn lm kd pl en tp) (lvS kn lm kd tv pl en tp (12 - op).toNat).1
noncomputable def fPR (op kn lm : Int) (kd tv pl en tp : Int → Int) : Int → Option Int := prO kd (sgS kd tv) (iwS kn lm kd pl en tp) (lvS kn lm kd tv pl en tp (12 - op).toNat).1
noncomputable def fSM (op kn lm : Int) (kd tv pl en tp : Int → Int) : Int → Option Int := smO kd (sgS kd tv) (iwS kn lm kd pl en tp) (lvS kn lm kd tv pl en tp (12 - op).toNat).1
noncomputable def fON (op kn lm : Int) (kd tv pl en tp : Int → Int) : Int → Option Int := oneO kd (sgS kd tv) (iwS kn lm kd pl en tp) (wdS lm kd pl en tp [110, 111, 116]) (lvS kn lm kd tv pl en tp (12 - op).toNat).1 (lvS kn lm kd tv pl en tp (12 - op).toNat).2.1 (lvS kn lm kd tv pl en tp (12 - op).toNat).2.2
noncomputable def fBO (op kn lm : Int) (kd tv pl en tp : Int → Int) : Int → Option Int := boO kd (sgS kd tv) (iwS kn lm kd pl en tp) (wdS lm kd pl en tp [110, 111, 116]) (wdS lm kd pl en tp [97, 110, 100]) (lvS kn lm kd tv pl en tp (12 - op).toNat).1 (lvS kn lm kd tv pl en tp (12 - op).toNat).2.1 (lvS kn lm kd tv pl en tp (12 - op).toNat).2.2
noncomputable def fTE (op kn lm : Int) (kd tv pl en tp : Int → Int) : Int → Option Int := teO kd (sgS kd tv) (iwS kn lm kd pl en tp) (wdS lm kd pl en tp [110, 111, 116]) (wdS lm kd pl en tp [97, 110, 100]) (wdS lm kd pl en tp [111, 114]) (lvS kn lm kd tv pl en tp (12 - op).toNat).1 (lvS kn lm kd tv pl en tp (12 - op).toNat).2.1 (lvS kn lm kd tv pl en tp (12 - op).toNat).2.2
theorem lvS_in {op op' kn lm : Int} {kd tv pl en tp : Int → Int} (o1 : op ≤ 11) (e : op' = op + 1) : lvS kn lm kd tv pl en tp (12 - op).toNat = (fSM op' kn lm kd tv pl en tp, fON op' kn lm kd tv pl en tp, fTE op' kn lm kd tv pl en tp) := by
  have h : (12 - op).toNat = (12 - op').toNat + 1 := by omega
  unfold fSM fON fTE
  rw [h]
  rfl
theorem lvS_0 {op kn lm : Int} {kd tv pl en tp : Int → Int} (o1 : 12 ≤ op) : lvS kn lm kd tv pl en tp (12 - op).toNat = (fun _ => none, fun _ => none, fun _ => none) := by
  rw [show (12 - op).toNat = 0 by omega]; rfl
/-- contracts: fields fault cur styleKind limit; where, with what fault and how deep the method began -/
def SVL (ft cu kn lm : Int) (kd tv pl en tp : Int → Int) (c0 f0 op : Int) : Prop := CTR (fVL op kn lm kd tv pl en tp) ft cu c0 f0
def SPQv (ft cu kn lm : Int) (kd tv pl en tp : Int → Int) (c0 f0 op : Int) : Prop := CTR (fPR op kn lm kd tv pl en tp) ft cu c0 f0
def SSM (ft cu kn lm : Int) (kd tv pl en tp : Int → Int) (c0 f0 op : Int) : Prop := CTR (fSM op kn lm kd tv pl en tp) ft cu c0 f0
def SON (ft cu kn lm : Int) (kd tv pl en tp : Int → Int) (c0 f0 op : Int) : Prop := CTR (fON op kn lm kd tv pl en tp) ft cu c0 f0
def SBO (ft cu kn lm : Int) (kd tv pl en tp : Int → Int) (c0 f0 op : Int) : Prop := CTR (fBO op kn lm kd tv pl en tp) ft cu c0 f0
def STE (ft cu kn lm : Int) (kd tv pl en tp : Int → Int) (c0 f0 op : Int) : Prop := CTR (fTE op kn lm kd tv pl en tp) ft cu c0 f0
/-- their loops -/
def SPWv (ft cu kn lm : Int) (kd tv pl en tp : Int → Int) (c0 f0 op : Int) : Prop := LPC (fVL op kn lm kd tv pl en tp) (fVL op kn lm kd tv pl en tp) (fun c => sgS kd tv c 42 ∨ sgS kd tv c 47) ft cu c0 f0
def SSL (ft cu kn lm : Int) (kd tv pl en tp : Int → Int) (c0 f0 op : Int) : Prop := LPC (fPR op kn lm kd tv pl en tp) (fPR op kn lm kd tv pl en tp) (fun c => sgS kd tv c 43 ∨ sgS kd tv c 45) ft cu c0 f0
def SBL (ft cu kn lm : Int) (kd tv pl en tp : Int → Int) (c0 f0 op : Int) : Prop := LPC (fON op kn lm kd tv pl en tp) (fON op kn lm kd tv pl en tp) (wdS lm kd pl en tp [97, 110, 100]) ft cu c0 f0
def STL (ft cu kn lm : Int) (kd tv pl en tp : Int → Int) (c0 f0 op : Int) : Prop := LPC (fBO op kn lm kd tv pl en tp) (fBO op kn lm kd tv pl en tp) (wdS lm kd pl en tp [111, 114]) ft cu c0 f0
theorem spqv_of {ft cu op kn lm c0 f0 : Int} {kd tv pl en tp : Int → Int} (h : SPWv ft cu kn lm kd tv pl en tp c0 f0 op) (hm : ft = 0 → ¬ (sgS kd tv cu 42 ∨ sgS kd tv cu 47)) (cb : cu ≤ 2099) : SPQv ft cu kn lm kd tv pl en tp c0 f0 op := lpc_end h hm cb
theorem ssm_of {ft cu op kn lm c0 f0 : Int} {kd tv pl en tp : Int → Int} (h : SSL ft cu kn lm kd tv pl en tp c0 f0 op) (hm : ft = 0 → ¬ (sgS kd tv cu 43 ∨ sgS kd tv cu 45)) (cb : cu ≤ 2099) : SSM ft cu kn lm kd tv pl en tp c0 f0 op := lpc_end h hm cb
theorem sbo_of {ft cu op kn lm c0 f0 : Int} {kd tv pl en tp : Int → Int} (h : SBL ft cu kn lm kd tv pl en tp c0 f0 op) (hm : ft = 0 → ¬ wdS lm kd pl en tp [97, 110, 100] cu) (cb : cu ≤ 2099) : SBO ft cu kn lm kd tv pl en tp c0 f0 op := lpc_end h hm cb
theorem ste_of {ft cu op kn lm c0 f0 : Int} {kd tv pl en tp : Int → Int} (h : STL ft cu kn lm kd tv pl en tp c0 f0 op) (hm : ft = 0 → ¬ wdS lm kd pl en tp [111, 114] cu) (cb : cu ≤ 2099) : STE ft cu kn lm kd tv pl en tp c0 f0 op := lpc_end h hm cb
/-- a sign's answer; a sign that is needed -/
def SGN (cu : Int) (kd tv : Int → Int) (a an f : Int) : Prop := an = 1 ↔ f = 0 ∧ sgS kd tv cu a
def SND (ft cu : Int) (kd tv : Int → Int) (a c0 f0 : Int) : Prop := CTR (ndO (sgS kd tv) a) ft cu c0 f0
theorem snd_fault {ft cu a c0 f0 : Int} {kd tv : Int → Int} (h : f0 ≠ 0) (e : ft = f0) : SND ft cu kd tv a c0 f0 := ⟨fun z => absurd z h, fun _ => by rw [e]; exact h⟩
theorem snd_yes {ft cu a c0 f0 : Int} {kd tv : Int → Int} (hs : sgS kd tv c0 a) (e : ft = 0) (ec : cu = c0 + 1) (h0 : f0 = 0) : SND ft cu kd tv a c0 f0 := ⟨fun _ => by unfold ndO; rw [if_pos hs, rsO_0 e, ec], fun z => absurd h0 z⟩
theorem snd_no {ft cu a c0 f0 : Int} {kd tv : Int → Int} (hs : ¬ sgS kd tv c0 a) (e : ft ≠ 0) : SND ft cu kd tv a c0 f0 := ⟨fun _ => by unfold ndO; rw [if_neg hs, rsO_1 e], fun _ => e⟩
/-- values -/
theorem svl_fault {ft cu op kn lm c0 f0 : Int} {kd tv pl en tp : Int → Int} (h : f0 ≠ 0) (e : ft = f0) : SVL ft cu kn lm kd tv pl en tp c0 f0 op := ⟨fun z => absurd z h, fun _ => by rw [e]; exact h⟩
theorem svl_num {ft cu op kn lm c0 f0 : Int} {kd tv pl en tp : Int → Int} (hk : kd c0 = 2) (e : ft = 0) (h0 : f0 = 0) (ec : cu = c0 + 1) : SVL ft cu kn lm kd tv pl en tp c0 f0 op := ⟨fun _ => by unfold fVL vlO; rw [if_pos hk, rsO_0 e, ec], fun z => absurd h0 z⟩
theorem svl_word {ft cu op kn lm c0 f0 : Int} {kd tv pl en tp : Int → Int} (hk : kd c0 = 1) (hw : iwS kn lm kd pl en tp c0) (e : ft = 0) (h0 : f0 = 0) (ec : cu = c0 + 1) : SVL ft cu kn lm kd tv pl en tp c0 f0 op := ⟨fun _ => by
  unfold fVL vlO
  rw [if_neg (by omega), if_neg (fun z => by have := z.1; omega), if_pos hw, rsO_0 e, ec], fun z => absurd h0 z⟩
theorem svl_none {ft cu op kn lm c0 f0 : Int} {kd tv pl en tp : Int → Int} (hk : kd c0 ≠ 2) (hs : ¬ sgS kd tv c0 40) (hw : ¬ iwS kn lm kd pl en tp c0) (e : ft ≠ 0) : SVL ft cu kn lm kd tv pl en tp c0 f0 op := ⟨fun _ => by
  unfold fVL vlO
  rw [if_neg hk, if_neg hs, if_neg hw, rsO_1 e], fun _ => e⟩
theorem svl_open {ft cu op op' kn lm c0 f0 c1 f1 c2 f2 : Int} {kd tv pl en tp : Int → Int} (hs : sgS kd tv c0 40) (o1 : op' = op + 1) (hf : 12 ≤ op → f1 ≠ 0) (hf0 : op ≤ 11 → f1 = 0) (e1 : c1 = c0 + 1) (h : CTR (fSM op' kn lm kd tv pl en tp) f2 c2 c1 f1) (g : SND ft cu kd tv 41 c2 f2) (h0 : f0 = 0) : SVL ft cu kn lm kd tv pl en tp c0 f0 op := by
  refine ⟨fun _ => ?_, fun z => absurd h0 z⟩
  unfold fVL vlO
  rw [if_neg (by have := hs.1; omega), if_pos hs]
  by_cases z : op ≤ 11
  · rw [lvS_in z o1]
    have b := (ctr_bind h g).1 (hf0 z)
    rw [← e1]; exact b
  · rw [lvS_0 (by omega)]
    have f2n := h.2 (hf (by omega))
    rw [rsO_1 (g.2 f2n)]; rfl
/-- a loop ahead of its next call: what it says of the place before -/
def GPW (kn lm : Int) (kd tv pl en tp : Int → Int) (c f c0 f0 op : Int) : Prop := f = 0 ∧ LPC (fVL op kn lm kd tv pl en tp) (fVL op kn lm kd tv pl en tp) (fun c => sgS kd tv c 42 ∨ sgS kd tv c 47) 0 (c - 1) c0 f0 ∧ (sgS kd tv (c - 1) 42 ∨ sgS kd tv (c - 1) 47)
def GSL (kn lm : Int) (kd tv pl en tp : Int → Int) (c f c0 f0 op : Int) : Prop := f = 0 ∧ LPC (fPR op kn lm kd tv pl en tp) (fPR op kn lm kd tv pl en tp) (fun c => sgS kd tv c 43 ∨ sgS kd tv c 45) 0 (c - 1) c0 f0 ∧ (sgS kd tv (c - 1) 43 ∨ sgS kd tv (c - 1) 45)
def GBL (kn lm : Int) (kd tv pl en tp : Int → Int) (c f c0 f0 op : Int) : Prop := f = 0 ∧ LPC (fON op kn lm kd tv pl en tp) (fON op kn lm kd tv pl en tp) (wdS lm kd pl en tp [97, 110, 100]) 0 (c - 1) c0 f0 ∧ wdS lm kd pl en tp [97, 110, 100] (c - 1)
def GTL (kn lm : Int) (kd tv pl en tp : Int → Int) (c f c0 f0 op : Int) : Prop := f = 0 ∧ LPC (fBO op kn lm kd tv pl en tp) (fBO op kn lm kd tv pl en tp) (wdS lm kd pl en tp [111, 114]) 0 (c - 1) c0 f0 ∧ wdS lm kd pl en tp [111, 114] (c - 1)
theorem lpc_go {F G : Int → Option Int} {m : Int → Prop} {ft' cu' c0 f0 c f : Int} (h : f = 0 ∧ LPC F G m 0 (c - 1) c0 f0 ∧ m (c - 1)) (cb : c ≤ 2100) (hc : c ≤ cu') (g : CTR G ft' cu' c f) : LPC F G m ft' cu' c0 f0 := lpc_step h.2.1 rfl h.2.2 (by omega) (by omega) g (by omega) h.1
