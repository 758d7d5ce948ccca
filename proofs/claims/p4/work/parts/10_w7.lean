-- style sheets of the reference: what the parser does, as functions; none where it faults
noncomputable def lpO (f : Int → Option Int) (m : Int → Prop) : Nat → Int → Option Int
  | 0, _ => none
  | n + 1, c => @ite _ (m c) (Classical.propDecidable _) ((f (c + 1)).bind (lpO f m n)) (some c)
/-- how a run stands: no fault, and where; or a fault -/
def rsO (ft c : Int) : Option Int := if ft = 0 then some c else none
theorem rsO_0 {ft c : Int} (h : ft = 0) : rsO ft c = some c := if_pos h
theorem rsO_1 {ft c : Int} (h : ft ≠ 0) : rsO ft c = none := if_neg h
theorem rsO_bind {ft c : Int} {g : Int → Option Int} : (rsO ft c).bind g = if ft = 0 then g c else none := by
  by_cases h : ft = 0
  · rw [rsO_0 h, if_pos h]; rfl
  · rw [rsO_1 h, if_neg h]; rfl
/-- a loop is under way: what is still to come gives the result -/
def LPO (f : Int → Option Int) (m : Int → Prop) (r : Option Int) (ft c : Int) : Prop := ∃ n : Nat, 2100 - c < n ∧ r = if ft = 0 then lpO f m n c else none
theorem lpo_start {f : Int → Option Int} {m : Int → Prop} {r : Option Int} {ft c : Int} (c0 : 0 ≤ c) (h : r = (rsO ft c).bind (lpO f m 2200)) : LPO f m r ft c := ⟨2200, by omega, by rw [h, rsO_bind]⟩
theorem lpo_step {f : Int → Option Int} {m : Int → Prop} {r : Option Int} {ft c ft' c' : Int} (h : LPO f m r ft c) (h0 : ft = 0) (hm : m c) (c1 : c ≤ 2099) (hc : c < c') (hf : f (c + 1) = rsO ft' c') : LPO f m r ft' c' := by
  obtain ⟨n, hn, e⟩ := h
  cases n with
  | zero => omega
  | succ n =>
    refine ⟨n, by omega, ?_⟩
    rw [e, if_pos h0]
    show @ite _ (m c) (Classical.propDecidable _) _ _ = _
    rw [if_pos hm, hf, rsO_bind]
theorem lpo_end {f : Int → Option Int} {m : Int → Prop} {r : Option Int} {ft c : Int} (h : LPO f m r ft c) (hm : ft = 0 → ¬ m c) (c1 : c ≤ 2099) : r = rsO ft c := by
  obtain ⟨n, hn, e⟩ := h
  by_cases h0 : ft = 0
  · cases n with
    | zero => omega
    | succ n =>
      rw [e, if_pos h0, rsO_0 h0]
      show @ite _ (m c) (Classical.propDecidable _) _ _ = _
      rw [if_neg (hm h0)]
  · rw [e, if_neg h0, rsO_1 h0]
/-- a sign that is needed -/
noncomputable def ndO (sg : Int → Int → Prop) (a c : Int) : Option Int := @ite _ (sg c a) (Classical.propDecidable _) (some (c + 1)) none
/-- values, products, sums, tests of one depth out of those of the next -/
noncomputable def vlO (kd : Int → Int) (sg : Int → Int → Prop) (iw : Int → Prop) (sm : Int → Option Int) (c : Int) : Option Int := if kd c = 2 then some (c + 1) else @ite _ (sg c 40) (Classical.propDecidable _) ((sm (c + 1)).bind (ndO sg 41)) (@ite _ (iw c) (Classical.propDecidable _) (some (c + 1)) none)
noncomputable def prO (kd : Int → Int) (sg : Int → Int → Prop) (iw : Int → Prop) (sm : Int → Option Int) (c : Int) : Option Int := (vlO kd sg iw sm c).bind (lpO (vlO kd sg iw sm) (fun c => sg c 42 ∨ sg c 47) 2200)
noncomputable def smO (kd : Int → Int) (sg : Int → Int → Prop) (iw : Int → Prop) (sm : Int → Option Int) (c : Int) : Option Int := (prO kd sg iw sm c).bind (lpO (prO kd sg iw sm) (fun c => sg c 43 ∨ sg c 45) 2200)
noncomputable def oneO (kd : Int → Int) (sg : Int → Int → Prop) (iw wn : Int → Prop) (sm on ts : Int → Option Int) (c : Int) : Option Int := @ite _ (wn c) (Classical.propDecidable _) (on (c + 1)) (@ite _ (sg c 123) (Classical.propDecidable _) ((ts (c + 1)).bind (ndO sg 125)) ((smO kd sg iw sm c).bind (fun d => @ite _ (sg d 60 ∨ sg d 61 ∨ sg d 62) (Classical.propDecidable _) (smO kd sg iw sm (d + 1)) none)))
noncomputable def boO (kd : Int → Int) (sg : Int → Int → Prop) (iw wn wa : Int → Prop) (sm on ts : Int → Option Int) (c : Int) : Option Int := (oneO kd sg iw wn sm on ts c).bind (lpO (oneO kd sg iw wn sm on ts) wa 2200)
noncomputable def teO (kd : Int → Int) (sg : Int → Int → Prop) (iw wn wa wo : Int → Prop) (sm on ts : Int → Option Int) (c : Int) : Option Int := (boO kd sg iw wn wa sm on ts c).bind (lpO (boO kd sg iw wn wa sm on ts) wo 2200)
/-- all depths: sum, one test, test -/
noncomputable def lvO (kd : Int → Int) (sg : Int → Int → Prop) (iw wn wa wo : Int → Prop) : Nat → (Int → Option Int) × (Int → Option Int) × (Int → Option Int)
  | 0 => (fun _ => none, fun _ => none, fun _ => none)
  | k + 1 => (smO kd sg iw (lvO kd sg iw wn wa wo k).1, oneO kd sg iw wn (lvO kd sg iw wn wa wo k).1 (lvO kd sg iw wn wa wo k).2.1 (lvO kd sg iw wn wa wo k).2.2, teO kd sg iw wn wa wo (lvO kd sg iw wn wa wo k).1 (lvO kd sg iw wn wa wo k).2.1 (lvO kd sg iw wn wa wo k).2.2)
/-- rules one after the other, up to the end -/
def okR (kd : Int → Int) (ru : Int → Option Int) : Nat → Int → Prop
  | 0, _ => False
  | n + 1, c => kd c = 0 ∨ ∃ d, ru c = some d ∧ okR kd ru n d
def OKR (kd : Int → Int) (ru : Int → Option Int) (c : Int) : Prop := ∃ n, okR kd ru n c
theorem okr_end {kd : Int → Int} {ru : Int → Option Int} {c : Int} (h : kd c = 0) : OKR kd ru c := ⟨1, Or.inl h⟩
theorem okr_back {kd : Int → Int} {ru : Int → Option Int} {c d : Int} (h : ru c = some d) (hd : OKR kd ru d) : OKR kd ru c := by
  obtain ⟨n, hn⟩ := hd
  exact ⟨n + 1, Or.inr ⟨d, h, hn⟩⟩
/-- in the second pass a rule that is begun has no fault -/
theorem okr_step {kd : Int → Int} {ru : Int → Option Int} {c ft c' : Int} (h : OKR kd ru c) (hc : kd c ≠ 0) (hr : ru c = rsO ft c') : ft = 0 ∧ OKR kd ru c' := by
  obtain ⟨n, hn⟩ := h
  cases n with
  | zero => exact hn.elim
  | succ n =>
    rcases hn with q | ⟨d, q, qn⟩
    · exact absurd q hc
    · by_cases z : ft = 0
      · rw [hr, rsO_0 z] at q
        have : c' = d := Option.some.inj q
        rw [this]; exact ⟨z, n, qn⟩
      · rw [hr, rsO_1 z] at q; cases q
