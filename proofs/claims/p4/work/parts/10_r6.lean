/-! bends of edges, dropped and added in order; the bars -/
def BN0 (b : Int → Int) : Prop := ∀ j, 0 ≤ j → j < 48 → b j = 0
def BNY (b : Int → Int) (e : Int) : Prop := ∀ j, e ≤ j → 0 ≤ j → j < 48 → b j = 0
def BNZ (b : Int → Int) (e : Int) : Prop := ∀ j, e < j → 0 ≤ j → j < 48 → b j = 0
def PLB (pl en bl : Int) (fo : Int → Int) : Prop := pl ≠ 0 → bl = 1 → FGE en fo
theorem bny_0 {b : Int → Int} {e : Int} (h : BN0 b) : BNY b e := fun j _ a c => h j a c
theorem bny_z {b : Int → Int} {e : Int} (h : BNY b e) : BNZ b e := fun j q a c => h j (by omega) a c
theorem bnz_y {b : Int → Int} {e e' : Int} (h : BNZ b e) (he : e' = e + 1) : BNY b e' := fun j q a c => h j (by omega) a c
theorem bny_at {b : Int → Int} {e : Int} (h : BNY b e) (e0 : 0 ≤ e) (e1 : e < 48) : b e = 0 := h e (by omega) e0 e1
theorem bnz_set {b b' : Int → Int} {e p x : Int} (h : BNZ b e) (hs : st1 b b' p x) (hp : p = e) : BNZ b' e := fun j q a c => by rw [(hs j a).2 (by omega)]; exact h j q a c
