/-- what is known of a graph and its net -/
def HFN (n m kn ps bk pl be nn ne : Int) (nr tl hd pt tu nnr fi fo : Int → Int) : Prop := (kn = 0 ∨ (PNC n nr pt ∧ FPA n ps pt ∧ TPO m tl hd tu ∧ BKS n m bk nr tl hd)) ∧ (pl = -1 → be = 0) ∧ (pl = 1 → nn = n ∧ ne = m ∧ FIN nn nnr fi ∧ FAD ne fo)
def HFA (n m kn ps bk pl be nn ne : Int) (nr tl hd pt tu nnr fi fo : Int → Int) (a : Int) : Prop := a = 0 → HFN n m kn ps bk pl be nn ne nr tl hd pt tu nnr fi fo
