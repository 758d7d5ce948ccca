def ta_le (ta tb : Nat → Option Nat) : Prop := ∀ a r, ta a = some r → tb a = some r
/-! reading the world -/
def w_at (ws : va_W) (a : Nat) : Option va_E := (ws.find? (fun q => q.1 == a)).map (fun q => q.2)
def w_fd (ws : va_W) (a k : Nat) : Value := match w_at ws a with
  | some (.inr (_, fs)) => fs.getD k .null
  | _ => .null
def w_el (ws : va_W) (a j : Nat) : Int := match w_at ws a with
  | some (.inl (_, _, .inl f)) => (f j).toInt
  | some (.inl (_, _, .inr (.inl f))) => (f j).toInt
  | some (.inl (_, _, .inr (.inr (.inr (.inr f))))) => (match f j with | some b => ((b : Nat) : Int) | none => 0)
  | _ => 0
def v_iv (v : Value) : Int := match v with
  | .int x => x.toInt
  | .long x => x.toInt
  | _ => 0
def v_ad (v : Value) : Nat := match v with
  | .ref a => a
  | _ => 0
/-- the array in a field, the int in a field -/
def w_ar (ws : va_W) (o : Value) (k : Nat) : Nat := v_ad (w_fd ws (v_ad o) k)
def w_fi (ws : va_W) (o : Value) (k : Nat) : Int := v_iv (w_fd ws (v_ad o) k)
/-- the sum of the first elements -/
def w_sum (ws : va_W) (a : Nat) : Nat → Int
  | 0 => 0
  | n + 1 => w_sum ws a n + w_el ws a n
/-- an int as bits; how many are set -/
def bv (x : Int) : BitVec 32 := BitVec.ofInt 32 x
def pcB (b : BitVec 32) : Nat := ((List.range 32).filter (fun i => b.getLsbD i)).length
def pcn (x : Int) : Int := ((pcB (bv x) : Nat) : Int)
/-- a bit of an int -/
def bitn (x i : Int) : Int := if (bv x).getLsbD i.toNat then 1 else 0
/-- a sum of terms: (factor, 0, _) a name; (factor, 1, k) the int in field k of a name; (factor, 2, k) the element, at a name, of the array in field k of a name; (factor, 3, 1000000 * k + 1000 * j + c) the element of that array at the int in field j and c -/
def lt_v : List Int → List Value → va_W → Int
  | q :: t :: k :: r, x :: xs, ws => if t = 0 then q * v_iv x + lt_v r xs ws else if t = 1 then q * w_fi ws x k.toNat + lt_v r xs ws else if t = 3 then q * w_el ws (w_ar ws x (k.toNat / 1000000)) (w_fi ws x (k.toNat / 1000 % 1000) + ((k.toNat % 1000 : Nat) : Int)).toNat + lt_v r xs ws else if t = 5 then q * pcn (v_iv x) + lt_v r xs ws else if t = 6 then q * pcn (w_fi ws x k.toNat) + lt_v r xs ws else (match xs with
    | i :: xs => if t = 4 then q * w_el ws (w_ar ws x (k.toNat / 1000000000)) (((k.toNat / 1000 % 1000 : Nat) : Int) * w_fi ws x (k.toNat / 1000000 % 1000) + v_iv i + ((k.toNat % 1000 : Nat) : Int)).toNat + lt_v r xs ws else q * w_el ws (w_ar ws x k.toNat) (v_iv i).toNat + lt_v r xs ws
    | [] => 0)
  | _, _, _ => 0
/-- four bytes of an int, each with its most -/
def pk4 (ms : List Nat) (x : Int) : Prop := match ms with
  | [a, b, c, d] => 0 ≤ x ∧ x % 256 ≤ a ∧ x / 256 % 256 ≤ b ∧ x / 65536 % 256 ≤ c ∧ x / 16777216 ≤ d
  | _ => False
/-- what an element is by its place -/
abbrev pl_T : Type := Nat × Int × Int × List Nat
def pl_L (c : Nat) : List pl_T := match c with
  | 1 => [(0, 0, 24, []), (0, 0, 48, []), (0, 0, 8, [])] ++ List.replicate 192 (0, -1, 255, []) ++ List.replicate 24 (0, 0, 8, []) ++ List.replicate 24 (0, 0, 99, []) ++ List.replicate 24 (0, 0, 7, []) ++ List.replicate 96 (0, 0, 23, []) ++ List.replicate 48 (0, 0, 9, []) ++ List.replicate 48 (0, 0, 1, []) ++ List.replicate 64 (0, -1, 255, []) ++ List.replicate 8 (0, 0, 8, []) ++ [(0, -1, 0, []), (0, -1, 0, []), (0, -1, 1, []), (0, -1, 2, []), (0, -1, 3, []), (0, -1, 4, []), (0, -1, 5, []), (0, -1, 6, [])]
  | 2 => [(0, 0, 24, []), (0, 0, 48, [])] ++ (List.replicate 24 [(0, -2147483648, 2147483647, []), (0, -2147483648, 2147483647, []), (8, 0, 0, [8, 99, 7, 0])]).flatten ++ List.replicate 48 (8, 0, 0, [23, 23, 9, 1])
  | _ => []
def pl_k (t : pl_T) (x : Int) : Prop := if t.1 = 0 then t.2.1 ≤ x ∧ x ≤ t.2.2.1 else if t.1 = 8 then pk4 t.2.2.2 x else False
def pl_ok (c j : Nat) (x : Int) : Prop := ∀ t, (pl_L c)[j % (pl_L c).length]? = some t → pl_k t x
/-- how many names a sum takes -/
def lt_n : List Int → Nat
  | _ :: t :: _ :: r => (if t = 0 then 1 else if t = 1 then 1 else if t = 3 then 1 else if t = 5 then 1 else if t = 6 then 1 else 2) + lt_n r
  | _ => 0
def lt_h (is : List Int) (xs : List Value) (ws : va_W) : Prop := match is with
  | c :: r => lt_v r xs ws ≤ c
  | [] => False
/-- how many of the first elements are at most t; their sum -/
def cntE (f : Int → Int) (t : Int) (n : Nat) : Int := if h : n = 0 then 0 else cntE f t (n - 1) + (if f ((n - 1 : Nat) : Int) ≤ t then 1 else 0)
termination_by n
def sumE (f : Int → Int) (n : Nat) : Int := if h : n = 0 then 0 else sumE f (n - 1) + f ((n - 1 : Nat) : Int)
termination_by n
/-- the first elements as the digits of a number -/
def numE (f : Int → Int) (n : Nat) : Int := if h : n = 0 then 0 else 32 * numE f (n - 1) + f ((n - 1 : Nat) : Int)
termination_by n
/-- terms and formulas as rows of numbers (each first part has its length ahead): over names, fields and elements of arrays in fields -/
def tm_v (F : Nat → Nat → Int) (E : Nat → Nat → Int → Int) (xs bs : List Int) : Nat → List Int → Int
  | n + 1, t :: r => match t.toNat, r with
    | 0, [c] => c
    | 1, [i] => xs.getD i.toNat 0
    | 2, [i, k] => F i.toNat k.toNat
    | 3, i :: k :: r => E i.toNat k.toNat (tm_v F E xs bs n r)
    | 4, l :: r => tm_v F E xs bs n (r.take l.toNat) + tm_v F E xs bs n (r.drop l.toNat)
    | 5, l :: r => tm_v F E xs bs n (r.take l.toNat) - tm_v F E xs bs n (r.drop l.toNat)
    | 6, l :: r => tm_v F E xs bs n (r.take l.toNat) * tm_v F E xs bs n (r.drop l.toNat)
    | 7, [i] => bs.getD i.toNat 0
    | 8, l :: r => tm_v F E xs bs n (r.take l.toNat) / tm_v F E xs bs n (r.drop l.toNat)
    | 9, l :: r => tm_v F E xs bs n (r.take l.toNat) % tm_v F E xs bs n (r.drop l.toNat)
    | 10, l :: r => bitn (tm_v F E xs bs n (r.take l.toNat)) (tm_v F E xs bs n (r.drop l.toNat))
    | 11, r => pcn (tm_v F E xs bs n r)
    | 12, l :: r => (bv (tm_v F E xs bs n (r.take l.toNat)) &&& bv (tm_v F E xs bs n (r.drop l.toNat))).toInt
    | 15, i :: k :: l :: r => cntE (E i.toNat k.toNat) (tm_v F E xs bs n (r.drop l.toNat)) (tm_v F E xs bs n (r.take l.toNat)).toNat
    | 16, i :: k :: r => sumE (E i.toNat k.toNat) (tm_v F E xs bs n r).toNat
    | 17, i :: k :: r => numE (E i.toNat k.toNat) (tm_v F E xs bs n r).toNat
    | 14, i :: k :: M :: r => E i.toNat (1000 * M.toNat + k.toNat) (tm_v F E xs bs n r)
    | 13, l :: r => (bv (tm_v F E xs bs n (r.take l.toNat)) ||| bv (tm_v F E xs bs n (r.drop l.toNat))).toInt
    | _, _ => 0
  | _, _ => 0
def fm_v (F : Nat → Nat → Int) (E : Nat → Nat → Int → Int) (xs : List Int) : Nat → List Int → List Int → Prop
  | n + 1, t :: l :: r, bs => match t.toNat with
    | 0 => tm_v F E xs bs 20 (r.take l.toNat) ≤ tm_v F E xs bs 20 (r.drop l.toNat)
    | 1 => tm_v F E xs bs 20 (r.take l.toNat) = tm_v F E xs bs 20 (r.drop l.toNat)
    | 2 => fm_v F E xs n (r.take l.toNat) bs ∧ fm_v F E xs n (r.drop l.toNat) bs
    | 3 => fm_v F E xs n (r.take l.toNat) bs ∨ fm_v F E xs n (r.drop l.toNat) bs
    | 4 => fm_v F E xs n (r.take l.toNat) bs → fm_v F E xs n (r.drop l.toNat) bs
    | 5 => ∀ j : Int, 0 ≤ j → j < tm_v F E xs bs 20 (r.take l.toNat) → fm_v F E xs n (r.drop l.toNat) (bs ++ [j])
    | 6 => ∃ j : Int, 0 ≤ j ∧ j < tm_v F E xs bs 20 (r.take l.toNat) ∧ fm_v F E xs n (r.drop l.toNat) (bs ++ [j])
    | 7 => tm_v F E xs bs 20 (r.take l.toNat) ≠ tm_v F E xs bs 20 (r.drop l.toNat)
    | _ => True
  | _, _, _ => True
/-- the element at an int -/
def w_ei (ws : va_W) (a : Nat) (z : Int) : Int := w_el ws a z.toNat
/-- what such a formula sees of the world: the fields and arrays that it names, 1000 * name + field -/
def vw_F (fs : List Int) (xs : List Value) (ws : va_W) (i k : Nat) : Int := match xs[i]? with
  | some x => bif fs.contains ((1000 * i + k : Nat) : Int) && decide (k < 1000) then w_fi ws x k else 0
  | none => 0
def vw_E (fs : List Int) (xs : List Value) (ws : va_W) (i k : Nat) (z : Int) : Int := match xs[i]? with
  | some x => bif fs.contains ((1000 * i + k : Nat) : Int) && decide (k < 1000) then w_ei ws (w_ar ws x k) z else 0
  | none => 0
/-- a field of the object at a place of an array of references -/
def w_rfi (ws : va_W) (a : Nat) (z : Int) (len kf : Nat) : Int := bif decide (0 ≤ z) && decide (z < ((len : Nat) : Int)) then w_fi ws (.ref (w_ei ws a z).toNat) kf else 0
/-- the same, as formulas see it: M = 1000 * how many places count + the field -/
def vw_R (rs : List Int) (xs : List Value) (ws : va_W) (i k M : Nat) (z : Int) : Int := match xs[i]? with
  | some x => bif rs.contains ((1000000 * M + 1000 * i + k : Nat) : Int) && (decide (i < 1000) && decide (k < 1000)) then w_rfi ws (w_ar ws x k) z (M / 1000) (M % 1000) else 0
  | none => 0
def vw_E2 (as rs : List Int) (xs : List Value) (ws : va_W) (i k : Nat) (z : Int) : Int := if k < 1000 then vw_E as xs ws i k z else vw_R rs xs ws i (k % 1000) (k / 1000) z
/-- what the tokens of facts say -/
def tk_ok (t : Nat) (is : List Int) (xs : List Value) (ws : va_W) : Prop := match t, is, xs with
  | 1, [k, n, c, d], [h, o, b] => v_iv h = c + d * w_sum ws (w_ar ws o k.toNat) n.toNat + v_iv b
  | 2, [k, n, c, d], [h, o, b] => c + d * w_sum ws (w_ar ws o k.toNat) n.toNat + v_iv b + 1 ≤ v_iv h
  | 5, [k, c], [o, j] => w_el ws (w_ar ws o k.toNat) (v_iv j).toNat = c
  | 6, [k, lo, hi], [o, n] => ∀ j : Nat, (j : Int) < v_iv n → lo ≤ w_el ws (w_ar ws o k.toNat) j ∧ w_el ws (w_ar ws o k.toNat) j ≤ hi
  | 7, [k, k2, lo, hi], [o] => ∀ j : Nat, (j : Int) < w_fi ws o k2.toNat → lo ≤ w_el ws (w_ar ws o k.toNat) j ∧ w_el ws (w_ar ws o k.toNat) j ≤ hi
  | 8, [lo, hi, d], [a, n] => ∀ j : Nat, (j : Int) < v_iv n + d → lo ≤ w_el ws (v_ad a) j ∧ w_el ws (v_ad a) j ≤ hi
  | 30, c :: is, xs => lt_v is xs ws ≤ c
  | 31, n :: c :: is, xs => lt_v (is.take (3 * n.toNat)) (xs.take (lt_n (is.take (3 * n.toNat)))) ws ≤ c ∨ lt_h (is.drop (3 * n.toNat)) (xs.drop (lt_n (is.take (3 * n.toNat)))) ws
  | 51, nf :: na :: nr :: is, xs => fm_v (vw_F (is.take nf.toNat) xs ws) (vw_E2 ((is.drop nf.toNat).take na.toNat) (((is.drop nf.toNat).drop na.toNat).take nr.toNat) xs ws) (xs.map v_iv) 20 (((is.drop nf.toNat).drop na.toNat).drop nr.toNat) []
  | 50, nf :: na :: is, xs => fm_v (vw_F (is.take nf.toNat) xs ws) (vw_E ((is.drop nf.toNat).take na.toNat) xs ws) (xs.map v_iv) 20 ((is.drop nf.toNat).drop na.toNat) []
  | _, _, _ => True
