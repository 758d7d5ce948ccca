def ta_le (ta tb : Nat → Option Nat) : Prop := ∀ a r, ta a = some r → tb a = some r
/-- what the tokens of facts say -/
def tk_ok (t : Nat) (xs : List Value) (ws : va_W) : Prop := True
