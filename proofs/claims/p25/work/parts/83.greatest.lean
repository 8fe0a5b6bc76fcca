/-! greatest values -/
def gtN (tv : Nat → Int) (te : Nat) : Nat → Nat → Nat → Nat
  | 0, _, b => b
  | f + 1, t, b => if te < t then b else if tv b < tv t then gtN tv te f (t + 1) t else gtN tv te f (t + 1) b
