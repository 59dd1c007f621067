/-! the reference: a shout -/
def rPg (w : Nat → Int) (i m : Nat) (E : List Int) (time grade : Int) : Nat → Int := fun k => if 55 ≤ k then w k else if k < 10 then w k else if k = 10 then (if w 10 < 6 then w 10 + 1 else w 10) else if k = 11 then E.length else if k < 25 then E.getD (k - 12) 0 else if k = 25 then i else if k = 26 then m else if k = 27 then E.length else if k = 28 then time else if k = 29 then grade else w (k - 5)
/-- where the row's page stands: its older part moved -/
def rMv (w : Nat → Int) (k : Nat) : Nat → Int := fun z => if k < z ∧ z < 55 then w (z - 5) else w z
def rLt (w : Nat → Int) (E : List Int) (k : Nat) : Nat → Int := fun z => if 12 ≤ z ∧ z < 12 + k then E.getD (z - 12) 0 else w z
def rFl (w : Nat → Int) (i t : Nat) : Nat → Int := fun z => if 72 + 25 * i ≤ z ∧ z < 69 + 25 * i + 4 * t ∧ (z - (64 + 25 * i)) % 4 = 0 then 0 else w z
section
variable {X : eX} {e : Nat} {h : Nat → Nat → Int}
end
