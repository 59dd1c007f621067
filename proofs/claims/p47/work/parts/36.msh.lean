/-! the reference: a shout, its whole -/
section
variable {X : eX} {e : Nat} {h : Nat → Nat → Int} {N R : Nat} {T : Nat → Nat}
theorem rPg_w {w : Nat → Int} {i m s : Nat} {E : List Int} {time g : Int} : wW (rPg w i m E time g) s = wW w s := by
  funext z
  unfold wW rPg
  rw [if_pos (by omega)]
theorem rPg_l {w : Nat → Int} {i m z : Nat} {E : List Int} {time g : Int} (hz : z < 10) : rPg w i m E time g z = w z := by
  unfold rPg
  rw [if_neg (by omega), if_pos (by omega)]
def W6 (P : Nat → Int) (a2 a3 a4 a5 a6 a9 : Int) : Nat → Int := rSet (rSet (rSet (rSet (rSet (rSet P 2 a2) 3 a3) 4 a4) 5 a5) 6 a6) 9 a9
theorem W6_o {P : Nat → Int} {a2 a3 a4 a5 a6 a9 : Int} {z : Nat} (hz : 10 ≤ z) : W6 P a2 a3 a4 a5 a6 a9 z = P z := by
  unfold W6
  rw [rSet_ne (by omega), rSet_ne (by omega), rSet_ne (by omega), rSet_ne (by omega), rSet_ne (by omega), rSet_ne (by omega)]
end
