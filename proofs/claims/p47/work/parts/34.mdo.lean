/-! the reference: orders done, on -/
section
variable {X : eX} {e : Nat} {h : Nat → Nat → Int} {N R : Nat} {T : Nat → Nat}
def fS (w : Nat → Int) (N x : Nat) : Nat → Int := fun z => if 64 + 25 * x ≤ z ∧ z < 39 + 25 * N then w (z + 25) else if 39 + 25 * N ≤ z ∧ z < 64 + 25 * N then 0 else if z = 0 then (N : Int) - 1 else w z
/-- the ropes after a well is filled -/
def rpF (w : Nat → Int) (R x r : Nat) : Nat → Int := fun k => if 56 + 3 * r ≤ k ∧ k < 55 + 3 * R ∧ (k - 56) % 3 = 0 then (if w k - 1 = x then 0 else if (x : Int) < w k - 1 then w k - 1 else w k) else w k
theorem rpF_s {w : Nat → Int} {R x r : Nat} {v : Int} (hr : r < R) (hv : v = (if w (56 + 3 * r) - 1 = x then 0 else if (x : Int) < w (56 + 3 * r) - 1 then w (56 + 3 * r) - 1 else w (56 + 3 * r))) : rpF (rSet w (56 + 3 * r) v) R x (r + 1) = rpF w R x r := by
  funext z
  unfold rpF
  by_cases a : z = 56 + 3 * r
  · rw [if_neg (by omega), if_pos (by omega), a, rSet_eq, hv]
  · rw [rSet_ne a]
    by_cases b : 56 + 3 * r ≤ z ∧ z < 55 + 3 * R ∧ (z - 56) % 3 = 0
    · rw [if_pos (by omega), if_pos b]
    · rw [if_neg (by omega), if_neg b]
def rWk (w : Nat → Int) (T : Nat → Nat) (i t : Nat) : Nat → Int := fun z => if 64 ≤ z ∧ z < 69 + 25 * i + 4 * t then rFrg (wW w ((z - 64) / 25)) (T ((z - 64) / 25)) 1 ((z - 64) % 25) else w z
theorem rWk_o {w : Nat → Int} {T : Nat → Nat} {i t z : Nat} (q : z < 64 ∨ 69 + 25 * i + 4 * t ≤ z) : rWk w T i t z = w z := by
  unfold rWk
  rw [if_neg (by omega)]
theorem wk_id {w : Nat → Int} {n z : Nat} (hz : 64 ≤ z) (q : (z - 64) % 25 < 8 ∨ (z - 64) % 25 % 4 ≠ 0 ∨ 5 + 4 * n ≤ (z - 64) % 25) : rFrg (wW w ((z - 64) / 25)) n 1 ((z - 64) % 25) = w z := by
  unfold rFrg
  rw [if_neg (by omega)]
  unfold wW
  exact congrArg w (by omega)
theorem rWk_n {w : Nat → Int} {T : Nat → Nat} {i t : Nat} {v : Int} (q : t < T i) (h5 : T i ≤ 5) (hv : v = (if wW w i (5 + 4 * t) = 1 then 1 else 0)) : rSet (rWk w T i t) (72 + 25 * i + 4 * t) v = rWk w T i (t + 1) := by
  funext z
  by_cases a : z = 72 + 25 * i + 4 * t
  · rw [a, rSet_eq]
    unfold rWk
    rw [if_pos (by omega), show (72 + 25 * i + 4 * t - 64) / 25 = i by omega, show (72 + 25 * i + 4 * t - 64) % 25 = 8 + 4 * t by omega, rFrg_s q, if_neg (by decide)]
    exact hv
  · rw [rSet_ne a]
    unfold rWk
    by_cases b : 64 ≤ z ∧ z < 69 + 25 * i + 4 * t
    · rw [if_pos b, if_pos (by omega)]
    · rw [if_neg b]
      by_cases c : 64 ≤ z ∧ z < 69 + 25 * i + 4 * (t + 1)
      · have d1 : (z - 64) / 25 = i := by omega
        have d2 : (z - 64) % 25 = z - 64 - 25 * i := by omega
        rw [if_pos c, wk_id (by omega) (by rw [d2]; omega)]
      · rw [if_neg c]
theorem rWk_e {w : Nat → Int} {T : Nat → Nat} {i : Nat} (h5 : T i ≤ 5) : rWk w T i (T i) = rWk w T (i + 1) 0 := by
  funext z
  unfold rWk
  by_cases b : 64 ≤ z ∧ z < 69 + 25 * i + 4 * T i
  · rw [if_pos b, if_pos (by omega)]
  · rw [if_neg b]
    by_cases c : 64 ≤ z ∧ z < 69 + 25 * (i + 1) + 4 * 0
    · rw [if_pos c]
      by_cases d : (z - 64) / 25 = i
      · rw [wk_id (by omega) (Or.inr (Or.inr (by rw [d]; omega)))]
      · rw [wk_id (by omega) (Or.inl (by omega))]
    · rw [if_neg c]
theorem rWk_f {w : Nat → Int} {T : Nat → Nat} {N : Nat} {s : Int} : rSet (rWk w T N 0) 8 (wr (w 8 + s)) = rWake w N T s := by
  funext z
  unfold rWake
  by_cases a : z = 8
  · rw [a, rSet_eq, if_neg (by omega), if_pos rfl]
  · rw [rSet_ne a]
    unfold rWk
    by_cases b : 64 ≤ z ∧ z < 64 + 25 * N
    · rw [if_pos b, if_pos (by omega)]
    · rw [if_neg b, if_neg a]
      by_cases c : 64 ≤ z ∧ z < 69 + 25 * N + 4 * 0
      · rw [if_pos c, wk_id (by omega) (Or.inl (by omega))]
      · rw [if_neg c]
theorem rWk_2 {w : Nat → Int} {T : Nat → Nat} {i t : Nat} : wW (rWk w T i t) i 2 = wW w i 2 := by
  unfold wW rWk
  rw [if_pos (by omega), wk_id (by omega) (by omega)]
theorem rWk_k {w : Nat → Int} {T : Nat → Nat} {i t : Nat} : wW (rWk w T i t) i (5 + 4 * t) = wW w i (5 + 4 * t) := by
  unfold wW
  rw [rWk_o (by omega)]
end
