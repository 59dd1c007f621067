/-! the reference: its cells (by program, wip/whole/gen9.py) -/
/-- the row of the i-th well -/
def wW (w : Nat → Int) (i k : Nat) : Int := w (64 + 25 * i + k)
def fFrg (f : Nat → Int) (a : Int) (n : Nat) : Int := sumF (sFrg (fun t => f (5 + 4 * t)) (fun t => f (8 + 4 * t)) a) 0 n
def fCnt (f : Nat → Int) (k : Int) (n : Nat) : Int := sumF (fun t => if f (5 + 4 * t) = k then 1 else 0) 0 n
def fPl (f : Nat → Int) (n t : Nat) : Int := sPl (fun t => f (6 + 4 * t)) n t
def fAt (f : Nat → Int) (n : Nat) (p : Int) : Int := sAt (fun t => f (6 + 4 * t)) n p
def fTime (f : Nat → Int) (n : Nat) : Int := sTime (fun t => f (5 + 4 * t)) (fun t => f (7 + 4 * t)) (fun t => f (8 + 4 * t)) (f 0) n
/-- what holds of a well's row -/
def wOk (f : Nat → Int) (n : Nat) : Prop := n ≤ 5 ∧ f 2 = (n : Int) ∧ (1 ≤ f 0 ∧ f 0 ≤ 30) ∧ (0 ≤ f 1 ∧ f 1 ≤ 2) ∧ ∀ t, t < n → (0 ≤ f (5 + 4 * t) ∧ f (5 + 4 * t) ≤ 2) ∧ (1 ≤ f (6 + 4 * t) ∧ f (6 + 4 * t) ≤ f 0) ∧ (f (5 + 4 * t) = 1 → 97 ≤ f (7 + 4 * t) ∧ f (7 + 4 * t) ≤ 122) ∧ (f (5 + 4 * t) ≠ 1 → 1 ≤ f (7 + 4 * t) ∧ f (7 + 4 * t) ≤ 9) ∧ (f (8 + 4 * t) = 0 ∨ f (8 + 4 * t) = 1) ∧ (f (5 + 4 * t) ≠ 1 → f (8 + 4 * t) = 0)
section
variable {X : eX} {e : Nat} {h : Nat → Nat → Int}
def mCt (f : Nat → Int) (k a : Int) (t : Nat) : Int := if f (5 + 4 * t) = k then (if a = 0 then 1 else if f (8 + 4 * t) = 1 then 1 else 0) else 0
theorem mCt_c {f : Nat → Int} {k : Int} {n : Nat} : sumF (mCt f k 0) 0 n = fCnt f k n := by
  unfold fCnt
  refine sumF_congr n 0 (fun t _ _ => ?_)
  unfold mCt
  simp
theorem mCt_a {f : Nat → Int} {n : Nat} (hf : wOk f n) : sumF (mCt f 1 1) 0 n = fFrg f 1 n := by
  unfold fFrg
  refine sumF_congr n 0 (fun t _ ht => ?_)
  obtain ⟨-, -, -, -, h5⟩ := hf
  obtain ⟨-, -, -, -, h6, -⟩ := h5 t (by omega)
  unfold mCt sFrg
  simp only [show ¬ (1 : Int) = 0 by decide, ite_false]
  rcases h6 with h6 | h6 <;> simp [h6]
theorem sumF_sub {f g k : Nat → Int} : ∀ n i, (∀ t, i ≤ t → t < i + n → f t - g t = k t) → sumF f i n - sumF g i n = sumF k i n := by
  intro n
  induction n with
  | zero => intro i _; simp [sumF]
  | succ n ih =>
    intro i q
    have h1 := q i (Nat.le_refl _) (by omega)
    have h2 := ih (i + 1) (fun t a b => q t (by omega) (by omega))
    simp only [sumF]
    omega
theorem sFrg01 {kf af : Nat → Int} {a : Int} (t : Nat) : 0 ≤ sFrg kf af a t ∧ sFrg kf af a t ≤ 1 := by
  unfold sFrg
  split
  · split <;> omega
  · omega
theorem mCt01 {f : Nat → Int} {k a : Int} (t : Nat) : 0 ≤ mCt f k a t ∧ mCt f k a t ≤ 1 := by
  unfold mCt
  split
  · split
    · omega
    · split <;> omega
  · omega
/-- the first coin in the order of places -/
def rchF (f : Nat → Int) (n : Nat) (len : Int) : Nat → Nat → Int
  | _, 0 => -1
  | p, k + 1 => if f (5 + 4 * (fAt f n p).toNat) = 0 then (if f (6 + 4 * (fAt f n p).toNat) ≤ len then fAt f n p else -1) else rchF f n len (p + 1) k
end
