/-! the state of both sides; the reference's rows copied -/
theorem wR_cg {h : Nat → Nat → Int} {b : Nat} {w w' : Nat → Int} (q : ∀ k, k < 264 → w k = w' k) (l : wR h b w) : wR h b w' := by
  obtain ⟨N, R, T, ⟨a1, a2, a3, a4, a5, a6, a7, a8⟩, b1, b2, b3, b4, b5, b6⟩ := l
  refine ⟨N, R, T, ⟨by rw [← q _ (by omega)]; exact a1, a2, by rw [← q _ (by omega)]; exact a3, a4, fun s hs => wOk_congr (fun j hj => q _ (by omega)) (a5 s hs), fun r hr => by rw [← q _ (by omega), ← q _ (by omega)]; exact a6 r hr, by rw [← q _ (by omega)]; exact a7, by rw [← q _ (by omega)]; exact a8⟩, b1, b2, fun s hs => wlR_congr (fun j hj => q _ (by omega)) (b3 s hs), fun r hr => rpR_congr (fun k h1 h2 => (q k (by omega)).symm) (by omega) (b4 r hr), bkR_congr (fun k h1 h2 => (q k (by omega)).symm) b5, scR_congr (fun k h1 h2 => (q k (by omega)).symm) b6⟩
section
variable {X : eX} {e : Nat} {h : Nat → Nat → Int}
/-- the history's rows -/
def mH (h : Nat → Nat → Int) (c : Nat) (U : Nat → Nat → Int) : Prop := h 577 11 = (c : Int) ∧ c ≤ 8 ∧ ∃ q : Nat, q < 8 ∧ h 577 12 = (q : Int) ∧ ∀ j, j < c → ∀ k, k < 264 → h 579 (264 * ((q + j) % 8) + k) = U j k
def pC (c : Nat) : Nat := if c < 8 then c + 1 else 8
def pU2 (c : Nat) (U : Nat → Nat → Int) (w : Nat → Int) : Nat → Nat → Int := fun j => if c < 8 then (if j = c then w else U j) else (if j = 7 then w else U (j + 1))
end
