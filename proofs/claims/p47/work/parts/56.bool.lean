/-! whole words, later echoes -/
def gIW (w : Nat → Int) (W : List Int) (x : Int) : Int × Int := if 0 ≤ x ∧ x < w 0 then (if W.length = 0 then (2, 0) else (0, if eE w x W = W then 1 else 0)) else (1, 0)
def tm (w : Nat → Int) (x : Int) : Int := fTime (wW w x.toNat) (wW w x.toNat 2).toNat
def gIL (w : Nat → Int) (x y : Int) : Int × Int := if 0 ≤ x ∧ x < w 0 then (if 0 ≤ y ∧ y < w 0 then (0, if tm w x ≤ tm w y then 0 else 1) else (1, 0)) else (1, 0)
theorem gIW_k {w : Nat → Int} {W : List Int} {x : Int} : (gIW w W x).1 = 0 ∨ (gIW w W x).1 = 1 ∨ (gIW w W x).1 = 2 := by
  unfold gIW
  split
  · split
    · exact Or.inr (Or.inr rfl)
    · exact Or.inl rfl
  · exact Or.inr (Or.inl rfl)
theorem gIL_k {w : Nat → Int} {x y : Int} : (gIL w x y).1 = 0 ∨ (gIL w x y).1 = 1 := by
  unfold gIL
  split
  · split
    · exact Or.inl rfl
    · exact Or.inr rfl
  · exact Or.inr rfl
theorem gIW_v {w : Nat → Int} {W : List Int} {x : Int} : (gIW w W x).2 = 0 ∨ (gIW w W x).2 = 1 := by
  unfold gIW
  split
  · split
    · exact Or.inl rfl
    · dsimp only
      split
      · exact Or.inr rfl
      · exact Or.inl rfl
  · exact Or.inl rfl
theorem gIL_v {w : Nat → Int} {x y : Int} : (gIL w x y).2 = 0 ∨ (gIL w x y).2 = 1 := by
  unfold gIL
  split
  · split
    · dsimp only
      split
      · exact Or.inl rfl
      · exact Or.inr rfl
    · exact Or.inl rfl
  · exact Or.inl rfl
section
variable {X : eX} {e : Nat} {h : Nat → Nat → Int} {w : Nat → Int} {c : Nat} {U : Nat → Nat → Int} {b : Bool} {r : Nat → Int} {k1 k2 : Int × Int} {W I L : List Int} {f : Int} {N R : Nat} {T : Nat → Nat}
theorem cg_isLater {x y : Int} (l : CI h w c U b r k1 k2 W I L f) {KI KX} (H : ∀ h', (∀ z, 577 ≤ z → h' z = h z) → CI h' w c U b r k1 k2 W I L f → gC (gIL w x y) 4 5 e h' KI KX) : eCi X m_X12_isLater [vR 1, vI x, vI y] eNT e ewP h KI KX := by
  refine bk_X12_isLater_0 X 1 x y eNT e ewP h _ ?_
  rw [if_pos ck1]
  refine c_asked l.1 ?_
  by_cases q : 0 ≤ x ∧ x < w 0
  · rw [if_pos q, if_pos ck1]
    refine c_asked l.1 ?_
    by_cases q2 : 0 ≤ y ∧ y < w 0
    · rw [if_pos q2, if_pos ck1]
      refine w_timeOn l q (fun h1 f1 l1 => ?_)
      rw [if_pos ck1]
      refine w_timeOn l1 q2 (fun h2 f2 l2 => ?_)
      have := H h2 (fun z hz => by rw [f2 z (by omega), f1 z (by omega)]) l2
      rw [show gIL w x y = (0, if tm w x ≤ tm w y then 0 else 1) by unfold gIL; rw [if_pos q, if_pos q2]] at this
      by_cases q3 : tm w x ≤ tm w y
      · rw [if_pos q3] at this
        have q3' : fTime (wW w x.toNat) (wW w x.toNat 2).toNat ≤ fTime (wW w y.toNat) (wW w y.toNat 2).toNat := q3
        rw [if_pos q3', if_pos (by decide)]
        exact this
      · rw [if_neg q3] at this
        have q3' : ¬ fTime (wW w x.toNat) (wW w x.toNat 2).toNat ≤ fTime (wW w y.toNat) (wW w y.toNat 2).toNat := q3
        rw [if_neg q3', if_pos (by decide)]
        exact this
    · rw [if_neg q2]
      have := H h (fun _ _ => rfl) l
      rw [show gIL w x y = (1, 0) by unfold gIL; rw [if_pos q, if_neg q2]] at this
      exact this
  · rw [if_neg q]
    have := H h (fun _ _ => rfl) l
    rw [show gIL w x y = (1, 0) by unfold gIL; rw [if_neg q]] at this
    exact this
end
