/-! the row behind a shout -/
theorem ds_w {w : Nat → Int} {i : Nat} {M : List Int} {j : Nat} : wW (dShout w i M) i j = (if j < 25 then fSh (wW w i) (wW w i 2).toNat (gSh w i M) j else wW w i j) := by
  show rEnt _ _ _ _ _ _ _ _ (64 + 25 * i + j) = _
  unfold rEnt
  rw [if_pos (by omega)]
  unfold rWell
  by_cases q : j < 25
  · rw [if_pos q, if_pos (by omega)]
    congr 1
    omega
  · rw [if_neg q, if_neg (by omega)]
    rfl
theorem ds_0 {w : Nat → Int} {i : Nat} {M : List Int} : dShout w i M 0 = w 0 := by
  show rEnt _ _ _ _ _ _ _ _ 0 = _
  unfold rEnt
  simp only [show ¬ (55 : Nat) ≤ 0 by decide, if_false, show ¬ (0 : Nat) = 2 by decide, show ¬ (0 : Nat) = 9 by decide, show ¬ (0 : Nat) = 3 by decide, show ¬ (0 : Nat) = 4 by decide, show ¬ (0 : Nat) = 5 by decide, show ¬ (0 : Nat) = 6 by decide, show ¬ (0 : Nat) = 10 by decide, show ¬ (0 : Nat) = 11 by decide, show (0 : Nat) < 12 by decide, if_true]
  unfold rWell
  rw [if_neg (by omega)]
theorem ds_10 {w : Nat → Int} {i : Nat} {M : List Int} (h : 0 ≤ w 10) : 0 < dShout w i M 10 := by
  show 0 < rEnt _ _ _ _ _ _ _ _ 10
  unfold rEnt
  simp only [show ¬ (55 : Nat) ≤ 10 by decide, if_false, show ¬ (10 : Nat) = 2 by decide, show ¬ (10 : Nat) = 9 by decide, show ¬ (10 : Nat) = 3 by decide, show ¬ (10 : Nat) = 4 by decide, show ¬ (10 : Nat) = 5 by decide, show ¬ (10 : Nat) = 6 by decide, if_true]
  have e : rWell w i (fSh (wW w i) (wW w i 2).toNat (gSh w i M)) 10 = w 10 := rWell_o (by omega)
  rw [e]
  split <;> omega
theorem ds_11 {w : Nat → Int} {i : Nat} {M : List Int} : dShout w i M 11 = ((eEc (wW w i) (wW w i 2).toNat M).length : Int) := rfl
theorem ds_27 {w : Nat → Int} {i : Nat} {M : List Int} : dShout w i M 27 = ((eEc (wW w i) (wW w i 2).toNat M).length : Int) := rfl
theorem ds_28 {w : Nat → Int} {i : Nat} {M : List Int} : dShout w i M 28 = fTime (wW w i) (wW w i 2).toNat := rfl
theorem ds_12 {w : Nat → Int} {i : Nat} {M : List Int} {k : Nat} (hk : k < 13) : dShout w i M (12 + k) = (eEc (wW w i) (wW w i 2).toNat M).getD k 0 := by
  have h : k = 0 ∨ k = 1 ∨ k = 2 ∨ k = 3 ∨ k = 4 ∨ k = 5 ∨ k = 6 ∨ k = 7 ∨ k = 8 ∨ k = 9 ∨ k = 10 ∨ k = 11 ∨ k = 12 := by omega
  rcases h with rfl | rfl | rfl | rfl | rfl | rfl | rfl | rfl | rfl | rfl | rfl | rfl | rfl <;> rfl
theorem ds_lat {w : Nat → Int} {i : Nat} {M : List Int} (h : (eEc (wW w i) (wW w i 2).toNat M).length ≤ 13) : lat (dShout w i M) = eEc (wW w i) (wW w i 2).toNat M := by
  unfold lat
  rw [ds_11, Int.toNat_natCast]
  apply List.ext_getElem?
  intro k
  by_cases hk : k < (eEc (wW w i) (wW w i 2).toNat M).length
  · rw [List.getElem?_map, List.getElem?_range hk]
    show some (dShout w i M (12 + k)) = _
    rw [ds_12 (by omega), List.getD_eq_getElem?_getD, List.getElem?_eq_getElem hk]
    rfl
  · rw [List.getElem?_eq_none (by simp; omega), List.getElem?_eq_none (by omega)]
theorem ds_2 {w : Nat → Int} {i : Nat} {M : List Int} : wW (dShout w i M) i 2 = wW w i 2 := by
  rw [ds_w, if_pos (by decide)]
  unfold fSh rFrg
  rw [if_neg (by decide), if_neg (by decide), if_neg (by omega)]
/-- frogs sleep -/
theorem ds_fr {w : Nat → Int} {i : Nat} {M : List Int} (hn : (wW w i 2).toNat ≤ 5) : fFrg (wW (dShout w i M) i) 1 (wW w i 2).toNat = 0 := by
  unfold fFrg
  have h : ∀ k p, p + k ≤ (wW w i 2).toNat → sumF (sFrg (fun t => wW (dShout w i M) i (5 + 4 * t)) (fun t => wW (dShout w i M) i (8 + 4 * t)) 1) p k = 0 := by
    intro k
    induction k with
    | zero => intro p _; rfl
    | succ k ih =>
      intro p hp
      have e : wW (dShout w i M) i (8 + 4 * p) = 0 := by
        rw [ds_w, if_pos (by omega)]
        unfold fSh rFrg
        rw [if_neg (by omega), if_neg (by omega), if_pos ⟨by omega, by omega, by omega⟩, if_pos rfl]
      have e2 : sFrg (fun t => wW (dShout w i M) i (5 + 4 * t)) (fun t => wW (dShout w i M) i (8 + 4 * t)) 1 p = 0 := by
        unfold sFrg
        show (if _ = 1 then (if (if wW (dShout w i M) i (8 + 4 * p) = 0 then (0 : Int) else 1) = 1 then (1 : Int) else 0) else 0) = 0
        rw [e, if_pos rfl, if_neg (show ¬ (0 : Int) = 1 by decide)]
        split <;> rfl
      unfold sumF
      rw [e2, ih (p + 1) (by omega)]
      rfl
  exact h _ 0 (by omega)
theorem ds_c {w : Nat → Int} {i : Nat} {M : List Int} {j : Nat} (hj : j % 4 ≠ 0) (h3 : j ≠ 3) : wW (dShout w i M) i j = wW w i j := by
  rw [ds_w]
  split
  · unfold fSh rFrg
    rw [if_neg h3, if_neg (by omega), if_neg (by omega)]
  · rfl
/-- the time falls by three for each frog that was awake -/
theorem ds_tm {w : Nat → Int} {i : Nat} {M : List Int} (hn : (wW w i 2).toNat ≤ 5) : fTime (wW (dShout w i M) i) (wW w i 2).toNat = fTime (wW w i) (wW w i 2).toNat - 3 * fFrg (wW w i) 1 (wW w i 2).toNat := by
  have e5 : (fun t => wW (dShout w i M) i (5 + 4 * t)) = (fun t => wW w i (5 + 4 * t)) := funext fun t => ds_c (by omega) (by omega)
  have e6 : (fun t => wW (dShout w i M) i (6 + 4 * t)) = (fun t => wW w i (6 + 4 * t)) := funext fun t => ds_c (by omega) (by omega)
  have e7 : (fun t => wW (dShout w i M) i (7 + 4 * t)) = (fun t => wW w i (7 + 4 * t)) := funext fun t => ds_c (by omega) (by omega)
  have e0 : wW (dShout w i M) i 0 = wW w i 0 := by
    rw [ds_w, if_pos (by decide)]
    unfold fSh rFrg
    rw [if_neg (by decide), if_neg (by decide), if_neg (by omega)]
  have em : ∀ n p, msP (wW (dShout w i M) i) n p = msP (wW w i) n p := by
    intro n p
    unfold msP fAt
    rw [e5, e6, e7]
  rw [fTime_at, fTime_at, frP_all, frP_all, ds_fr hn, em, e0]
  omega
