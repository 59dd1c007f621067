/-! what is counted in a row, and that every order keeps it -/
/-- what is counted, and how far -/
def ctB (N : Nat) (w : Nat → Int) : Prop := 0 ≤ w 2 ∧ w 2 ≤ w 3 ∧ w 3 ≤ 8 * (N : Int) ∧ 0 ≤ w 5 ∧ w 5 ≤ 5 * (N : Int) ∧ -(13 * (N : Int)) ≤ w 4 ∧ w 4 ≤ 13 * (N : Int) ∧ w 6 = w 3 + w 5 - w 4
theorem ctB_le {N M : Nat} {w : Nat → Int} (q : N ≤ M) (l : ctB N w) : ctB M w := by
  unfold ctB at *
  omega
theorem ctB_cg {N : Nat} {w w' : Nat → Int} (q : ∀ k, k < 10 → w' k = w k) (l : ctB N w) : ctB N w' := by
  unfold ctB at *
  rw [q 2 (by omega), q 3 (by omega), q 5 (by omega), q 4 (by omega), q 6 (by omega)]
  exact l
theorem ct_ord {o N a R : Nat} {T : Nat → Nat} (ho : o < 12) {w : Nat → Int} {a1 a2 a3 : Int} {M : List Int} (ok : rOk w a R T) (hM : M.length ≤ 8) (hn : nOrd o w a1 a2 a3 M.length = (0, 0)) (hN : N < 100000) (l : ctB N w) : ctB (N + 1) (dOrd o w a1 a2 a3 M) := by
  have up : ctB (N + 1) w := ctB_le (by omega) l
  have a8 := ok.2.1
  have a0 := ok.1
  have ho2 : o = 0 ∨ o = 1 ∨ o = 2 ∨ o = 3 ∨ o = 4 ∨ o = 5 ∨ o = 6 ∨ o = 7 ∨ o = 8 ∨ o = 9 ∨ o = 10 ∨ o = 11 := by omega
  have well : ∀ i g, ctB (N + 1) (rWell w i g) := fun i g => by
    unfold ctB
    rw [rWell_o (by omega), rWell_o (by omega), rWell_o (by omega), rWell_o (by omega), rWell_o (by omega)]
    exact up
  rcases ho2 with ho2 | ho2 | ho2 | ho2 | ho2 | ho2 | ho2 | ho2 | ho2 | ho2 | ho2 | ho2 <;> subst ho2
  · unfold ctB
    have lo : ∀ k, k ≠ 0 → k < 10 → dOrd 0 w a1 a2 a3 M k = w k := by
      intro k h1 h2
      show rDig w (w 0).toNat a1 a2 k = w k
      unfold rDig
      rw [if_neg (by omega), if_neg h1]
    rw [lo 2 (by omega) (by omega), lo 3 (by omega) (by omega), lo 5 (by omega) (by omega), lo 4 (by omega) (by omega), lo 6 (by omega) (by omega)]
    exact up
  · exact well _ _
  · unfold ctB
    have q := nFill_w hn
    have lo : ∀ k, k ≠ 0 → k < 10 → dOrd 2 w a1 a2 a3 M k = w k := by
      intro k h1 h2
      show rFill w (w 0).toNat (w 1).toNat a1.toNat k = w k
      unfold rFill
      rw [if_neg (by omega), if_neg (by omega), if_neg h1, if_neg (by omega)]
    rw [lo 2 (by omega) (by omega), lo 3 (by omega) (by omega), lo 5 (by omega) (by omega), lo 4 (by omega) (by omega), lo 6 (by omega) (by omega)]
    exact up
  · exact well _ _
  · exact well _ _
  · exact well _ _
  · exact well _ _
  · unfold ctB
    have lo : ∀ k, k ≠ 8 → k < 10 → dOrd 7 w a1 a2 a3 M k = w k := by
      intro k h1 h2
      show rWake w (w 0).toNat (fun i => (wW w i 2).toNat) (slp w) k = w k
      unfold rWake
      rw [if_neg (by omega), if_neg h1]
    rw [lo 2 (by omega) (by omega), lo 3 (by omega) (by omega), lo 5 (by omega) (by omega), lo 4 (by omega) (by omega), lo 6 (by omega) (by omega)]
    exact up
  · unfold ctB
    have lo : ∀ k, k ≠ 1 → k < 10 → dOrd 8 w a1 a2 a3 M k = w k := by
      intro k h1 h2
      show rRope w (w 1).toNat a1 k = w k
      unfold rRope
      rw [if_neg (by omega), if_neg (by omega), if_neg (by omega), if_neg h1]
    rw [lo 2 (by omega) (by omega), lo 3 (by omega) (by omega), lo 5 (by omega) (by omega), lo 4 (by omega) (by omega), lo 6 (by omega) (by omega)]
    exact up
  · refine ctB_cg (fun k hk => ?_) up
    show rSet w (56 + 3 * a1.toNat) (a2 + 1) k = w k
    rw [rSet_ne (by omega)]
  · have g := well (w (56 + 3 * a1.toNat) - 1).toNat (rTake (wW w (w (56 + 3 * a1.toNat) - 1).toNat) (wW w (w (56 + 3 * a1.toNat) - 1).toNat 2).toNat (wRch w a1.toNat).toNat)
    unfold ctB at g ⊢
    have lo : ∀ k, k ≠ 7 → k < 10 → dOrd 10 w a1 a2 a3 M k = dTake w (w (56 + 3 * a1.toNat) - 1).toNat (wRch w a1.toNat).toNat k := by
      intro k h1 h2
      show rSet (rSet _ _ _) _ _ k = _
      rw [rSet_ne h1, rSet_ne (by omega)]
    rw [lo 2 (by omega) (by omega), lo 3 (by omega) (by omega), lo 5 (by omega) (by omega), lo 4 (by omega) (by omega), lo 6 (by omega) (by omega)]
    exact g
  · have hn' : nShout w a1 M.length = (0, 0) := hn
    have q := nShout_ok hn'
    have m0 : M.length ≠ 0 := by
      intro z
      unfold nShout at hn'
      rw [if_pos q, if_pos z] at hn'
      exact absurd (congrArg Prod.fst hn') (by intro z; simp at z)
    obtain ⟨v1, v2, v3, v4, v5, v6⟩ := wl_i ok q
    have fb : 0 ≤ fFrg (wW w a1.toNat) 1 (wW w a1.toNat 2).toNat ∧ fFrg (wW w a1.toNat) 1 (wW w a1.toNat 2).toNat ≤ (wW w a1.toNat 2).toNat * 1 := sumF_le (fun t => (sFrg01 t).1) (fun t => (sFrg01 t).2) _ 0
    have d2 : dOrd 11 w a1 a2 a3 M 2 = wr (w 2 + 1) := by
      show wr (rWell w _ _ 2 + 1) = _
      rw [rWell_o (by omega)]
    have d3 : dOrd 11 w a1 a2 a3 M 3 = wr (w 3 + M.length) := by
      show wr (rWell w _ _ 3 + _) = _
      rw [rWell_o (by omega)]
    have d5 : dOrd 11 w a1 a2 a3 M 5 = wr (w 5 + fFrg (wW w a1.toNat) 1 (wW w a1.toNat 2).toNat) := by
      show wr (rWell w _ _ 5 + _) = _
      rw [rWell_o (by omega)]
    have el := eEc_len (M := M) v3
    have d4 : dOrd 11 w a1 a2 a3 M 4 = wr (w 4 + (M.length + fFrg (wW w a1.toNat) 1 (wW w a1.toNat 2).toNat - (eEc (wW w a1.toNat) (wW w a1.toNat 2).toNat M).length)) := by
      show wr (rWell w _ _ 4 + _) = _
      rw [rWell_o (by omega)]
    have d6 : dOrd 11 w a1 a2 a3 M 6 = wr (w 6 + (eEc (wW w a1.toNat) (wW w a1.toNat 2).toNat M).length) := by
      show wr (rWell w _ _ 6 + _) = _
      rw [rWell_o (by omega)]
    have vn := v3.1
    unfold ctB at l ⊢
    rw [d2, d3, d5, d4, d6, wrn (by omega) (by omega), wrn (by omega) (by omega), wrn (by omega) (by omega), wrn (by omega) (by omega), wrn (by omega) (by omega)]
    omega
