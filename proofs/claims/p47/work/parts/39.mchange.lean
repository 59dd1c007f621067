/-! the reference's state as a whole; a change of it -/
def mV (h : Nat → Nat → Int) (b : Bool) (r : Nat → Int) : Prop := h 577 13 = (if b = true then 1 else 0) ∧ (b = true → ∀ k, k < 264 → h 580 k = r k)
def mK (h : Nat → Nat → Int) (k1 k2 : Int × Int) : Prop := h 577 1 = k1.1 ∧ (k1.1 ≠ 0 → h 577 2 = k1.2) ∧ h 577 3 = k2.1 ∧ (k2.1 ≠ 0 → h 577 4 = k2.2)
def mL (h : Nat → Nat → Int) (W I L : List Int) (f : Int) : Prop := h 577 16 = (W.length : Int) ∧ W.length ≤ 8 ∧ aR h 582 W ∧ h 577 24 = (I.length : Int) ∧ I.length ≤ 60 ∧ aR h 586 I ∧ h 577 22 = (L.length : Int) ∧ L.length ≤ 60 ∧ aR h 585 L ∧ h 577 26 = f
def MI (h : Nat → Nat → Int) (w : Nat → Int) (c : Nat) (U : Nat → Nat → Int) (b : Bool) (r : Nat → Int) (k1 k2 : Int × Int) (W I L : List Int) (f : Int) : Prop := h 578 = w ∧ mH h c U ∧ mV h b r ∧ mK h k1 k2 ∧ mL h W I L f
theorem mH_f {h h' : Nat → Nat → Int} {c : Nat} {U : Nat → Nat → Int} (q1 : h' 577 11 = h 577 11) (q2 : h' 577 12 = h 577 12) (q3 : h' 579 = h 579) (l : mH h c U) : mH h' c U := by
  unfold mH
  rw [q1, q2, q3]
  exact l
theorem mV_f {h h' : Nat → Nat → Int} {b : Bool} {r : Nat → Int} (q1 : h' 577 13 = h 577 13) (q2 : h' 580 = h 580) (l : mV h b r) : mV h' b r := by
  unfold mV
  rw [q1, q2]
  exact l
theorem mK_f {h h' : Nat → Nat → Int} {k1 k2 : Int × Int} (q : ∀ k, 1 ≤ k → k < 5 → h' 577 k = h 577 k) (l : mK h k1 k2) : mK h' k1 k2 := by
  unfold mK
  rw [q 1 (by omega) (by omega), q 2 (by omega) (by omega), q 3 (by omega) (by omega), q 4 (by omega) (by omega)]
  exact l
theorem mL_f {h h' : Nat → Nat → Int} {W I L : List Int} {f : Int} (q1 : h' 577 16 = h 577 16) (q2 : h' 577 24 = h 577 24) (q3 : h' 577 22 = h 577 22) (q4 : h' 577 26 = h 577 26) (q5 : h' 582 = h 582) (q6 : h' 586 = h 586) (q7 : h' 585 = h 585) (l : mL h W I L f) : mL h' W I L f := by
  unfold mL aR
  rw [q1, q2, q3, q4, q5, q6, q7]
  exact l
/-- what is beside the state -/
def mB (h h' : Nat → Nat → Int) : Prop := ∀ z, (z < 577 ∨ 588 ≤ z) → h' z = h z
theorem mB_m {C F : List Nat} {h h' : Nat → Nat → Int} (f : mfr C F h h') (q : ∀ z, z ∈ C → 577 ≤ z ∧ z < 588) : mB h h' := fun z hz => f.1 z (fun h1 => by have := q z h1; omega) (by omega)
theorem mB_tr {h h1 h2 : Nat → Nat → Int} (a : mB h h1) (b : mB h1 h2) : mB h h2 := fun z hz => by rw [b z hz, a z hz]
theorem mB_up {h h1 : Nat → Nat → Int} {c k : Nat} {v : Int} (a : mB h h1) (q : 577 ≤ c ∧ c < 588) : mB h (up h1 c k v) := fun z hz => by rw [up_ne (by omega), a z hz]
theorem mB_rw {h h1 : Nat → Nat → Int} {w : Nat → Int} (a : mB h h1) : mB h (rw8 h1 w) := fun z hz => by rw [rw8_o (by omega), a z hz]
section
variable {w : Nat → Int}
theorem nDig_ok {d b : Int} (q : nDig w d b = (0, 0)) : w 0 < 8 := by
  unfold nDig at q
  split at q
  · split at q
    · split at q
      · assumption
      · exact absurd (congrArg Prod.fst q) (by intro z; simp at z)
    · exact absurd (congrArg Prod.fst q) (by intro z; simp at z)
  · exact absurd (congrArg Prod.fst q) (by intro z; simp at z)
theorem nDeepen_ok {x m : Int} (q : nDeepen w x m = (0, 0)) : (0 ≤ x ∧ x < w 0) ∧ 1 ≤ m ∧ m ≤ 29 := by
  unfold nDeepen at q
  split at q
  · split at q
    · exact ⟨by assumption, by assumption⟩
    · exact absurd (congrArg Prod.fst q) (by intro z; simp at z)
  · exact absurd (congrArg Prod.fst q) (by intro z; simp at z)
theorem nThing_ok {x d v lo hi : Int} (q : nThing w x d v lo hi = (0, 0)) : (0 ≤ x ∧ x < w 0) ∧ wW w x.toNat 2 < 5 := by
  unfold nThing at q
  split at q
  · split at q
    · split at q
      · split at q
        · split at q
          · exact ⟨by assumption, by assumption⟩
          · exact absurd (congrArg Prod.fst q) (by intro z; simp at z)
        · exact absurd (congrArg Prod.fst q) (by intro z; simp at z)
      · exact absurd (congrArg Prod.fst q) (by intro z; simp at z)
    · exact absurd (congrArg Prod.fst q) (by intro z; simp at z)
  · exact absurd (congrArg Prod.fst q) (by intro z; simp at z)
theorem nTake_ok {x t : Int} (q : nTake w x t = (0, 0)) : (0 ≤ x ∧ x < w 0) ∧ 0 ≤ t ∧ t < wW w x.toNat 2 := by
  unfold nTake at q
  split at q
  · split at q
    · exact ⟨by assumption, by assumption⟩
    · exact absurd (congrArg Prod.fst q) (by intro z; simp at z)
  · exact absurd (congrArg Prod.fst q) (by intro z; simp at z)
theorem nRope_ok {x : Int} (q : nRope w x = (0, 0)) : w 1 < 3 := by
  unfold nRope at q
  split at q
  · split at q
    · assumption
    · exact absurd (congrArg Prod.fst q) (by intro z; simp at z)
  · exact absurd (congrArg Prod.fst q) (by intro z; simp at z)
theorem nBind_ok {y x : Int} (q : nBind w y x = (0, 0)) : (0 ≤ y ∧ y < w 1) ∧ 0 ≤ x ∧ x < w 0 := by
  unfold nBind at q
  split at q
  · split at q
    · exact ⟨by assumption, by assumption⟩
    · exact absurd (congrArg Prod.fst q) (by intro z; simp at z)
  · exact absurd (congrArg Prod.fst q) (by intro z; simp at z)
theorem nShout_ok {x : Int} {m : Nat} (q : nShout w x m = (0, 0)) : 0 ≤ x ∧ x < w 0 := by
  unfold nShout at q
  split at q
  · assumption
  · exact absurd (congrArg Prod.fst q) (by intro z; simp at z)
end
section
variable {X : eX} {e : Nat} {h : Nat → Nat → Int} {w : Nat → Int} {c : Nat} {U : Nat → Nat → Int} {b : Bool} {r : Nat → Int} {k1 k2 : Int × Int} {W I L : List Int} {f : Int} {N R : Nat} {T : Nat → Nat}
/-- remembered, and the row another -/
theorem t_rem {h1 h2 h3 : Nat → Nat → Int} {w' : Nat → Int} (l : MI h w c U b r k1 k2 W I L f) (e1 : h1 = up h 577 0 0) (f2 : mfr [579, 581] [11, 12] h1 h2) (g2 : mH h2 (pC c) (pU2 c U (h1 578))) (e3 : h3 = rw8 h2 w') : mB h h3 ∧ h3 577 0 = 0 ∧ MI h3 w' (pC c) (pU2 c U w) b r k1 k2 W I L f := by
  obtain ⟨l1, l2, l3, l4, l5⟩ := l
  subst e1
  subst e3
  have hk : ∀ k, k ≠ 0 → k ≠ 11 → k ≠ 12 → (rw8 h2 w') 577 k = h 577 k := by
    intro k h0 h3 h4
    rw [rw8_o (by omega), f2.2 k (by simp [h3, h4]), up_nk h0]
  have hc : ∀ z, z ≠ 577 → z ≠ 578 → z ≠ 579 → z ≠ 581 → (rw8 h2 w') z = h z := by
    intro z h0 h3 h4 h5
    rw [rw8_o h3, f2.1 z (by simp [h4, h5]) h0, up_ne h0]
  refine ⟨fun z hz => hc z (by omega) (by omega) (by omega) (by omega), ?_, rw8_s, ?_, mV_f (hk _ (by omega) (by omega) (by omega)) (hc _ (by omega) (by omega) (by omega) (by omega)) l3, mK_f (fun k h3 h4 => hk k (by omega) (by omega) (by omega)) l4, mL_f (hk _ (by omega) (by omega) (by omega)) (hk _ (by omega) (by omega) (by omega)) (hk _ (by omega) (by omega) (by omega)) (hk _ (by omega) (by omega) (by omega)) (hc _ (by omega) (by omega) (by omega) (by omega)) (hc _ (by omega) (by omega) (by omega) (by omega)) (hc _ (by omega) (by omega) (by omega) (by omega)) l5⟩
  · rw [rw8_o (by omega), f2.2 0 (by decide), up_eq]
  · rw [show w = (up h 577 0 0) 578 by rw [up_ne (by omega)]; exact l1.symm]
    exact mH_f (by rw [rw8_o (by omega)]) (by rw [rw8_o (by omega)]) (rw8_o (by omega)) g2
theorem mH_0 {v : Int} (l : mH h c U) : mH (up h 577 0 v) c U := mH_f (up_nk (by omega)) (up_nk (by omega)) (up_ne (by omega)) l
end
