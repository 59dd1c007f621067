/-! the order of the wells by a measure -/
def msF (w : Nat → Int) (y : Int) (i : Nat) : Int := if y = 0 then wW w i 0 else if y = 1 then tmN w i else if y = 2 then wW w i 2 else wW w i 3
def bfr (w : Nat → Int) (y : Int) (i j : Nat) : Bool := decide (msF w y i < msF w y j ∨ (msF w y j = msF w y i ∧ j < i))
def rkF (w : Nat → Int) (y : Int) (i : Nat) : Nat → Nat → Nat
  | _, 0 => 0
  | p, k + 1 => (if bfr w y i p = true then 1 else 0) + rkF w y i (p + 1) k
def rdF (w : Nat → Int) (y x : Int) (N : Nat) : Nat → Nat → Int
  | _, 0 => -1
  | i, k + 1 => if ((rkF w y i 0 N : Nat) : Int) = x then (i : Int) else rdF w y x N (i + 1) k
def gRk (w : Nat → Int) (y x : Int) : Int × Int := if 0 ≤ y ∧ y ≤ 3 then (if rdF w y x (w 0).toNat 0 (w 0).toNat = -1 then (2, 0) else (0, rdF w y x (w 0).toNat 0 (w 0).toNat)) else (1, 0)
theorem gRk_k {w : Nat → Int} {y x : Int} : (gRk w y x).1 = 0 ∨ (gRk w y x).1 = 1 ∨ (gRk w y x).1 = 2 := by
  unfold gRk
  split
  · split
    · exact Or.inr (Or.inr rfl)
    · exact Or.inl rfl
  · exact Or.inr (Or.inl rfl)
theorem rkF_le (w : Nat → Int) (y : Int) (i : Nat) : ∀ (k p : Nat), rkF w y i p k ≤ k := by
  intro k
  induction k with
  | zero => intro p; exact Nat.le_refl 0
  | succ k ih =>
    intro p
    have := ih (p + 1)
    simp only [rkF]
    split <;> omega
section
variable {X : eX} {e : Nat} {h : Nat → Nat → Int} {w : Nat → Int} {c : Nat} {U : Nat → Nat → Int} {b : Bool} {r : Nat → Int} {k1 k2 : Int × Int} {W I L : List Int} {f : Int} {N R : Nat} {T : Nat → Nat}
theorem c_measure (l : wR h 2 w) {i : Nat} {y : Int} (hi : (i : Int) < w 0) (hy : 0 ≤ y ∧ y ≤ 3) (KI KX) : eCi X m_X12_measureOf [vR 1, vI (i : Int), vI y] eNT e ewP h KI KX = KI (msF w y i) eNT e ewP h := by
  refine eCi_eq X (fun Q H => ?_) KI KX
  refine bk_X12_measureOf_0 X 1 i y eNT e ewP h Q ?_
  obtain ⟨hk, wl, wo, x8⟩ := wR_well l (x := (i : Int)) ⟨by omega, hi⟩
  rw [Int.toNat_natCast] at hk wl wo
  obtain ⟨N, R, T, o, rr⟩ := id l
  simp only [ck1, ck2, ck52, ck102, ck554, ck560, ck566, ck569, ck571, ck573, ck575, ck567, cp0, cp1, cp2, cp3, cp4, cp5, cp6, cp7, cp8, cp9, cy566, ite_true, true_and, and_true]
  rw [c_wellQ o rr, if_pos (show 0 ≤ (i : Int) ∧ (i : Int) < w 0 from ⟨by omega, hi⟩), Int.toNat_natCast, if_neg (show ¬ (4 + 5 * i = 0) by omega)]
  simp only [(w10 hk).1, ite_true, nt0, nt1, nt2]
  rw [c_timeK hk wl wo, wl.2.2.1, wl.2.2.2.1, wl.2.2.2.2.2.1, ← wl.2.1]
  unfold msF tmN at H
  by_cases a : y = 0
  · rw [if_pos a] at H ⊢; exact H
  · rw [if_neg a] at H ⊢
    by_cases b : y = 1
    · rw [if_pos b] at H ⊢; exact H
    · rw [if_neg b] at H ⊢
      by_cases c : y = 2
      · rw [if_pos c] at H ⊢; exact H
      · rw [if_neg c] at H ⊢; exact H
theorem lp_rankOf (l : wR h 2 w) (hw : w 0 ≤ 8) {i : Nat} {y : Int} (hi : (i : Int) < w 0) (hy : 0 ≤ y ∧ y ≤ 3) : ∀ (k p a : Nat) (j6 : eV), ((p + k : Nat) : Int) = w 0 → a ≤ p → ∀ Q, Q (.inl (some (vI ((a + rkF w y i p k : Nat) : Int)))) (eNT, e, ewP, h) → eP X m_X12_rankOf 9 [vR 1, vI (i : Int), vI y, vI (msF w y i), vI (a : Int), vI (p : Int), j6] [] (eNT, e, ewP, h) Q := by
  obtain ⟨N, R, T, o, rr⟩ := id l
  have r1 := rr.1
  have o1 := o.1
  intro k
  induction k with
  | zero =>
    intro p a j6 hp ha Q H
    refine bk_X12_rankOf_9 X 1 i y _ a p j6 eNT e ewP h Q ?_
    simp only [ck1, ck2, ck52, ck102, ck554, ck560, ck566, ck569, ck571, ck573, ck575, ck567, cp0, cp1, cp2, cp3, cp4, cp5, cp6, cp7, cp8, cp9, cy566, ite_true, true_and, and_true]
    rw [r1, if_neg (by omega)]
    exact H
  | succ k ih =>
    intro p a j6 hp ha Q H
    refine bk_X12_rankOf_9 X 1 i y _ a p j6 eNT e ewP h Q ?_
    simp only [ck1, ck2, ck52, ck102, ck554, ck560, ck566, ck569, ck571, ck573, ck575, ck567, cp0, cp1, cp2, cp3, cp4, cp5, cp6, cp7, cp8, cp9, cy566, ite_true, true_and, and_true]
    rw [r1, if_pos (by omega), c_measure l (by omega) hy]
    rw [wi1 (i := a) (by omega), wi1 (i := p) (by omega)]
    have yes : bfr w y i p = true → ∀ j6, eP X m_X12_rankOf 9 [vR 1, vI (i : Int), vI y, vI (msF w y i), vI ((a + 1 : Nat) : Int), vI ((p + 1 : Nat) : Int), j6] [] (eNT, e, ewP, h) Q := fun hb j6 => ih (p + 1) (a + 1) j6 (by omega) (by omega) Q (by
      simp only [rkF] at H
      rw [if_pos hb] at H
      rw [show a + 1 + rkF w y i (p + 1) k = a + (1 + rkF w y i (p + 1) k) by omega]
      exact H)
    have no : ¬ bfr w y i p = true → ∀ j6, eP X m_X12_rankOf 9 [vR 1, vI (i : Int), vI y, vI (msF w y i), vI (a : Int), vI ((p + 1 : Nat) : Int), j6] [] (eNT, e, ewP, h) Q := fun hb j6 => ih (p + 1) a j6 (by omega) (by omega) Q (by
      simp only [rkF] at H
      rw [if_neg hb, Nat.zero_add] at H
      exact H)
    by_cases c1 : msF w y p ≤ msF w y i
    · rw [if_pos c1]
      by_cases c2 : msF w y p = msF w y i
      · rw [if_pos c2]
        by_cases c3 : (p : Int) < i
        · rw [if_pos c3]
          exact yes (by unfold bfr; exact decide_eq_true (Or.inr ⟨c2, by omega⟩)) _
        · rw [if_neg c3]
          exact no (by unfold bfr; intro z; have := of_decide_eq_true z; omega) _
      · rw [if_neg c2]
        exact no (by unfold bfr; intro z; have := of_decide_eq_true z; omega) _
    · rw [if_neg c1]
      exact yes (by unfold bfr; exact decide_eq_true (Or.inl (by omega))) _
theorem c_rankOf (l : wR h 2 w) (hw : w 0 ≤ 8) {i : Nat} {y : Int} (hi : (i : Int) < w 0) (hy : 0 ≤ y ∧ y ≤ 3) (KI KX) : eCi X m_X12_rankOf [vR 1, vI (i : Int), vI y] eNT e ewP h KI KX = KI ((rkF w y i 0 (w 0).toNat : Nat) : Int) eNT e ewP h := by
  refine eCi_eq X (fun Q H => ?_) KI KX
  refine bk_X12_rankOf_0 X 1 i y eNT e ewP h Q ?_
  rw [if_pos ck1, c_measure l hi hy]
  refine lp_rankOf l hw hi hy (w 0).toNat 0 0 vJ (by omega) (by omega) Q ?_
  rw [Nat.zero_add]
  exact H
theorem lp_ranked (l : wR h 2 w) (hw : w 0 ≤ 8) {y x : Int} (hy : 0 ≤ y ∧ y ≤ 3) : ∀ (k i : Nat), ((i + k : Nat) : Int) = w 0 → ∀ v, v = rdF w y x (w 0).toNat i k → ∀ Q, (if v = -1 then Q (.inr 5) (eNT, e + 1, ewP, h) else Q (.inl (some (vI v))) (eNT, e, ewP, h)) → eP X m_X12_ranked 11 [vR 1, vI y, vI x, vI (i : Int)] [] (eNT, e, ewP, h) Q := by
  obtain ⟨N, R, T, o, rr⟩ := id l
  have r1 := rr.1
  have o1 := o.1
  intro k
  induction k with
  | zero =>
    intro i hi v hv Q H
    refine bk_X12_ranked_11 X 1 y x i eNT e ewP h Q ?_
    simp only [ck1, ck2, ck52, ck102, ck554, ck560, ck566, ck569, ck571, ck573, ck575, ck567, cp0, cp1, cp2, cp3, cp4, cp5, cp6, cp7, cp8, cp9, cy566, ite_true, true_and, and_true]
    rw [r1, if_neg (by omega)]
    simp only [rdF] at hv
    rw [if_pos hv] at H
    exact H
  | succ k ih =>
    intro i hi v hv Q H
    refine bk_X12_ranked_11 X 1 y x i eNT e ewP h Q ?_
    simp only [ck1, ck2, ck52, ck102, ck554, ck560, ck566, ck569, ck571, ck573, ck575, ck567, cp0, cp1, cp2, cp3, cp4, cp5, cp6, cp7, cp8, cp9, cy566, ite_true, true_and, and_true]
    rw [r1, if_pos (by omega), c_rankOf l hw (by omega) hy]
    rw [wi1 (i := i) (by omega)]
    simp only [rdF] at hv
    by_cases q : ((rkF w y i 0 (w 0).toNat : Nat) : Int) = x
    · rw [if_pos q] at hv ⊢
      rw [if_neg (by omega), hv] at H
      exact H
    · rw [if_neg q] at hv ⊢
      exact ih (i + 1) (by omega) v hv Q H
theorem cg_ranked {y x : Int} (l : CI h w c U b r k1 k2 W I L f) {KI KX} (H : ∀ h', (∀ z, 577 ≤ z → h' z = h z) → CI h' w c U b r k1 k2 W I L f → gC (gRk w y x) 2 5 e h' KI KX) : eCi X m_X12_ranked [vR 1, vI y, vI x] eNT e ewP h KI KX := by
  refine bk_X12_ranked_0 X 1 y x eNT e ewP h _ ?_
  have H := H h (fun _ _ => rfl) l
  obtain ⟨N, R, T, o, rr⟩ := id l.1
  have o1 := o.1
  have o2 := o.2.1
  unfold gC gRk at H
  by_cases a : 0 ≤ y ∧ y ≤ 3
  · rw [if_neg (by omega), if_pos a.2]
    rw [if_pos a] at H
    refine lp_ranked l.1 (by omega) a (w 0).toNat 0 (by omega) _ rfl _ ?_
    by_cases q : rdF w y x (w 0).toNat 0 (w 0).toNat = -1
    · rw [if_pos q] at H ⊢
      exact H
    · rw [if_neg q] at H ⊢
      exact H
  · rw [if_neg a] at H
    by_cases a1 : y < 0
    · rw [if_pos a1]; exact H
    · rw [if_neg a1, if_neg (by omega)]; exact H
end
