/-! the best well -/
def tmN (w : Nat → Int) (i : Nat) : Int := fTime (wW w i) (wW w i 2).toNat
def btr (w : Nat → Int) (W : List Int) (i j : Nat) : Bool := decide (gSh w j W < gSh w i W ∨ (gSh w i W = gSh w j W ∧ tmN w i < tmN w j))
def bwF (w : Nat → Int) (W : List Int) : Nat → Nat → Nat → Nat
  | _, 0, best => best
  | i, k + 1, best => bwF w W (i + 1) k (if btr w W i best = true then i else best)
def gBW (w : Nat → Int) (W : List Int) : Int × Int := if W.length = 0 ∨ w 0 = 0 then (1, 0) else (0, (bwF w W 1 ((w 0).toNat - 1) 0 : Nat))
theorem gBW_k {w : Nat → Int} {W : List Int} : (gBW w W).1 = 0 ∨ (gBW w W).1 = 1 := by
  unfold gBW
  split
  · exact Or.inr rfl
  · exact Or.inl rfl
section
variable {X : eX} {e : Nat} {h : Nat → Nat → Int} {w : Nat → Int} {c : Nat} {U : Nat → Nat → Int} {b : Bool} {r : Nat → Int} {k1 k2 : Int × Int} {W I L : List Int} {f : Int} {N R : Nat} {T : Nat → Nat}
theorem lp_cbw (hw : w 0 ≤ 8) (hW : 0 < W.length) : ∀ (k i best : Nat) (h : Nat → Nat → Int) (j5 : Int) (j6 : eV), ((i + k : Nat) : Int) = w 0 → (best : Int) < w 0 → CI h w c U b r k1 k2 W I L f → ∀ Q, (∀ h', (∀ z, 577 ≤ z → h' z = h z) → CI h' w c U b r k1 k2 W I L f → Q (.inl (some (vI (bwF w W i k best : Nat)))) (eNT, e, ewP, h')) → eP X m_X12_bestWell 8 [vR 1, vI (best : Int), vI (gSh w best W), vI (tmN w best), vI (i : Int), vI j5, j6] [] (eNT, e, ewP, h) Q := by
  intro k
  induction k with
  | zero =>
    intro i best h j5 j6 hi hb l Q H
    refine bk_X12_bestWell_8b X 1 best _ _ i j5 j6 eNT e ewP h Q ?_
    obtain ⟨N, R, T, o, rr⟩ := id l.1
    have o1 := o.1
    simp only [ck1, ck2, ck52, ck102, ck554, ck560, ck566, ck569, ck571, ck573, ck575, ck567, cp0, cp1, cp2, cp3, cp4, cp5, cp6, cp7, cp8, cp9, cy566, ite_true, true_and, and_true]
    rw [rr.1, if_neg (by omega), if_neg (by omega)]
    exact H h (fun _ _ => rfl) l
  | succ k ih =>
    intro i best h j5 j6 hi hb l Q H
    refine bk_X12_bestWell_8b X 1 best _ _ i j5 j6 eNT e ewP h Q ?_
    obtain ⟨N, R, T, o, rr⟩ := id l.1
    have o1 := o.1
    simp only [ck1, ck2, ck52, ck102, ck554, ck560, ck566, ck569, ck571, ck573, ck575, ck567, cp0, cp1, cp2, cp3, cp4, cp5, cp6, cp7, cp8, cp9, cy566, ite_true, true_and, and_true]
    rw [rr.1, if_pos (by omega)]
    refine w_sendWord l (fun q => absurd (by omega) q) (fun q q2 => by omega) (fun q q2 h1 f1 l1 y1 => ?_)
    rw [Int.toNat_natCast] at y1
    have wo := wR_wl l.1 q
    rw [Int.toNat_natCast] at wo
    have tb := fTime_b wo
    have eg : grd W.length (eE w (i : Int) W).length (fTime (wW w i) (wW w i 2).toNat) = gSh w i W := by
      unfold gSh eE
      rw [Int.toNat_natCast]
    simp only [ck1, ck2, ck52, ck102, ck554, ck560, ck566, ck569, ck571, ck573, ck575, ck567, cp0, cp1, cp2, cp3, cp4, cp5, cp6, cp7, cp8, cp9, cy566, ite_true, true_and, and_true]
    rw [c_gradeFor cl566 cl569 y1 l1.2.2.2.2.1 (by omega), eg]
    simp only [ck1, ck2, ck52, ck102, ck554, ck560, ck566, ck569, ck571, ck573, ck575, ck567, cp0, cp1, cp2, cp3, cp4, cp5, cp6, cp7, cp8, cp9, cy566, ite_true, true_and, and_true]
    rw [show h1 566 3 = tmN w i from y1.2.2.2, wi1 (by omega), if_neg (show ¬ ((best : Int) = -1) by omega), if_neg (show ¬ ((best : Int) = -1) by omega)]
    try rw [if_neg (show ¬ ((1 : Int) = 0) by decide)]
    try rw [if_pos (show (0 : Int) = 0 from rfl)]
    have yes : btr w W i best = true → ∀ j5 j6, eP X m_X12_bestWell 8 [vR 1, vI (i : Int), vI (gSh w i W), vI (tmN w i), vI ((i + 1 : Nat) : Int), vI j5, j6] [] (eNT, e, ewP, h1) Q := fun hb2 j5 j6 => ih (i + 1) i h1 j5 j6 (by omega) (by omega) l1 Q (fun h' f' l' => by
      have := H h' (fun z hz => by rw [f' z hz, f1 z (by omega)]) l'
      simp only [bwF] at this
      rw [if_pos hb2] at this
      exact this)
    have no : ¬ btr w W i best = true → ∀ j5 j6, eP X m_X12_bestWell 8 [vR 1, vI (best : Int), vI (gSh w best W), vI (tmN w best), vI ((i + 1 : Nat) : Int), vI j5, j6] [] (eNT, e, ewP, h1) Q := fun hb2 j5 j6 => ih (i + 1) best h1 j5 j6 (by omega) hb l1 Q (fun h' f' l' => by
      have := H h' (fun z hz => by rw [f' z hz, f1 z (by omega)]) l'
      simp only [bwF] at this
      rw [if_neg hb2] at this
      exact this)
    by_cases c1 : gSh w i W ≤ gSh w best W
    · rw [if_pos c1]
      by_cases c2 : gSh w i W = gSh w best W
      · rw [if_pos c2]
        by_cases c3 : tmN w i < tmN w best
        · rw [if_pos c3]
          exact yes (by unfold btr; exact decide_eq_true (Or.inr ⟨c2, c3⟩)) _ _
        · rw [if_neg c3]
          exact no (by unfold btr; intro z; have := of_decide_eq_true z; omega) _ _
      · rw [if_neg c2]
        exact no (by unfold btr; intro z; have := of_decide_eq_true z; omega) _ _
    · rw [if_neg c1]
      exact yes (by unfold btr; exact decide_eq_true (Or.inl (by omega))) _ _
theorem cg_bestWell (l : CI h w c U b r k1 k2 W I L f) {KI KX} (H : ∀ h', (∀ z, 577 ≤ z → h' z = h z) → CI h' w c U b r k1 k2 W I L f → gC (gBW w W) 5 4 e h' KI KX) : eCi X m_X12_bestWell [vR 1] eNT e ewP h KI KX := by
  refine bk_X12_bestWell_0 X 1 eNT e ewP h _ ?_
  refine bk_X12_bestWell_8 X 1 (-1) 0 0 0 vJ eNT e ewP h _ ?_
  obtain ⟨N, R, T, o, rr⟩ := id l.1
  have o1 := o.1
  have o2 := o.2.1
  simp only [ck1, ck2, ck52, ck102, ck554, ck560, ck566, ck569, ck571, ck573, ck575, ck567, cp0, cp1, cp2, cp3, cp4, cp5, cp6, cp7, cp8, cp9, cy566, ite_true, true_and, and_true]
  rw [rr.1]
  by_cases n0 : N = 0
  · rw [if_neg (by omega)]
    have := H h (fun _ _ => rfl) l
    rw [show gBW w W = (1, 0) by unfold gBW; rw [if_pos (Or.inr (by omega))]] at this
    exact this
  · rw [if_pos (by omega)]
    refine w_sendWord l (fun q => absurd (by omega) q) (fun q q2 => ?_) (fun q q2 h1 f1 l1 y1 => ?_)
    · have := H h (fun _ _ => rfl) l
      rw [show gBW w W = (1, 0) by unfold gBW; rw [if_pos (Or.inl q2)]] at this
      exact this
    · have z0 : (0 : Int).toNat = 0 := rfl
      rw [z0] at y1
      have wo := wR_wl l.1 q
      rw [z0] at wo
      have tb := fTime_b wo
      have eg : grd W.length (eE w 0 W).length (fTime (wW w 0) (wW w 0 2).toNat) = gSh w 0 W := by
        unfold gSh eE
        rw [z0]
      have go : ∀ (Q : eO → eM → Prop), (∀ h', (∀ z, 577 ≤ z → h' z = h1 z) → CI h' w c U b r k1 k2 W I L f → Q (.inl (some (vI (bwF w W 1 (N - 1) 0 : Nat)))) (eNT, e, ewP, h')) → ∀ j6, eP X m_X12_bestWell 8 [vR 1, vI 0, vI (gSh w 0 W), vI (tmN w 0), vI 1, vI (gSh w 0 W), j6] [] (eNT, e, ewP, h1) Q := fun Q HQ j6 => lp_cbw (by omega) q2 (N - 1) 1 0 h1 (gSh w 0 W) j6 (by omega) (by omega) l1 Q HQ
      have fin : ∀ h', (∀ z, 577 ≤ z → h' z = h1 z) → CI h' w c U b r k1 k2 W I L f → KI (bwF w W 1 (N - 1) 0 : Nat) eNT e ewP h' := by
        intro h' f' l'
        have := H h' (fun z hz => by rw [f' z hz, f1 z (by omega)]) l'
        rw [show gBW w W = (0, ((bwF w W 1 (N - 1) 0 : Nat) : Int)) by unfold gBW; rw [if_neg (by omega), show (w 0).toNat = N by omega]] at this
        exact this
      simp only [ck1, ck2, ck52, ck102, ck554, ck560, ck566, ck569, ck571, ck573, ck575, ck567, cp0, cp1, cp2, cp3, cp4, cp5, cp6, cp7, cp8, cp9, cy566, ite_true, true_and, and_true]
      rw [c_gradeFor cl566 cl569 y1 l1.2.2.2.2.1 (by omega), eg]
      simp only [ck1, ck2, ck52, ck102, ck554, ck560, ck566, ck569, ck571, ck573, ck575, ck567, cp0, cp1, cp2, cp3, cp4, cp5, cp6, cp7, cp8, cp9, cy566, ite_true, true_and, and_true]
      rw [show h1 566 3 = tmN w 0 from y1.2.2.2, show wr ((0 : Int) + 1) = 1 by rw [wrn (by decide) (by decide)]; rfl]
      try rw [if_pos (show (-1 : Int) = -1 from rfl)]
      try rw [if_pos (show (-1 : Int) = -1 from rfl)]
      by_cases c1 : gSh w 0 W ≤ 0
      · rw [if_pos c1]
        by_cases c2 : gSh w 0 W = 0
        · rw [if_pos c2]
          by_cases c3 : tmN w 0 < 0
          · rw [if_pos c3]
            exact go _ (fun h' f' l' => fin h' f' l') _
          · rw [if_neg c3]
            exact go _ (fun h' f' l' => fin h' f' l') _
        · rw [if_neg c2]
          exact go _ (fun h' f' l' => fin h' f' l') _
      · rw [if_neg c1]
        exact go _ (fun h' f' l' => fin h' f' l') _
end
