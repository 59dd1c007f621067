/-! the best well: the reference -/
section
variable {X : eX} {e : Nat} {h : Nat → Nat → Int} {w : Nat → Int} {c : Nat} {U : Nat → Nat → Int} {b : Bool} {r : Nat → Int} {k1 k2 : Int × Int} {W I L : List Int} {f : Int} {N R : Nat} {T : Nat → Nat}
theorem MI_e {h' : Nat → Nat → Int} (l : MI h w c U b r k1 k2 W I L f) (q : mfr [584] [19, 20] h h') : MI h' w c U b r k1 k2 W I L f := by
  obtain ⟨l1, l2, l3, l4, l5⟩ := l
  have gk : ∀ k, k ≠ 19 → k ≠ 20 → h' 577 k = h 577 k := fun k h1 h2 => q.2 k (by simp [h1, h2])
  have gc : ∀ z, z ≠ 577 → z ≠ 584 → h' z = h z := fun z h1 h2 => q.1 z (by simp [h2]) h1
  exact ⟨by rw [gc _ (by omega) (by omega)]; exact l1, mH_f (gk _ (by omega) (by omega)) (gk _ (by omega) (by omega)) (gc _ (by omega) (by omega)) l2, mV_f (gk _ (by omega) (by omega)) (gc _ (by omega) (by omega)) l3, mK_f (fun k h1 h2 => gk k (by omega) (by omega)) l4, mL_f (gk _ (by omega) (by omega)) (gk _ (by omega) (by omega)) (gk _ (by omega) (by omega)) (gk _ (by omega) (by omega)) (gc _ (by omega) (by omega)) (gc _ (by omega) (by omega)) (gc _ (by omega) (by omega)) l5⟩
theorem sR_e {h' : Nat → Nat → Int} (l : sR h W) (q : mfr [584] [19, 20] h h') : sR h' W := ⟨by rw [q.2 17 (by decide)]; exact l.1, l.2.1, aR_h (q.1 _ (by decide) (by decide)) l.2.2⟩
theorem m_gradeNow {i : Nat} (o : rOk w N R T) (hi : i < N) (hw : h 578 = w) (ls : sR h W) {KI KX} (H : ∀ h', mfr [584] [19, 20] h h' → KI (gSh w i W) eNT e ewP h') : eCi X m_X13_gradeNow [vR 577, vI (i : Int)] eNT e ewP h KI KX := by
  refine bk_X13_gradeNow_0 X 577 i eNT e ewP h _ ?_
  have h8 := o.2.1
  have wo := o.2.2.2.2.1 i hi
  have eT := rOk_T o hi
  rw [if_pos mk577]
  refine m_sounds (n := T i) (by omega) rfl (by rw [hw]; exact wo) ls (fun h1 f1 e1 => ?_)
  have w1 : h1 578 = w := by rw [f1.1 578 (by decide) (by decide)]; exact hw
  have s1 := sR_e ls f1
  have l16 := e1.2.1
  have l8 := ls.2.1
  rw [hw] at e1 l16
  rw [if_pos mk577, m_gradeOf (n := T i) (by omega) (by rw [w1]) wo s1.1 e1.1 (by omega) (by omega)]
  have eg : grd W.length (eEc (wW w i) (T i) W).length (fTime (wW w i) (T i)) = gSh w i W := by unfold gSh; rw [eT]
  rw [eg]
  exact H h1 f1
theorem gSh_b {i : Nat} (o : rOk w N R T) (hi : i < N) : 0 ≤ gSh w i W ∧ gSh w i W ≤ 9 := by
  unfold gSh
  have wo := o.2.2.2.2.1 i hi
  rw [rOk_T o hi]
  exact grd_b (fTime_b wo).1
theorem m_isBetter {i j : Nat} (o : rOk w N R T) (hi : i < N) (hj : j < N) (hw : h 578 = w) (ls : sR h W) {KI KX} (H : ∀ h', mfr [584] [19, 20] h h' → KI (if btr w W i j = true then 1 else 0) eNT e ewP h') : eCi X m_X13_isBetter [vR 577, vI (i : Int), vI (j : Int)] eNT e ewP h KI KX := by
  refine bk_X13_isBetter_0 X 577 i j eNT e ewP h _ ?_
  have h8 := o.2.1
  rw [if_pos mk577]
  refine m_gradeNow o hi hw ls (fun h1 f1 => ?_)
  have w1 : h1 578 = w := by rw [f1.1 578 (by decide) (by decide)]; exact hw
  rw [if_pos mk577]
  refine m_gradeNow o hj w1 (sR_e ls f1) (fun h2 f2 => ?_)
  have w2 : h2 578 = w := by rw [f2.1 578 (by decide) (by decide)]; exact w1
  have bi := gSh_b (W := W) o hi
  have bj := gSh_b (W := W) o hj
  have m1 := fun KI KX => @m_timeOf X e h2 i (T i) (by omega) (by rw [w2]; exact o.2.2.2.2.1 i hi) KI KX
  have m2 := fun KI KX => @m_timeOf X e h2 j (T j) (by omega) (by rw [w2]; exact o.2.2.2.2.1 j hj) KI KX
  rw [w2] at m1 m2
  have t1 : fTime (wW w i) (T i) = tmN w i := by unfold tmN; rw [rOk_T o hi]
  have t2 : fTime (wW w j) (T j) = tmN w j := by unfold tmN; rw [rOk_T o hj]
  rw [t1] at m1
  rw [t2] at m2
  have H := H h2 (mfr_tr f1 f2)
  rw [wrn (by omega) (by omega)]
  by_cases q : gSh w i W = gSh w j W
  · rw [if_pos (by omega), if_pos mk577, m1, if_pos mk577, m2]
    by_cases q2 : tmN w i < tmN w j
    · rw [if_pos (show btr w W i j = true by unfold btr; exact decide_eq_true (Or.inr ⟨q, q2⟩))] at H
      rw [if_pos q2, if_pos (by decide)]
      exact H
    · rw [if_neg (show ¬ btr w W i j = true by unfold btr; intro z; have := of_decide_eq_true z; omega)] at H
      rw [if_neg q2, if_pos (by decide)]
      exact H
  · rw [if_neg (by omega)]
    by_cases q2 : gSh w i W - gSh w j W ≤ 0
    · rw [if_neg (show ¬ btr w W i j = true by unfold btr; intro z; have := of_decide_eq_true z; omega)] at H
      rw [if_pos q2, if_pos (by decide)]
      exact H
    · rw [if_pos (show btr w W i j = true by unfold btr; exact decide_eq_true (Or.inl (by omega)))] at H
      rw [if_neg q2, if_pos (by decide)]
      exact H
theorem lp_mbw (o : rOk w N R T) : ∀ (k i best : Nat) (h : Nat → Nat → Int), i + k = N → best < N → h 578 = w → sR h W → ∀ Q, (∀ h', mfr [584] [19, 20] h h' → Q (.inl (some (vI (bwF w W i k best : Nat)))) (eNT, e, ewP, h')) → eP X m_X13_bestWell 21 [vR 577, vI (best : Int), vI (i : Int)] [] (eNT, e, ewP, h) Q := by
  have h8 := o.2.1
  have o1 := o.1
  intro k
  induction k with
  | zero =>
    intro i best h hi hb hw ls Q H
    refine bk_X13_bestWell_21 X 577 best i eNT e ewP h Q ?_
    rw [if_pos mk577, mp578, if_pos ⟨mk578, by decide, by rw [mn578]; decide⟩, show (0 : Int).toNat = 0 from rfl, hw, if_neg (by omega)]
    exact H h mfr_rfl
  | succ k ih =>
    intro i best h hi hb hw ls Q H
    refine bk_X13_bestWell_21 X 577 best i eNT e ewP h Q ?_
    rw [if_pos mk577, mp578, if_pos ⟨mk578, by decide, by rw [mn578]; decide⟩, show (0 : Int).toNat = 0 from rfl, hw, if_pos (by omega), if_pos mk577]
    refine m_isBetter o (by omega) hb hw ls (fun h1 f1 => ?_)
    have w1 : h1 578 = w := by rw [f1.1 578 (by decide) (by decide)]; exact hw
    rw [wi1 (by omega)]
    simp only [bwF] at H
    by_cases q : btr w W i best = true
    · rw [if_pos q] at H ⊢
      rw [if_neg (by decide)]
      exact ih (i + 1) i h1 (by omega) (by omega) w1 (sR_e ls f1) Q (fun h' f' => H h' (mfr_tr f1 f'))
    · rw [if_neg q] at H ⊢
      rw [if_pos rfl]
      exact ih (i + 1) best h1 (by omega) hb w1 (sR_e ls f1) Q (fun h' f' => H h' (mfr_tr f1 f'))
theorem mg_bestWell (o : rOk w N R T) (l : MI h w c U b r k1 k2 W I L f) {KI KX} (H : ∀ h', mB h h' → MI h' w c U b r k1 k2 W I L f → h' 577 0 = (gBW w W).1 → KI (if (gBW w W).1 = 0 then (gBW w W).2 else 0) eNT e ewP h') : eCi X m_X13_bestWell [vR 577] eNT e ewP h KI KX := by
  refine bk_X13_bestWell_0 X 577 eNT e ewP h _ ?_
  have w1 := h0w l.1
  have l5 := l.2.2.2.2
  have o1 := o.1
  rw [if_pos mk577, if_pos mk577, up_nk (show 16 ≠ 0 by decide), l5.1]
  by_cases q : W.length = 0
  · rw [show gBW w W = (1, 0) by unfold gBW; rw [if_pos (Or.inl q)]] at H
    rw [if_pos (by omega), if_pos mk577, m_fails, upup]
    exact H _ (mB_up (fun _ _ => rfl) (by omega)) (MI_0 l) up_eq
  · rw [if_neg (by omega), if_pos mk577, mp578, if_pos ⟨mk578, by decide, by rw [mn578]; decide⟩, show (0 : Int).toNat = 0 from rfl, w1]
    by_cases q2 : w 0 = 0
    · rw [show gBW w W = (1, 0) by unfold gBW; rw [if_pos (Or.inr q2)]] at H
      rw [if_pos q2, if_pos mk577, m_fails, upup]
      exact H _ (mB_up (fun _ _ => rfl) (by omega)) (MI_0 l) up_eq
    · rw [show gBW w W = (0, ((bwF w W 1 (N - 1) 0 : Nat) : Int)) by unfold gBW; rw [if_neg (by omega), show (w 0).toNat = N by omega]] at H
      rw [if_neg q2, if_pos mk577]
      refine m_saysWord l5.2.1 (by rw [up_nk (by omega)]; exact l5.1) (aR_h (up_ne (by omega)) l5.2.2.1) (fun h2 f2 s2 => ?_)
      have w2 : h2 578 = w := by rw [f2.1 578 (by decide) (by decide)]; exact w1
      refine lp_mbw o (N - 1) 1 0 h2 (by omega) (by omega) w2 s2 _ (fun h3 f3 => ?_)
      have l2 : MI h2 w c U b r k1 k2 W I L f := by
        obtain ⟨p1, p2, p3, p4, p5⟩ := l
        have gk : ∀ k, k ≠ 0 → k ≠ 17 → h2 577 k = h 577 k := fun k h4 h5 => by rw [f2.2 k (by simp [h5]), up_nk h4]
        have gc : ∀ z, z ≠ 577 → z ≠ 583 → h2 z = h z := fun z h4 h5 => by rw [f2.1 z (by simp [h5]) h4, up_ne h4]
        exact ⟨by rw [gc _ (by omega) (by omega)]; exact p1, mH_f (gk _ (by omega) (by omega)) (gk _ (by omega) (by omega)) (gc _ (by omega) (by omega)) p2, mV_f (gk _ (by omega) (by omega)) (gc _ (by omega) (by omega)) p3, mK_f (fun k h1 h2 => gk k (by omega) (by omega)) p4, mL_f (gk _ (by omega) (by omega)) (gk _ (by omega) (by omega)) (gk _ (by omega) (by omega)) (gk _ (by omega) (by omega)) (gc _ (by omega) (by omega)) (gc _ (by omega) (by omega)) (gc _ (by omega) (by omega)) p5⟩
      refine H h3 (fun z hz => ?_) (MI_e l2 f3) ?_
      · rw [f3.1 z (by simp; omega) (by omega), f2.1 z (by simp; omega) (by omega), up_ne (by omega)]
      · rw [f3.2 0 (by decide), f2.2 0 (by decide), up_eq]
end
