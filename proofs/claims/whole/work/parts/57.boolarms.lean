/-! arms: isWhole, isLater -/
section
variable {X : eX} {e : Nat} {h : Nat → Nat → Int} {w : Nat → Int} {c : Nat} {U : Nat → Nat → Int} {b : Bool} {r : Nat → Int} {k1 k2 : Int × Int} {W I L : List Int} {f : Int}
theorem wl_isWhole {a1 : Int} (l : CI h w c U b r k1 k2 W I L f) {KI KX} (H : ∀ h', (∀ z, 577 ≤ z → h' z = h z) → CI h' w c U b r k1 k2 W I L f → gL (gIW w W a1) e h' KI) : eCi X m_L_isWhole [vR 1, vI a1, vR 588] eNT e ewP h KI KX := by
  refine bk_L_isWhole_0 X 1 a1 588 eNT e ewP h _ ?_
  rw [if_pos ck1]
  refine cg_isWhole l (fun h' f1 l1 => ?_)
  have H := H h' f1 l1
  unfold gL at H
  unfold gC
  split
  next q =>
    rw [if_pos q] at H
    rcases gIW_v (w := w) (W := W) (x := a1) with v | v
    · rw [v] at H ⊢
      show if (0 : Int) = 0 then (if kn ewK eNT 588 = 23 ∧ 0 ≤ (0 : Int) ∧ 0 < (ewL 588 : Int) then _ else _) else _
      rw [if_pos rfl, if_pos ⟨ok588, by decide, by rw [on588]; decide⟩]
      exact H
    · rw [v] at H ⊢
      show if (1 : Int) = 0 then _ else (if kn ewK eNT 588 = 23 ∧ 0 ≤ (0 : Int) ∧ 0 < (ewL 588 : Int) then _ else _)
      rw [if_neg (by decide), if_pos ⟨ok588, by decide, by rw [on588]; decide⟩]
      exact H
  next q =>
    rw [if_neg q] at H
    split
    next q2 =>
      rw [if_pos q2] at H
      refine eBk_h (t := 12) (k := 3) (by decide +kernel) ?_
      exact bk_L_isWhole_12 X 1 a1 588 _ eNT (e + 1) ewP h' _ H
    next q2 =>
      rw [if_neg q2] at H
      refine eBk_h (t := 15) (k := 3) (by decide +kernel) ?_
      exact bk_L_isWhole_15 X 1 a1 588 _ eNT (e + 1) ewP h' _ H
theorem wl_isLater {a1 a2 : Int} (l : CI h w c U b r k1 k2 W I L f) {KI KX} (H : ∀ h', (∀ z, 577 ≤ z → h' z = h z) → CI h' w c U b r k1 k2 W I L f → gL (gIL w a1 a2) e h' KI) : eCi X m_L_isLater [vR 1, vI a1, vI a2, vR 588] eNT e ewP h KI KX := by
  refine bk_L_isLater_0 X 1 a1 a2 588 eNT e ewP h _ ?_
  rw [if_pos ck1]
  refine cg_isLater l (fun h' f1 l1 => ?_)
  have H := H h' f1 l1
  unfold gL at H
  unfold gC
  split
  next q =>
    rw [if_pos q] at H
    rcases gIL_v (w := w) (x := a1) (y := a2) with v | v
    · rw [v] at H ⊢
      show if (0 : Int) = 0 then (if kn ewK eNT 588 = 23 ∧ 0 ≤ (0 : Int) ∧ 0 < (ewL 588 : Int) then _ else _) else _
      rw [if_pos rfl, if_pos ⟨ok588, by decide, by rw [on588]; decide⟩]
      exact H
    · rw [v] at H ⊢
      show if (1 : Int) = 0 then _ else (if kn ewK eNT 588 = 23 ∧ 0 ≤ (0 : Int) ∧ 0 < (ewL 588 : Int) then _ else _)
      rw [if_neg (by decide), if_pos ⟨ok588, by decide, by rw [on588]; decide⟩]
      exact H
  next q =>
    rw [if_neg q] at H
    split
    next q2 =>
      rw [if_pos q2] at H
      refine eBk_h (t := 13) (k := 4) (by decide +kernel) ?_
      exact bk_L_isLater_13 X 1 a1 a2 588 _ eNT (e + 1) ewP h' _ H
    next q2 =>
      rw [if_neg q2] at H
      exfalso
      rcases gIL_k (w := w) (x := a1) (y := a2) with z | z
      · exact q z
      · exact q2 z
end
section
variable {X : eX} {e i t : Nat} {h : Nat → Nat → Int} {Q : eO → eM → Prop}
theorem ar_isWhole (hi : i + 4 ≤ X.1) (hX : X.1 ≤ 2048) (l : SI h t) (H : NX X Q i t e) (j7 j8 : eV) : eP X m_L_law 1042 [vR 1000, vR 1, vR 577, vR 588, vR 589, vI (i : Int), vJ, j7, j8] [] (eNT, e, ewP, h) Q := by
  obtain ⟨w, c, U, b, r, k1, k2, W, I, L, f, lc, lm, z1, z2, z3, z4, z5⟩ := l
  obtain ⟨N, R, T, o, -⟩ := id lc.1
  have fin : ∀ h' e' (s6 s7 s8 : eV), (s6 = vJ ∨ ∃ x, s6 = vI x) → CI h' w c U b r k1 k2 W I L f → MI h' w c U b r k1 k2 W I L f → e' ≤ e + 1 → eP X m_L_law 1545 [vR 1000, vR 1, vR 577, vR 588, vR 589, vI (i : Int), s6, s7, s8] [] (eNT, e', ewP, h') Q := fun h' e' s6 s7 s8 hs l1 l2 he => H h' e' s6 s7 s8 hs ⟨w, c, U, b, r, k1, k2, W, I, L, f, l1, l2, ctB_le (by omega) z1, fun j hj => ctB_le (by omega) (z2 j hj), fun hb => ctB_le (by omega) (z3 hb), z4, z5⟩ he
  have g1 := sx1 (i := i) X hi hX
  have g2 := sx2 (i := i) X hi hX
  have g3 := sx3 (i := i) X hi hX
  refine bk_L_law_1042 X 1000 1 577 588 589 i j7 j8 eNT e ewP h Q ?_
  simp only [g1, g2, g3, true_and, and_true, ite_true]
  refine wl_isWhole lc (fun h1 f1 l1 => ?_)
  unfold gL
  by_cases q : (gIW w W (X.2 (wr ((i : Int) + 1)).toNat)).1 = 0
  · rw [if_pos q]
    simp only [g1, g2, g3, true_and, and_true, mk577, ite_true]
    refine mg_isWhole o (MI_c (fun z h2 h3 => by rw [up_ne h3]; exact f1 z h2) lm) (fun h2 f2 l2 t2 => ?_)
    rw [q] at t2
    rw [q, if_pos rfl, if_pos mk577, m_thrown, t2, if_pos rfl]
    try rw [if_pos rfl]
    have fe : ∀ s6 s7 s8 : eV, (s6 = vJ ∨ ∃ x, s6 = vI x) → eP X m_L_law 1545 [vR 1000, vR 1, vR 577, vR 588, vR 589, vI (i : Int), s6, s7, s8] [] (eNT, e, ewP, h2) Q := fun s6 s7 s8 hs => fin h2 e s6 s7 s8 hs (CI_f (fun z hz => by rw [f2 z (Or.inl hz), up_ne (by omega)]) l1) l2 (by omega)
    have e8 : h2 588 0 = _ := (congrFun (f2 588 (Or.inr (by omega))) 0).trans up_eq
    rw [if_pos ⟨ok588, by decide, by rw [on588]; decide⟩, show (0 : Int).toNat = 0 from rfl, e8]
    rcases gIW_v (w := w) (W := W) (x := X.2 (wr ((i : Int) + 1)).toNat) with v | v
    · rw [v, if_pos rfl, if_pos (by rw [if_pos rfl])]
      exact fe _ _ _ (Or.inr ⟨_, rfl⟩)
    · rw [v, if_neg (by decide), if_pos (by rw [if_pos rfl])]
      exact fe _ _ _ (Or.inr ⟨_, rfl⟩)
  · rw [if_neg q]
    by_cases q2 : (gIW w W (X.2 (wr ((i : Int) + 1)).toNat)).1 = 1
    · rw [if_pos q2]
      simp only [g1, g2, g3, true_and, and_true, mk577, ite_true]
      refine mg_isWhole o (MI_c (fun z h2 h3 => f1 z h2) lm) (fun h2 f2 l2 t2 => ?_)
      rw [q2] at t2
      rw [if_neg q, if_pos mk577, m_thrown, t2, if_pos rfl]
      try rw [if_neg (by decide)]
      exact fin h2 (e + 1) _ _ _ (Or.inr ⟨_, rfl⟩) (CI_f (fun z hz => f2 z (Or.inl hz)) l1) l2 (by omega)
    · rw [if_neg q2]
      have q3 : (gIW w W (X.2 (wr ((i : Int) + 1)).toNat)).1 = 2 := by
        rcases gIW_k (w := w) (W := W) (x := X.2 (wr ((i : Int) + 1)).toNat) with z | z | z
        · exact absurd z q
        · exact absurd z q2
        · exact z
      simp only [g1, g2, g3, true_and, and_true, mk577, ite_true]
      refine mg_isWhole o (MI_c (fun z h2 h3 => f1 z h2) lm) (fun h2 f2 l2 t2 => ?_)
      rw [q3] at t2
      rw [if_neg q, if_pos mk577, m_thrown, t2, if_pos rfl]
      try rw [if_neg (by decide)]
      exact fin h2 (e + 1) _ _ _ (Or.inr ⟨_, rfl⟩) (CI_f (fun z hz => f2 z (Or.inl hz)) l1) l2 (by omega)
theorem ar_isWholeb (hi : i + 4 ≤ X.1) (hX : X.1 ≤ 2048) (l : SI h t) (H : NX X Q i t e) (j6 : Int) (j7 j8 : eV) : eP X m_L_law 1042 [vR 1000, vR 1, vR 577, vR 588, vR 589, vI (i : Int), vI j6, j7, j8] [] (eNT, e, ewP, h) Q := by
  obtain ⟨w, c, U, b, r, k1, k2, W, I, L, f, lc, lm, z1, z2, z3, z4, z5⟩ := l
  obtain ⟨N, R, T, o, -⟩ := id lc.1
  have fin : ∀ h' e' (s6 s7 s8 : eV), (s6 = vJ ∨ ∃ x, s6 = vI x) → CI h' w c U b r k1 k2 W I L f → MI h' w c U b r k1 k2 W I L f → e' ≤ e + 1 → eP X m_L_law 1545 [vR 1000, vR 1, vR 577, vR 588, vR 589, vI (i : Int), s6, s7, s8] [] (eNT, e', ewP, h') Q := fun h' e' s6 s7 s8 hs l1 l2 he => H h' e' s6 s7 s8 hs ⟨w, c, U, b, r, k1, k2, W, I, L, f, l1, l2, ctB_le (by omega) z1, fun j hj => ctB_le (by omega) (z2 j hj), fun hb => ctB_le (by omega) (z3 hb), z4, z5⟩ he
  have g1 := sx1 (i := i) X hi hX
  have g2 := sx2 (i := i) X hi hX
  have g3 := sx3 (i := i) X hi hX
  refine bk_L_law_1042b X 1000 1 577 588 589 i j6 j7 j8 eNT e ewP h Q ?_
  simp only [g1, g2, g3, true_and, and_true, ite_true]
  refine wl_isWhole lc (fun h1 f1 l1 => ?_)
  unfold gL
  by_cases q : (gIW w W (X.2 (wr ((i : Int) + 1)).toNat)).1 = 0
  · rw [if_pos q]
    simp only [g1, g2, g3, true_and, and_true, mk577, ite_true]
    refine mg_isWhole o (MI_c (fun z h2 h3 => by rw [up_ne h3]; exact f1 z h2) lm) (fun h2 f2 l2 t2 => ?_)
    rw [q] at t2
    rw [q, if_pos rfl, if_pos mk577, m_thrown, t2, if_pos rfl]
    try rw [if_pos rfl]
    have fe : ∀ s6 s7 s8 : eV, (s6 = vJ ∨ ∃ x, s6 = vI x) → eP X m_L_law 1545 [vR 1000, vR 1, vR 577, vR 588, vR 589, vI (i : Int), s6, s7, s8] [] (eNT, e, ewP, h2) Q := fun s6 s7 s8 hs => fin h2 e s6 s7 s8 hs (CI_f (fun z hz => by rw [f2 z (Or.inl hz), up_ne (by omega)]) l1) l2 (by omega)
    have e8 : h2 588 0 = _ := (congrFun (f2 588 (Or.inr (by omega))) 0).trans up_eq
    rw [if_pos ⟨ok588, by decide, by rw [on588]; decide⟩, show (0 : Int).toNat = 0 from rfl, e8]
    rcases gIW_v (w := w) (W := W) (x := X.2 (wr ((i : Int) + 1)).toNat) with v | v
    · rw [v, if_pos rfl, if_pos (by rw [if_pos rfl])]
      exact fe _ _ _ (Or.inr ⟨_, rfl⟩)
    · rw [v, if_neg (by decide), if_pos (by rw [if_pos rfl])]
      exact fe _ _ _ (Or.inr ⟨_, rfl⟩)
  · rw [if_neg q]
    by_cases q2 : (gIW w W (X.2 (wr ((i : Int) + 1)).toNat)).1 = 1
    · rw [if_pos q2]
      simp only [g1, g2, g3, true_and, and_true, mk577, ite_true]
      refine mg_isWhole o (MI_c (fun z h2 h3 => f1 z h2) lm) (fun h2 f2 l2 t2 => ?_)
      rw [q2] at t2
      rw [if_neg q, if_pos mk577, m_thrown, t2, if_pos rfl]
      try rw [if_neg (by decide)]
      exact fin h2 (e + 1) _ _ _ (Or.inr ⟨_, rfl⟩) (CI_f (fun z hz => f2 z (Or.inl hz)) l1) l2 (by omega)
    · rw [if_neg q2]
      have q3 : (gIW w W (X.2 (wr ((i : Int) + 1)).toNat)).1 = 2 := by
        rcases gIW_k (w := w) (W := W) (x := X.2 (wr ((i : Int) + 1)).toNat) with z | z | z
        · exact absurd z q
        · exact absurd z q2
        · exact z
      simp only [g1, g2, g3, true_and, and_true, mk577, ite_true]
      refine mg_isWhole o (MI_c (fun z h2 h3 => f1 z h2) lm) (fun h2 f2 l2 t2 => ?_)
      rw [q3] at t2
      rw [if_neg q, if_pos mk577, m_thrown, t2, if_pos rfl]
      try rw [if_neg (by decide)]
      exact fin h2 (e + 1) _ _ _ (Or.inr ⟨_, rfl⟩) (CI_f (fun z hz => f2 z (Or.inl hz)) l1) l2 (by omega)

theorem ar_isLater (hi : i + 4 ≤ X.1) (hX : X.1 ≤ 2048) (l : SI h t) (H : NX X Q i t e) (j7 j8 : eV) : eP X m_L_law 819 [vR 1000, vR 1, vR 577, vR 588, vR 589, vI (i : Int), vJ, j7, j8] [] (eNT, e, ewP, h) Q := by
  obtain ⟨w, c, U, b, r, k1, k2, W, I, L, f, lc, lm, z1, z2, z3, z4, z5⟩ := l
  obtain ⟨N, R, T, o, -⟩ := id lc.1
  have fin : ∀ h' e' (s6 s7 s8 : eV), (s6 = vJ ∨ ∃ x, s6 = vI x) → CI h' w c U b r k1 k2 W I L f → MI h' w c U b r k1 k2 W I L f → e' ≤ e + 1 → eP X m_L_law 1545 [vR 1000, vR 1, vR 577, vR 588, vR 589, vI (i : Int), s6, s7, s8] [] (eNT, e', ewP, h') Q := fun h' e' s6 s7 s8 hs l1 l2 he => H h' e' s6 s7 s8 hs ⟨w, c, U, b, r, k1, k2, W, I, L, f, l1, l2, ctB_le (by omega) z1, fun j hj => ctB_le (by omega) (z2 j hj), fun hb => ctB_le (by omega) (z3 hb), z4, z5⟩ he
  have g1 := sx1 (i := i) X hi hX
  have g2 := sx2 (i := i) X hi hX
  have g3 := sx3 (i := i) X hi hX
  refine bk_L_law_819 X 1000 1 577 588 589 i j7 j8 eNT e ewP h Q ?_
  simp only [g1, g2, g3, true_and, and_true, ite_true]
  refine wl_isLater lc (fun h1 f1 l1 => ?_)
  unfold gL
  by_cases q : (gIL w (X.2 (wr ((i : Int) + 1)).toNat) (X.2 (wr ((i : Int) + 2)).toNat)).1 = 0
  · rw [if_pos q]
    simp only [g1, g2, g3, true_and, and_true, mk577, ite_true]
    refine mg_isLater o (MI_c (fun z h2 h3 => by rw [up_ne h3]; exact f1 z h2) lm) (fun h2 f2 l2 t2 => ?_)
    rw [q] at t2
    rw [q, if_pos rfl, if_pos mk577, m_thrown, t2, if_pos rfl]
    try rw [if_pos rfl]
    have fe : ∀ s6 s7 s8 : eV, (s6 = vJ ∨ ∃ x, s6 = vI x) → eP X m_L_law 1545 [vR 1000, vR 1, vR 577, vR 588, vR 589, vI (i : Int), s6, s7, s8] [] (eNT, e, ewP, h2) Q := fun s6 s7 s8 hs => fin h2 e s6 s7 s8 hs (CI_f (fun z hz => by rw [f2 z (Or.inl hz), up_ne (by omega)]) l1) l2 (by omega)
    have e8 : h2 588 0 = _ := (congrFun (f2 588 (Or.inr (by omega))) 0).trans up_eq
    rw [if_pos ⟨ok588, by decide, by rw [on588]; decide⟩, show (0 : Int).toNat = 0 from rfl, e8]
    rcases gIL_v (w := w) (x := X.2 (wr ((i : Int) + 1)).toNat) (y := X.2 (wr ((i : Int) + 2)).toNat) with v | v
    · rw [v, if_pos rfl, if_pos (by rw [if_pos rfl])]
      exact fe _ _ _ (Or.inr ⟨_, rfl⟩)
    · rw [v, if_neg (by decide), if_pos (by rw [if_pos rfl])]
      exact fe _ _ _ (Or.inr ⟨_, rfl⟩)
  · rw [if_neg q]
    by_cases q2 : (gIL w (X.2 (wr ((i : Int) + 1)).toNat) (X.2 (wr ((i : Int) + 2)).toNat)).1 = 1
    · rw [if_pos q2]
      simp only [g1, g2, g3, true_and, and_true, mk577, ite_true]
      refine mg_isLater o (MI_c (fun z h2 h3 => f1 z h2) lm) (fun h2 f2 l2 t2 => ?_)
      rw [q2] at t2
      rw [if_neg q, if_pos mk577, m_thrown, t2, if_pos rfl]
      try rw [if_neg (by decide)]
      exact fin h2 (e + 1) _ _ _ (Or.inr ⟨_, rfl⟩) (CI_f (fun z hz => f2 z (Or.inl hz)) l1) l2 (by omega)
    · rw [if_neg q2]
      have q3 : (gIL w (X.2 (wr ((i : Int) + 1)).toNat) (X.2 (wr ((i : Int) + 2)).toNat)).1 = 2 := by
        rcases gIL_k (w := w) (x := X.2 (wr ((i : Int) + 1)).toNat) (y := X.2 (wr ((i : Int) + 2)).toNat) with z | z
        · exact absurd z q
        · exact absurd z q2
      simp only [g1, g2, g3, true_and, and_true, mk577, ite_true]
      refine mg_isLater o (MI_c (fun z h2 h3 => f1 z h2) lm) (fun h2 f2 l2 t2 => ?_)
      rw [q3] at t2
      rw [if_neg q, if_pos mk577, m_thrown, t2, if_pos rfl]
      try rw [if_neg (by decide)]
      exact fin h2 (e + 1) _ _ _ (Or.inr ⟨_, rfl⟩) (CI_f (fun z hz => f2 z (Or.inl hz)) l1) l2 (by omega)
theorem ar_isLaterb (hi : i + 4 ≤ X.1) (hX : X.1 ≤ 2048) (l : SI h t) (H : NX X Q i t e) (j6 : Int) (j7 j8 : eV) : eP X m_L_law 819 [vR 1000, vR 1, vR 577, vR 588, vR 589, vI (i : Int), vI j6, j7, j8] [] (eNT, e, ewP, h) Q := by
  obtain ⟨w, c, U, b, r, k1, k2, W, I, L, f, lc, lm, z1, z2, z3, z4, z5⟩ := l
  obtain ⟨N, R, T, o, -⟩ := id lc.1
  have fin : ∀ h' e' (s6 s7 s8 : eV), (s6 = vJ ∨ ∃ x, s6 = vI x) → CI h' w c U b r k1 k2 W I L f → MI h' w c U b r k1 k2 W I L f → e' ≤ e + 1 → eP X m_L_law 1545 [vR 1000, vR 1, vR 577, vR 588, vR 589, vI (i : Int), s6, s7, s8] [] (eNT, e', ewP, h') Q := fun h' e' s6 s7 s8 hs l1 l2 he => H h' e' s6 s7 s8 hs ⟨w, c, U, b, r, k1, k2, W, I, L, f, l1, l2, ctB_le (by omega) z1, fun j hj => ctB_le (by omega) (z2 j hj), fun hb => ctB_le (by omega) (z3 hb), z4, z5⟩ he
  have g1 := sx1 (i := i) X hi hX
  have g2 := sx2 (i := i) X hi hX
  have g3 := sx3 (i := i) X hi hX
  refine bk_L_law_819b X 1000 1 577 588 589 i j6 j7 j8 eNT e ewP h Q ?_
  simp only [g1, g2, g3, true_and, and_true, ite_true]
  refine wl_isLater lc (fun h1 f1 l1 => ?_)
  unfold gL
  by_cases q : (gIL w (X.2 (wr ((i : Int) + 1)).toNat) (X.2 (wr ((i : Int) + 2)).toNat)).1 = 0
  · rw [if_pos q]
    simp only [g1, g2, g3, true_and, and_true, mk577, ite_true]
    refine mg_isLater o (MI_c (fun z h2 h3 => by rw [up_ne h3]; exact f1 z h2) lm) (fun h2 f2 l2 t2 => ?_)
    rw [q] at t2
    rw [q, if_pos rfl, if_pos mk577, m_thrown, t2, if_pos rfl]
    try rw [if_pos rfl]
    have fe : ∀ s6 s7 s8 : eV, (s6 = vJ ∨ ∃ x, s6 = vI x) → eP X m_L_law 1545 [vR 1000, vR 1, vR 577, vR 588, vR 589, vI (i : Int), s6, s7, s8] [] (eNT, e, ewP, h2) Q := fun s6 s7 s8 hs => fin h2 e s6 s7 s8 hs (CI_f (fun z hz => by rw [f2 z (Or.inl hz), up_ne (by omega)]) l1) l2 (by omega)
    have e8 : h2 588 0 = _ := (congrFun (f2 588 (Or.inr (by omega))) 0).trans up_eq
    rw [if_pos ⟨ok588, by decide, by rw [on588]; decide⟩, show (0 : Int).toNat = 0 from rfl, e8]
    rcases gIL_v (w := w) (x := X.2 (wr ((i : Int) + 1)).toNat) (y := X.2 (wr ((i : Int) + 2)).toNat) with v | v
    · rw [v, if_pos rfl, if_pos (by rw [if_pos rfl])]
      exact fe _ _ _ (Or.inr ⟨_, rfl⟩)
    · rw [v, if_neg (by decide), if_pos (by rw [if_pos rfl])]
      exact fe _ _ _ (Or.inr ⟨_, rfl⟩)
  · rw [if_neg q]
    by_cases q2 : (gIL w (X.2 (wr ((i : Int) + 1)).toNat) (X.2 (wr ((i : Int) + 2)).toNat)).1 = 1
    · rw [if_pos q2]
      simp only [g1, g2, g3, true_and, and_true, mk577, ite_true]
      refine mg_isLater o (MI_c (fun z h2 h3 => f1 z h2) lm) (fun h2 f2 l2 t2 => ?_)
      rw [q2] at t2
      rw [if_neg q, if_pos mk577, m_thrown, t2, if_pos rfl]
      try rw [if_neg (by decide)]
      exact fin h2 (e + 1) _ _ _ (Or.inr ⟨_, rfl⟩) (CI_f (fun z hz => f2 z (Or.inl hz)) l1) l2 (by omega)
    · rw [if_neg q2]
      have q3 : (gIL w (X.2 (wr ((i : Int) + 1)).toNat) (X.2 (wr ((i : Int) + 2)).toNat)).1 = 2 := by
        rcases gIL_k (w := w) (x := X.2 (wr ((i : Int) + 1)).toNat) (y := X.2 (wr ((i : Int) + 2)).toNat) with z | z
        · exact absurd z q
        · exact absurd z q2
      simp only [g1, g2, g3, true_and, and_true, mk577, ite_true]
      refine mg_isLater o (MI_c (fun z h2 h3 => f1 z h2) lm) (fun h2 f2 l2 t2 => ?_)
      rw [q3] at t2
      rw [if_neg q, if_pos mk577, m_thrown, t2, if_pos rfl]
      try rw [if_neg (by decide)]
      exact fin h2 (e + 1) _ _ _ (Or.inr ⟨_, rfl⟩) (CI_f (fun z hz => f2 z (Or.inl hz)) l1) l2 (by omega)

end
