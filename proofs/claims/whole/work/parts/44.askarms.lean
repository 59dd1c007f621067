/-! arms that ask and change nothing -/
def gL (g : Int × Int) (e : Nat) (h : Nat → Nat → Int) (KI : Int → Nat → Nat → (Nat → Nat → Nat) → (Nat → Nat → Int) → Prop) : Prop := if g.1 = 0 then KI 0 eNT e ewP (up h 588 0 g.2) else if g.1 = 1 then KI 1 eNT (e + 1) ewP h else KI 2 eNT (e + 1) ewP h
theorem MI_0 {h : Nat → Nat → Int} {w : Nat → Int} {c : Nat} {U : Nat → Nat → Int} {b : Bool} {r : Nat → Int} {k1 k2 : Int × Int} {W I L : List Int} {f v : Int} (l : MI h w c U b r k1 k2 W I L f) : MI (up h 577 0 v) w c U b r k1 k2 W I L f := by
  obtain ⟨l1, l2, l3, l4, l5⟩ := l
  exact ⟨by rw [up_ne (by omega)]; exact l1, mH_0 l2, mV_f (up_nk (by omega)) (up_ne (by omega)) l3, mK_f (fun k h1 h2 => up_nk (by omega)) l4, mL_f (up_nk (by omega)) (up_nk (by omega)) (up_nk (by omega)) (up_nk (by omega)) (up_ne (by omega)) (up_ne (by omega)) (up_ne (by omega)) l5⟩
theorem gW_k {w : Nat → Int} {x y : Int} : (gW w x y).1 = 0 ∨ (gW w x y).1 = 1 ∨ (gW w x y).1 = 2 := by
  generalize hg : gW w x y = g
  unfold gW at hg
  repeat' split at hg
  all_goals (subst hg; simp)
theorem gT_k {w : Nat → Int} {x t y : Int} : (gT w x t y).1 = 0 ∨ (gT w x t y).1 = 1 ∨ (gT w x t y).1 = 2 := by
  generalize hg : gT w x t y = g
  unfold gT at hg
  repeat' split at hg
  all_goals (subst hg; simp)
theorem gR_k {w : Nat → Int} {x y : Int} : (gR w x y).1 = 0 ∨ (gR w x y).1 = 1 ∨ (gR w x y).1 = 2 := by
  generalize hg : gR w x y = g
  unfold gR at hg
  repeat' split at hg
  all_goals (subst hg; simp)
theorem gB_k {w : Nat → Int} {x y : Int} : (gB w x y).1 = 0 ∨ (gB w x y).1 = 1 ∨ (gB w x y).1 = 2 := by
  generalize hg : gB w x y = g
  unfold gB at hg
  repeat' split at hg
  all_goals (subst hg; simp)
theorem gTi_k {w : Nat → Int} {x : Int} : (gTi w x).1 = 0 ∨ (gTi w x).1 = 1 ∨ (gTi w x).1 = 2 := by
  generalize hg : gTi w x = g
  unfold gTi at hg
  repeat' split at hg
  all_goals (subst hg; simp)
section
variable {X : eX} {e i t : Nat} {h : Nat → Nat → Int} {w : Nat → Int} {Q : eO → eM → Prop}
theorem wl_wellOf {a1 a2 : Int} (l : wR h 2 w) {KI KX} (H : gL (gW w a1 a2) e h KI) : eCi X m_L_wellOf [vR 1, vI a1, vI a2, vR 588] eNT e ewP h KI KX := by
  refine bk_L_wellOf_0 X 1 a1 a2 588 eNT e ewP h _ ?_
  rw [if_pos ck1]
  refine cg_wellOf l ?_
  unfold gL at H
  unfold gC
  split
  next q =>
    rw [if_pos q] at H
    show if kn ewK eNT 588 = 23 ∧ 0 ≤ (0 : Int) ∧ 0 < (ewL 588 : Int) then _ else _
    rw [if_pos ⟨ok588, by decide, by rw [on588]; decide⟩]
    exact H
  next q =>
    rw [if_neg q] at H
    split
    next q2 =>
      rw [if_pos q2] at H
      refine eBk_h (t := 10) (k := 4) (by decide +kernel) ?_
      exact bk_L_wellOf_10 X 1 a1 a2 588 _ eNT (e + 1) ewP h _ H
    next q2 =>
      rw [if_neg q2] at H
      refine eBk_h (t := 13) (k := 4) (by decide +kernel) ?_
      exact bk_L_wellOf_13 X 1 a1 a2 588 _ eNT (e + 1) ewP h _ H
theorem ar_wellOf (hi : i + 4 ≤ X.1) (hX : X.1 ≤ 2048) (l : SI h t) (H : NX X Q i t e) (j7 j8 : eV) : eP X m_L_law 559 [vR 1000, vR 1, vR 577, vR 588, vR 589, vI (i : Int), vJ, j7, j8] [] (eNT, e, ewP, h) Q := by
  obtain ⟨w, c, U, b, r, k1, k2, W, I, L, f, lc, lm, z1, z2, z3, z4, z5⟩ := l
  obtain ⟨N, R, T, o, -⟩ := id lc.1
  have fin : ∀ h' e' (s6 s7 s8 : eV), (s6 = vJ ∨ ∃ x, s6 = vI x) → CI h' w c U b r k1 k2 W I L f → MI h' w c U b r k1 k2 W I L f → e' ≤ e + 1 → eP X m_L_law 1545 [vR 1000, vR 1, vR 577, vR 588, vR 589, vI (i : Int), s6, s7, s8] [] (eNT, e', ewP, h') Q := fun h' e' s6 s7 s8 hs l1 l2 he => H h' e' s6 s7 s8 hs ⟨w, c, U, b, r, k1, k2, W, I, L, f, l1, l2, ctB_le (by omega) z1, fun j hj => ctB_le (by omega) (z2 j hj), fun hb => ctB_le (by omega) (z3 hb), z4, z5⟩ he
  have g1 := sx1 (i := i) X hi hX
  have g2 := sx2 (i := i) X hi hX
  have g3 := sx3 (i := i) X hi hX
  refine bk_L_law_559 X 1000 1 577 588 589 i j7 j8 eNT e ewP h Q ?_
  simp only [g1, g2, g3, true_and, and_true, ite_true]
  refine wl_wellOf lc.1 ?_
  unfold gL
  split
  next q =>
    simp only [g1, g2, g3, true_and, and_true, mk577, ite_true]
    refine mg_wellOf (by rw [up_ne (by omega)]; exact lm.1) o ?_
    unfold gM
    rw [q, if_pos rfl]
    dsimp only
    rw [if_pos mk577, m_thrown, up_eq, if_pos rfl]
    try rw [if_pos rfl]
    rw [if_pos ⟨ok588, by decide, by rw [on588]; decide⟩, show (0 : Int).toNat = 0 from rfl, up_ne (show 588 ≠ 577 by decide), up_eq, if_pos (by rw [if_pos rfl])]
    exact fin _ e _ _ _ (Or.inr ⟨_, rfl⟩) (CI_f (fun z hz => by rw [up_ne (by omega), up_ne (by omega)]) lc) (MI_0 (MI_c (fun z h2 h3 => up_ne h3) lm)) (by omega)
  next q =>
    split
    next q2 =>
      simp only [g1, g2, g3, true_and, and_true, mk577, ite_true]
      refine mg_wellOf lm.1 o ?_
      unfold gM
      rw [if_neg q, q2]
      dsimp only
      rw [if_pos mk577, m_thrown, up_eq, if_pos rfl]
      try rw [if_neg (by decide)]
      exact fin _ (e + 1) _ _ _ (Or.inr ⟨_, rfl⟩) (CI_f (fun z hz => by rw [up_ne (by omega)]) lc) (MI_0 lm) (by omega)
    next q2 =>
      have q3 : (gW w (X.2 (wr ((i : Int) + 1)).toNat) (X.2 (wr ((i : Int) + 2)).toNat)).1 = 2 := by
        rcases gW_k (w := w) (x := X.2 (wr ((i : Int) + 1)).toNat) (y := X.2 (wr ((i : Int) + 2)).toNat) with z | z | z
        · exact absurd z q
        · exact absurd z q2
        · exact z
      simp only [g1, g2, g3, true_and, and_true, mk577, ite_true]
      refine mg_wellOf lm.1 o ?_
      unfold gM
      rw [if_neg q, q3]
      dsimp only
      rw [if_pos mk577, m_thrown, up_eq, if_pos rfl]
      try rw [if_neg (by decide)]
      exact fin _ (e + 1) _ _ _ (Or.inr ⟨_, rfl⟩) (CI_f (fun z hz => by rw [up_ne (by omega)]) lc) (MI_0 lm) (by omega)
theorem ar_wellOfb (hi : i + 4 ≤ X.1) (hX : X.1 ≤ 2048) (l : SI h t) (H : NX X Q i t e) (j6 : Int) (j7 j8 : eV) : eP X m_L_law 559 [vR 1000, vR 1, vR 577, vR 588, vR 589, vI (i : Int), vI j6, j7, j8] [] (eNT, e, ewP, h) Q := by
  obtain ⟨w, c, U, b, r, k1, k2, W, I, L, f, lc, lm, z1, z2, z3, z4, z5⟩ := l
  obtain ⟨N, R, T, o, -⟩ := id lc.1
  have fin : ∀ h' e' (s6 s7 s8 : eV), (s6 = vJ ∨ ∃ x, s6 = vI x) → CI h' w c U b r k1 k2 W I L f → MI h' w c U b r k1 k2 W I L f → e' ≤ e + 1 → eP X m_L_law 1545 [vR 1000, vR 1, vR 577, vR 588, vR 589, vI (i : Int), s6, s7, s8] [] (eNT, e', ewP, h') Q := fun h' e' s6 s7 s8 hs l1 l2 he => H h' e' s6 s7 s8 hs ⟨w, c, U, b, r, k1, k2, W, I, L, f, l1, l2, ctB_le (by omega) z1, fun j hj => ctB_le (by omega) (z2 j hj), fun hb => ctB_le (by omega) (z3 hb), z4, z5⟩ he
  have g1 := sx1 (i := i) X hi hX
  have g2 := sx2 (i := i) X hi hX
  have g3 := sx3 (i := i) X hi hX
  refine bk_L_law_559b X 1000 1 577 588 589 i j6 j7 j8 eNT e ewP h Q ?_
  simp only [g1, g2, g3, true_and, and_true, ite_true]
  refine wl_wellOf lc.1 ?_
  unfold gL
  split
  next q =>
    simp only [g1, g2, g3, true_and, and_true, mk577, ite_true]
    refine mg_wellOf (by rw [up_ne (by omega)]; exact lm.1) o ?_
    unfold gM
    rw [q, if_pos rfl]
    dsimp only
    rw [if_pos mk577, m_thrown, up_eq, if_pos rfl]
    try rw [if_pos rfl]
    rw [if_pos ⟨ok588, by decide, by rw [on588]; decide⟩, show (0 : Int).toNat = 0 from rfl, up_ne (show 588 ≠ 577 by decide), up_eq, if_pos (by rw [if_pos rfl])]
    exact fin _ e _ _ _ (Or.inr ⟨_, rfl⟩) (CI_f (fun z hz => by rw [up_ne (by omega), up_ne (by omega)]) lc) (MI_0 (MI_c (fun z h2 h3 => up_ne h3) lm)) (by omega)
  next q =>
    split
    next q2 =>
      simp only [g1, g2, g3, true_and, and_true, mk577, ite_true]
      refine mg_wellOf lm.1 o ?_
      unfold gM
      rw [if_neg q, q2]
      dsimp only
      rw [if_pos mk577, m_thrown, up_eq, if_pos rfl]
      try rw [if_neg (by decide)]
      exact fin _ (e + 1) _ _ _ (Or.inr ⟨_, rfl⟩) (CI_f (fun z hz => by rw [up_ne (by omega)]) lc) (MI_0 lm) (by omega)
    next q2 =>
      have q3 : (gW w (X.2 (wr ((i : Int) + 1)).toNat) (X.2 (wr ((i : Int) + 2)).toNat)).1 = 2 := by
        rcases gW_k (w := w) (x := X.2 (wr ((i : Int) + 1)).toNat) (y := X.2 (wr ((i : Int) + 2)).toNat) with z | z | z
        · exact absurd z q
        · exact absurd z q2
        · exact z
      simp only [g1, g2, g3, true_and, and_true, mk577, ite_true]
      refine mg_wellOf lm.1 o ?_
      unfold gM
      rw [if_neg q, q3]
      dsimp only
      rw [if_pos mk577, m_thrown, up_eq, if_pos rfl]
      try rw [if_neg (by decide)]
      exact fin _ (e + 1) _ _ _ (Or.inr ⟨_, rfl⟩) (CI_f (fun z hz => by rw [up_ne (by omega)]) lc) (MI_0 lm) (by omega)
theorem wl_thingOf {a1 a2 a3 : Int} (l : wR h 2 w) {KI KX} (H : gL (gT w a1 a2 a3) e h KI) : eCi X m_L_thingOf [vR 1, vI a1, vI a2, vI a3, vR 588] eNT e ewP h KI KX := by
  refine bk_L_thingOf_0 X 1 a1 a2 a3 588 eNT e ewP h _ ?_
  rw [if_pos ck1]
  refine cg_thingOf l ?_
  unfold gL at H
  unfold gC
  split
  next q =>
    rw [if_pos q] at H
    show if kn ewK eNT 588 = 23 ∧ 0 ≤ (0 : Int) ∧ 0 < (ewL 588 : Int) then _ else _
    rw [if_pos ⟨ok588, by decide, by rw [on588]; decide⟩]
    exact H
  next q =>
    rw [if_neg q] at H
    split
    next q2 =>
      rw [if_pos q2] at H
      refine eBk_h (t := 11) (k := 5) (by decide +kernel) ?_
      exact bk_L_thingOf_11 X 1 a1 a2 a3 588 _ eNT (e + 1) ewP h _ H
    next q2 =>
      rw [if_neg q2] at H
      refine eBk_h (t := 14) (k := 5) (by decide +kernel) ?_
      exact bk_L_thingOf_14 X 1 a1 a2 a3 588 _ eNT (e + 1) ewP h _ H
theorem ar_thingOf (hi : i + 4 ≤ X.1) (hX : X.1 ≤ 2048) (l : SI h t) (H : NX X Q i t e) (j7 j8 : eV) : eP X m_L_law 604 [vR 1000, vR 1, vR 577, vR 588, vR 589, vI (i : Int), vJ, j7, j8] [] (eNT, e, ewP, h) Q := by
  obtain ⟨w, c, U, b, r, k1, k2, W, I, L, f, lc, lm, z1, z2, z3, z4, z5⟩ := l
  obtain ⟨N, R, T, o, -⟩ := id lc.1
  have fin : ∀ h' e' (s6 s7 s8 : eV), (s6 = vJ ∨ ∃ x, s6 = vI x) → CI h' w c U b r k1 k2 W I L f → MI h' w c U b r k1 k2 W I L f → e' ≤ e + 1 → eP X m_L_law 1545 [vR 1000, vR 1, vR 577, vR 588, vR 589, vI (i : Int), s6, s7, s8] [] (eNT, e', ewP, h') Q := fun h' e' s6 s7 s8 hs l1 l2 he => H h' e' s6 s7 s8 hs ⟨w, c, U, b, r, k1, k2, W, I, L, f, l1, l2, ctB_le (by omega) z1, fun j hj => ctB_le (by omega) (z2 j hj), fun hb => ctB_le (by omega) (z3 hb), z4, z5⟩ he
  have g1 := sx1 (i := i) X hi hX
  have g2 := sx2 (i := i) X hi hX
  have g3 := sx3 (i := i) X hi hX
  refine bk_L_law_604 X 1000 1 577 588 589 i j7 j8 eNT e ewP h Q ?_
  simp only [g1, g2, g3, true_and, and_true, ite_true]
  refine wl_thingOf lc.1 ?_
  unfold gL
  split
  next q =>
    simp only [g1, g2, g3, true_and, and_true, mk577, ite_true]
    refine mg_thingOf (by rw [up_ne (by omega)]; exact lm.1) o ?_
    unfold gM
    rw [q, if_pos rfl]
    dsimp only
    rw [if_pos mk577, m_thrown, up_eq, if_pos rfl]
    try rw [if_pos rfl]
    rw [if_pos ⟨ok588, by decide, by rw [on588]; decide⟩, show (0 : Int).toNat = 0 from rfl, up_ne (show 588 ≠ 577 by decide), up_eq, if_pos (by rw [if_pos rfl])]
    exact fin _ e _ _ _ (Or.inr ⟨_, rfl⟩) (CI_f (fun z hz => by rw [up_ne (by omega), up_ne (by omega)]) lc) (MI_0 (MI_c (fun z h2 h3 => up_ne h3) lm)) (by omega)
  next q =>
    split
    next q2 =>
      simp only [g1, g2, g3, true_and, and_true, mk577, ite_true]
      refine mg_thingOf lm.1 o ?_
      unfold gM
      rw [if_neg q, q2]
      dsimp only
      rw [if_pos mk577, m_thrown, up_eq, if_pos rfl]
      try rw [if_neg (by decide)]
      exact fin _ (e + 1) _ _ _ (Or.inr ⟨_, rfl⟩) (CI_f (fun z hz => by rw [up_ne (by omega)]) lc) (MI_0 lm) (by omega)
    next q2 =>
      have q3 : (gT w (X.2 (wr ((i : Int) + 1)).toNat) (X.2 (wr ((i : Int) + 2)).toNat) (X.2 (wr ((i : Int) + 3)).toNat)).1 = 2 := by
        rcases gT_k (w := w) (x := X.2 (wr ((i : Int) + 1)).toNat) (t := X.2 (wr ((i : Int) + 2)).toNat) (y := X.2 (wr ((i : Int) + 3)).toNat) with z | z | z
        · exact absurd z q
        · exact absurd z q2
        · exact z
      simp only [g1, g2, g3, true_and, and_true, mk577, ite_true]
      refine mg_thingOf lm.1 o ?_
      unfold gM
      rw [if_neg q, q3]
      dsimp only
      rw [if_pos mk577, m_thrown, up_eq, if_pos rfl]
      try rw [if_neg (by decide)]
      exact fin _ (e + 1) _ _ _ (Or.inr ⟨_, rfl⟩) (CI_f (fun z hz => by rw [up_ne (by omega)]) lc) (MI_0 lm) (by omega)
theorem ar_thingOfb (hi : i + 4 ≤ X.1) (hX : X.1 ≤ 2048) (l : SI h t) (H : NX X Q i t e) (j6 : Int) (j7 j8 : eV) : eP X m_L_law 604 [vR 1000, vR 1, vR 577, vR 588, vR 589, vI (i : Int), vI j6, j7, j8] [] (eNT, e, ewP, h) Q := by
  obtain ⟨w, c, U, b, r, k1, k2, W, I, L, f, lc, lm, z1, z2, z3, z4, z5⟩ := l
  obtain ⟨N, R, T, o, -⟩ := id lc.1
  have fin : ∀ h' e' (s6 s7 s8 : eV), (s6 = vJ ∨ ∃ x, s6 = vI x) → CI h' w c U b r k1 k2 W I L f → MI h' w c U b r k1 k2 W I L f → e' ≤ e + 1 → eP X m_L_law 1545 [vR 1000, vR 1, vR 577, vR 588, vR 589, vI (i : Int), s6, s7, s8] [] (eNT, e', ewP, h') Q := fun h' e' s6 s7 s8 hs l1 l2 he => H h' e' s6 s7 s8 hs ⟨w, c, U, b, r, k1, k2, W, I, L, f, l1, l2, ctB_le (by omega) z1, fun j hj => ctB_le (by omega) (z2 j hj), fun hb => ctB_le (by omega) (z3 hb), z4, z5⟩ he
  have g1 := sx1 (i := i) X hi hX
  have g2 := sx2 (i := i) X hi hX
  have g3 := sx3 (i := i) X hi hX
  refine bk_L_law_604b X 1000 1 577 588 589 i j6 j7 j8 eNT e ewP h Q ?_
  simp only [g1, g2, g3, true_and, and_true, ite_true]
  refine wl_thingOf lc.1 ?_
  unfold gL
  split
  next q =>
    simp only [g1, g2, g3, true_and, and_true, mk577, ite_true]
    refine mg_thingOf (by rw [up_ne (by omega)]; exact lm.1) o ?_
    unfold gM
    rw [q, if_pos rfl]
    dsimp only
    rw [if_pos mk577, m_thrown, up_eq, if_pos rfl]
    try rw [if_pos rfl]
    rw [if_pos ⟨ok588, by decide, by rw [on588]; decide⟩, show (0 : Int).toNat = 0 from rfl, up_ne (show 588 ≠ 577 by decide), up_eq, if_pos (by rw [if_pos rfl])]
    exact fin _ e _ _ _ (Or.inr ⟨_, rfl⟩) (CI_f (fun z hz => by rw [up_ne (by omega), up_ne (by omega)]) lc) (MI_0 (MI_c (fun z h2 h3 => up_ne h3) lm)) (by omega)
  next q =>
    split
    next q2 =>
      simp only [g1, g2, g3, true_and, and_true, mk577, ite_true]
      refine mg_thingOf lm.1 o ?_
      unfold gM
      rw [if_neg q, q2]
      dsimp only
      rw [if_pos mk577, m_thrown, up_eq, if_pos rfl]
      try rw [if_neg (by decide)]
      exact fin _ (e + 1) _ _ _ (Or.inr ⟨_, rfl⟩) (CI_f (fun z hz => by rw [up_ne (by omega)]) lc) (MI_0 lm) (by omega)
    next q2 =>
      have q3 : (gT w (X.2 (wr ((i : Int) + 1)).toNat) (X.2 (wr ((i : Int) + 2)).toNat) (X.2 (wr ((i : Int) + 3)).toNat)).1 = 2 := by
        rcases gT_k (w := w) (x := X.2 (wr ((i : Int) + 1)).toNat) (t := X.2 (wr ((i : Int) + 2)).toNat) (y := X.2 (wr ((i : Int) + 3)).toNat) with z | z | z
        · exact absurd z q
        · exact absurd z q2
        · exact z
      simp only [g1, g2, g3, true_and, and_true, mk577, ite_true]
      refine mg_thingOf lm.1 o ?_
      unfold gM
      rw [if_neg q, q3]
      dsimp only
      rw [if_pos mk577, m_thrown, up_eq, if_pos rfl]
      try rw [if_neg (by decide)]
      exact fin _ (e + 1) _ _ _ (Or.inr ⟨_, rfl⟩) (CI_f (fun z hz => by rw [up_ne (by omega)]) lc) (MI_0 lm) (by omega)
theorem wl_ropeOf {a1 a2 : Int} (l : wR h 2 w) {KI KX} (H : gL (gR w a1 a2) e h KI) : eCi X m_L_ropeOf [vR 1, vI a1, vI a2, vR 588] eNT e ewP h KI KX := by
  refine bk_L_ropeOf_0 X 1 a1 a2 588 eNT e ewP h _ ?_
  rw [if_pos ck1]
  refine cg_ropeOf l ?_
  unfold gL at H
  unfold gC
  split
  next q =>
    rw [if_pos q] at H
    show if kn ewK eNT 588 = 23 ∧ 0 ≤ (0 : Int) ∧ 0 < (ewL 588 : Int) then _ else _
    rw [if_pos ⟨ok588, by decide, by rw [on588]; decide⟩]
    exact H
  next q =>
    rw [if_neg q] at H
    split
    next q2 =>
      rw [if_pos q2] at H
      refine eBk_h (t := 10) (k := 4) (by decide +kernel) ?_
      exact bk_L_ropeOf_10 X 1 a1 a2 588 _ eNT (e + 1) ewP h _ H
    next q2 =>
      rw [if_neg q2] at H
      refine eBk_h (t := 13) (k := 4) (by decide +kernel) ?_
      exact bk_L_ropeOf_13 X 1 a1 a2 588 _ eNT (e + 1) ewP h _ H
theorem ar_ropeOf (hi : i + 4 ≤ X.1) (hX : X.1 ≤ 2048) (l : SI h t) (H : NX X Q i t e) (j7 j8 : eV) : eP X m_L_law 659 [vR 1000, vR 1, vR 577, vR 588, vR 589, vI (i : Int), vJ, j7, j8] [] (eNT, e, ewP, h) Q := by
  obtain ⟨w, c, U, b, r, k1, k2, W, I, L, f, lc, lm, z1, z2, z3, z4, z5⟩ := l
  obtain ⟨N, R, T, o, -⟩ := id lc.1
  have fin : ∀ h' e' (s6 s7 s8 : eV), (s6 = vJ ∨ ∃ x, s6 = vI x) → CI h' w c U b r k1 k2 W I L f → MI h' w c U b r k1 k2 W I L f → e' ≤ e + 1 → eP X m_L_law 1545 [vR 1000, vR 1, vR 577, vR 588, vR 589, vI (i : Int), s6, s7, s8] [] (eNT, e', ewP, h') Q := fun h' e' s6 s7 s8 hs l1 l2 he => H h' e' s6 s7 s8 hs ⟨w, c, U, b, r, k1, k2, W, I, L, f, l1, l2, ctB_le (by omega) z1, fun j hj => ctB_le (by omega) (z2 j hj), fun hb => ctB_le (by omega) (z3 hb), z4, z5⟩ he
  have g1 := sx1 (i := i) X hi hX
  have g2 := sx2 (i := i) X hi hX
  have g3 := sx3 (i := i) X hi hX
  refine bk_L_law_659 X 1000 1 577 588 589 i j7 j8 eNT e ewP h Q ?_
  simp only [g1, g2, g3, true_and, and_true, ite_true]
  refine wl_ropeOf lc.1 ?_
  unfold gL
  split
  next q =>
    simp only [g1, g2, g3, true_and, and_true, mk577, ite_true]
    refine mg_ropeOf (by rw [up_ne (by omega)]; exact lm.1) o ?_
    unfold gM
    rw [q, if_pos rfl]
    dsimp only
    rw [if_pos mk577, m_thrown, up_eq, if_pos rfl]
    try rw [if_pos rfl]
    rw [if_pos ⟨ok588, by decide, by rw [on588]; decide⟩, show (0 : Int).toNat = 0 from rfl, up_ne (show 588 ≠ 577 by decide), up_eq, if_pos (by rw [if_pos rfl])]
    exact fin _ e _ _ _ (Or.inr ⟨_, rfl⟩) (CI_f (fun z hz => by rw [up_ne (by omega), up_ne (by omega)]) lc) (MI_0 (MI_c (fun z h2 h3 => up_ne h3) lm)) (by omega)
  next q =>
    split
    next q2 =>
      simp only [g1, g2, g3, true_and, and_true, mk577, ite_true]
      refine mg_ropeOf lm.1 o ?_
      unfold gM
      rw [if_neg q, q2]
      dsimp only
      rw [if_pos mk577, m_thrown, up_eq, if_pos rfl]
      try rw [if_neg (by decide)]
      exact fin _ (e + 1) _ _ _ (Or.inr ⟨_, rfl⟩) (CI_f (fun z hz => by rw [up_ne (by omega)]) lc) (MI_0 lm) (by omega)
    next q2 =>
      have q3 : (gR w (X.2 (wr ((i : Int) + 1)).toNat) (X.2 (wr ((i : Int) + 2)).toNat)).1 = 2 := by
        rcases gR_k (w := w) (x := X.2 (wr ((i : Int) + 1)).toNat) (y := X.2 (wr ((i : Int) + 2)).toNat) with z | z | z
        · exact absurd z q
        · exact absurd z q2
        · exact z
      simp only [g1, g2, g3, true_and, and_true, mk577, ite_true]
      refine mg_ropeOf lm.1 o ?_
      unfold gM
      rw [if_neg q, q3]
      dsimp only
      rw [if_pos mk577, m_thrown, up_eq, if_pos rfl]
      try rw [if_neg (by decide)]
      exact fin _ (e + 1) _ _ _ (Or.inr ⟨_, rfl⟩) (CI_f (fun z hz => by rw [up_ne (by omega)]) lc) (MI_0 lm) (by omega)
theorem ar_ropeOfb (hi : i + 4 ≤ X.1) (hX : X.1 ≤ 2048) (l : SI h t) (H : NX X Q i t e) (j6 : Int) (j7 j8 : eV) : eP X m_L_law 659 [vR 1000, vR 1, vR 577, vR 588, vR 589, vI (i : Int), vI j6, j7, j8] [] (eNT, e, ewP, h) Q := by
  obtain ⟨w, c, U, b, r, k1, k2, W, I, L, f, lc, lm, z1, z2, z3, z4, z5⟩ := l
  obtain ⟨N, R, T, o, -⟩ := id lc.1
  have fin : ∀ h' e' (s6 s7 s8 : eV), (s6 = vJ ∨ ∃ x, s6 = vI x) → CI h' w c U b r k1 k2 W I L f → MI h' w c U b r k1 k2 W I L f → e' ≤ e + 1 → eP X m_L_law 1545 [vR 1000, vR 1, vR 577, vR 588, vR 589, vI (i : Int), s6, s7, s8] [] (eNT, e', ewP, h') Q := fun h' e' s6 s7 s8 hs l1 l2 he => H h' e' s6 s7 s8 hs ⟨w, c, U, b, r, k1, k2, W, I, L, f, l1, l2, ctB_le (by omega) z1, fun j hj => ctB_le (by omega) (z2 j hj), fun hb => ctB_le (by omega) (z3 hb), z4, z5⟩ he
  have g1 := sx1 (i := i) X hi hX
  have g2 := sx2 (i := i) X hi hX
  have g3 := sx3 (i := i) X hi hX
  refine bk_L_law_659b X 1000 1 577 588 589 i j6 j7 j8 eNT e ewP h Q ?_
  simp only [g1, g2, g3, true_and, and_true, ite_true]
  refine wl_ropeOf lc.1 ?_
  unfold gL
  split
  next q =>
    simp only [g1, g2, g3, true_and, and_true, mk577, ite_true]
    refine mg_ropeOf (by rw [up_ne (by omega)]; exact lm.1) o ?_
    unfold gM
    rw [q, if_pos rfl]
    dsimp only
    rw [if_pos mk577, m_thrown, up_eq, if_pos rfl]
    try rw [if_pos rfl]
    rw [if_pos ⟨ok588, by decide, by rw [on588]; decide⟩, show (0 : Int).toNat = 0 from rfl, up_ne (show 588 ≠ 577 by decide), up_eq, if_pos (by rw [if_pos rfl])]
    exact fin _ e _ _ _ (Or.inr ⟨_, rfl⟩) (CI_f (fun z hz => by rw [up_ne (by omega), up_ne (by omega)]) lc) (MI_0 (MI_c (fun z h2 h3 => up_ne h3) lm)) (by omega)
  next q =>
    split
    next q2 =>
      simp only [g1, g2, g3, true_and, and_true, mk577, ite_true]
      refine mg_ropeOf lm.1 o ?_
      unfold gM
      rw [if_neg q, q2]
      dsimp only
      rw [if_pos mk577, m_thrown, up_eq, if_pos rfl]
      try rw [if_neg (by decide)]
      exact fin _ (e + 1) _ _ _ (Or.inr ⟨_, rfl⟩) (CI_f (fun z hz => by rw [up_ne (by omega)]) lc) (MI_0 lm) (by omega)
    next q2 =>
      have q3 : (gR w (X.2 (wr ((i : Int) + 1)).toNat) (X.2 (wr ((i : Int) + 2)).toNat)).1 = 2 := by
        rcases gR_k (w := w) (x := X.2 (wr ((i : Int) + 1)).toNat) (y := X.2 (wr ((i : Int) + 2)).toNat) with z | z | z
        · exact absurd z q
        · exact absurd z q2
        · exact z
      simp only [g1, g2, g3, true_and, and_true, mk577, ite_true]
      refine mg_ropeOf lm.1 o ?_
      unfold gM
      rw [if_neg q, q3]
      dsimp only
      rw [if_pos mk577, m_thrown, up_eq, if_pos rfl]
      try rw [if_neg (by decide)]
      exact fin _ (e + 1) _ _ _ (Or.inr ⟨_, rfl⟩) (CI_f (fun z hz => by rw [up_ne (by omega)]) lc) (MI_0 lm) (by omega)
theorem wl_bookOf {a1 a2 : Int} (l : wR h 2 w) {KI KX} (H : gL (gB w a1 a2) e h KI) : eCi X m_L_bookOf [vR 1, vI a1, vI a2, vR 588] eNT e ewP h KI KX := by
  refine bk_L_bookOf_0 X 1 a1 a2 588 eNT e ewP h _ ?_
  rw [if_pos ck1]
  refine cg_bookOf l ?_
  unfold gL at H
  unfold gC
  split
  next q =>
    rw [if_pos q] at H
    show if kn ewK eNT 588 = 23 ∧ 0 ≤ (0 : Int) ∧ 0 < (ewL 588 : Int) then _ else _
    rw [if_pos ⟨ok588, by decide, by rw [on588]; decide⟩]
    exact H
  next q =>
    rw [if_neg q] at H
    split
    next q2 =>
      rw [if_pos q2] at H
      refine eBk_h (t := 10) (k := 4) (by decide +kernel) ?_
      exact bk_L_bookOf_10 X 1 a1 a2 588 _ eNT (e + 1) ewP h _ H
    next q2 =>
      rw [if_neg q2] at H
      refine eBk_h (t := 13) (k := 4) (by decide +kernel) ?_
      exact bk_L_bookOf_13 X 1 a1 a2 588 _ eNT (e + 1) ewP h _ H
theorem ar_bookOf (hi : i + 4 ≤ X.1) (hX : X.1 ≤ 2048) (l : SI h t) (H : NX X Q i t e) (j7 j8 : eV) : eP X m_L_law 704 [vR 1000, vR 1, vR 577, vR 588, vR 589, vI (i : Int), vJ, j7, j8] [] (eNT, e, ewP, h) Q := by
  obtain ⟨w, c, U, b, r, k1, k2, W, I, L, f, lc, lm, z1, z2, z3, z4, z5⟩ := l
  obtain ⟨N, R, T, o, -⟩ := id lc.1
  have fin : ∀ h' e' (s6 s7 s8 : eV), (s6 = vJ ∨ ∃ x, s6 = vI x) → CI h' w c U b r k1 k2 W I L f → MI h' w c U b r k1 k2 W I L f → e' ≤ e + 1 → eP X m_L_law 1545 [vR 1000, vR 1, vR 577, vR 588, vR 589, vI (i : Int), s6, s7, s8] [] (eNT, e', ewP, h') Q := fun h' e' s6 s7 s8 hs l1 l2 he => H h' e' s6 s7 s8 hs ⟨w, c, U, b, r, k1, k2, W, I, L, f, l1, l2, ctB_le (by omega) z1, fun j hj => ctB_le (by omega) (z2 j hj), fun hb => ctB_le (by omega) (z3 hb), z4, z5⟩ he
  have g1 := sx1 (i := i) X hi hX
  have g2 := sx2 (i := i) X hi hX
  have g3 := sx3 (i := i) X hi hX
  refine bk_L_law_704 X 1000 1 577 588 589 i j7 j8 eNT e ewP h Q ?_
  simp only [g1, g2, g3, true_and, and_true, ite_true]
  refine wl_bookOf lc.1 ?_
  unfold gL
  split
  next q =>
    simp only [g1, g2, g3, true_and, and_true, mk577, ite_true]
    refine mg_bookOf (by rw [up_ne (by omega)]; exact lm.1) o ?_
    unfold gM
    rw [q, if_pos rfl]
    dsimp only
    rw [if_pos mk577, m_thrown, up_eq, if_pos rfl]
    try rw [if_pos rfl]
    rw [if_pos ⟨ok588, by decide, by rw [on588]; decide⟩, show (0 : Int).toNat = 0 from rfl, up_ne (show 588 ≠ 577 by decide), up_eq, if_pos (by rw [if_pos rfl])]
    exact fin _ e _ _ _ (Or.inr ⟨_, rfl⟩) (CI_f (fun z hz => by rw [up_ne (by omega), up_ne (by omega)]) lc) (MI_0 (MI_c (fun z h2 h3 => up_ne h3) lm)) (by omega)
  next q =>
    split
    next q2 =>
      simp only [g1, g2, g3, true_and, and_true, mk577, ite_true]
      refine mg_bookOf lm.1 o ?_
      unfold gM
      rw [if_neg q, q2]
      dsimp only
      rw [if_pos mk577, m_thrown, up_eq, if_pos rfl]
      try rw [if_neg (by decide)]
      exact fin _ (e + 1) _ _ _ (Or.inr ⟨_, rfl⟩) (CI_f (fun z hz => by rw [up_ne (by omega)]) lc) (MI_0 lm) (by omega)
    next q2 =>
      have q3 : (gB w (X.2 (wr ((i : Int) + 1)).toNat) (X.2 (wr ((i : Int) + 2)).toNat)).1 = 2 := by
        rcases gB_k (w := w) (x := X.2 (wr ((i : Int) + 1)).toNat) (y := X.2 (wr ((i : Int) + 2)).toNat) with z | z | z
        · exact absurd z q
        · exact absurd z q2
        · exact z
      simp only [g1, g2, g3, true_and, and_true, mk577, ite_true]
      refine mg_bookOf lm.1 o ?_
      unfold gM
      rw [if_neg q, q3]
      dsimp only
      rw [if_pos mk577, m_thrown, up_eq, if_pos rfl]
      try rw [if_neg (by decide)]
      exact fin _ (e + 1) _ _ _ (Or.inr ⟨_, rfl⟩) (CI_f (fun z hz => by rw [up_ne (by omega)]) lc) (MI_0 lm) (by omega)
theorem ar_bookOfb (hi : i + 4 ≤ X.1) (hX : X.1 ≤ 2048) (l : SI h t) (H : NX X Q i t e) (j6 : Int) (j7 j8 : eV) : eP X m_L_law 704 [vR 1000, vR 1, vR 577, vR 588, vR 589, vI (i : Int), vI j6, j7, j8] [] (eNT, e, ewP, h) Q := by
  obtain ⟨w, c, U, b, r, k1, k2, W, I, L, f, lc, lm, z1, z2, z3, z4, z5⟩ := l
  obtain ⟨N, R, T, o, -⟩ := id lc.1
  have fin : ∀ h' e' (s6 s7 s8 : eV), (s6 = vJ ∨ ∃ x, s6 = vI x) → CI h' w c U b r k1 k2 W I L f → MI h' w c U b r k1 k2 W I L f → e' ≤ e + 1 → eP X m_L_law 1545 [vR 1000, vR 1, vR 577, vR 588, vR 589, vI (i : Int), s6, s7, s8] [] (eNT, e', ewP, h') Q := fun h' e' s6 s7 s8 hs l1 l2 he => H h' e' s6 s7 s8 hs ⟨w, c, U, b, r, k1, k2, W, I, L, f, l1, l2, ctB_le (by omega) z1, fun j hj => ctB_le (by omega) (z2 j hj), fun hb => ctB_le (by omega) (z3 hb), z4, z5⟩ he
  have g1 := sx1 (i := i) X hi hX
  have g2 := sx2 (i := i) X hi hX
  have g3 := sx3 (i := i) X hi hX
  refine bk_L_law_704b X 1000 1 577 588 589 i j6 j7 j8 eNT e ewP h Q ?_
  simp only [g1, g2, g3, true_and, and_true, ite_true]
  refine wl_bookOf lc.1 ?_
  unfold gL
  split
  next q =>
    simp only [g1, g2, g3, true_and, and_true, mk577, ite_true]
    refine mg_bookOf (by rw [up_ne (by omega)]; exact lm.1) o ?_
    unfold gM
    rw [q, if_pos rfl]
    dsimp only
    rw [if_pos mk577, m_thrown, up_eq, if_pos rfl]
    try rw [if_pos rfl]
    rw [if_pos ⟨ok588, by decide, by rw [on588]; decide⟩, show (0 : Int).toNat = 0 from rfl, up_ne (show 588 ≠ 577 by decide), up_eq, if_pos (by rw [if_pos rfl])]
    exact fin _ e _ _ _ (Or.inr ⟨_, rfl⟩) (CI_f (fun z hz => by rw [up_ne (by omega), up_ne (by omega)]) lc) (MI_0 (MI_c (fun z h2 h3 => up_ne h3) lm)) (by omega)
  next q =>
    split
    next q2 =>
      simp only [g1, g2, g3, true_and, and_true, mk577, ite_true]
      refine mg_bookOf lm.1 o ?_
      unfold gM
      rw [if_neg q, q2]
      dsimp only
      rw [if_pos mk577, m_thrown, up_eq, if_pos rfl]
      try rw [if_neg (by decide)]
      exact fin _ (e + 1) _ _ _ (Or.inr ⟨_, rfl⟩) (CI_f (fun z hz => by rw [up_ne (by omega)]) lc) (MI_0 lm) (by omega)
    next q2 =>
      have q3 : (gB w (X.2 (wr ((i : Int) + 1)).toNat) (X.2 (wr ((i : Int) + 2)).toNat)).1 = 2 := by
        rcases gB_k (w := w) (x := X.2 (wr ((i : Int) + 1)).toNat) (y := X.2 (wr ((i : Int) + 2)).toNat) with z | z | z
        · exact absurd z q
        · exact absurd z q2
        · exact z
      simp only [g1, g2, g3, true_and, and_true, mk577, ite_true]
      refine mg_bookOf lm.1 o ?_
      unfold gM
      rw [if_neg q, q3]
      dsimp only
      rw [if_pos mk577, m_thrown, up_eq, if_pos rfl]
      try rw [if_neg (by decide)]
      exact fin _ (e + 1) _ _ _ (Or.inr ⟨_, rfl⟩) (CI_f (fun z hz => by rw [up_ne (by omega)]) lc) (MI_0 lm) (by omega)
theorem wl_timeAgain {a1 : Int} (l : wR h 2 w) {KI KX} (H : gL (gTi w a1) e h KI) : eCi X m_L_timeAgain [vR 1, vI a1, vR 588] eNT e ewP h KI KX := by
  refine bk_L_timeAgain_0 X 1 a1 588 eNT e ewP h _ ?_
  rw [if_pos ck1]
  refine cg_timeAgain l ?_
  unfold gL at H
  unfold gC
  split
  next q =>
    rw [if_pos q] at H
    show if kn ewK eNT 588 = 23 ∧ 0 ≤ (0 : Int) ∧ 0 < (ewL 588 : Int) then _ else _
    rw [if_pos ⟨ok588, by decide, by rw [on588]; decide⟩]
    exact H
  next q =>
    rw [if_neg q] at H
    split
    next q2 =>
      rw [if_pos q2] at H
      refine eBk_h (t := 9) (k := 3) (by decide +kernel) ?_
      exact bk_L_timeAgain_9 X 1 a1 588 _ eNT (e + 1) ewP h _ H
    next q2 =>
      rw [if_neg q2] at H
      exfalso
      unfold gTi at q q2
      split at q <;> simp_all
theorem ar_timeAgain (hi : i + 4 ≤ X.1) (hX : X.1 ≤ 2048) (l : SI h t) (H : NX X Q i t e) (j7 j8 : eV) : eP X m_L_law 784 [vR 1000, vR 1, vR 577, vR 588, vR 589, vI (i : Int), vJ, j7, j8] [] (eNT, e, ewP, h) Q := by
  obtain ⟨w, c, U, b, r, k1, k2, W, I, L, f, lc, lm, z1, z2, z3, z4, z5⟩ := l
  obtain ⟨N, R, T, o, -⟩ := id lc.1
  have fin : ∀ h' e' (s6 s7 s8 : eV), (s6 = vJ ∨ ∃ x, s6 = vI x) → CI h' w c U b r k1 k2 W I L f → MI h' w c U b r k1 k2 W I L f → e' ≤ e + 1 → eP X m_L_law 1545 [vR 1000, vR 1, vR 577, vR 588, vR 589, vI (i : Int), s6, s7, s8] [] (eNT, e', ewP, h') Q := fun h' e' s6 s7 s8 hs l1 l2 he => H h' e' s6 s7 s8 hs ⟨w, c, U, b, r, k1, k2, W, I, L, f, l1, l2, ctB_le (by omega) z1, fun j hj => ctB_le (by omega) (z2 j hj), fun hb => ctB_le (by omega) (z3 hb), z4, z5⟩ he
  have g1 := sx1 (i := i) X hi hX
  have g2 := sx2 (i := i) X hi hX
  have g3 := sx3 (i := i) X hi hX
  refine bk_L_law_784 X 1000 1 577 588 589 i j7 j8 eNT e ewP h Q ?_
  simp only [g1, g2, g3, true_and, and_true, ite_true]
  refine wl_timeAgain lc.1 ?_
  unfold gL
  split
  next q =>
    simp only [g1, g2, g3, true_and, and_true, mk577, ite_true]
    refine mg_timeAgain (by rw [up_ne (by omega)]; exact lm.1) o ?_
    unfold gM
    rw [q, if_pos rfl]
    dsimp only
    rw [if_pos mk577, m_thrown, up_eq, if_pos rfl]
    try rw [if_pos rfl]
    rw [if_pos ⟨ok588, by decide, by rw [on588]; decide⟩, show (0 : Int).toNat = 0 from rfl, up_ne (show 588 ≠ 577 by decide), up_eq, if_pos (by rw [if_pos rfl])]
    exact fin _ e _ _ _ (Or.inr ⟨_, rfl⟩) (CI_f (fun z hz => by rw [up_ne (by omega), up_ne (by omega)]) lc) (MI_0 (MI_c (fun z h2 h3 => up_ne h3) lm)) (by omega)
  next q =>
    split
    next q2 =>
      simp only [g1, g2, g3, true_and, and_true, mk577, ite_true]
      refine mg_timeAgain lm.1 o ?_
      unfold gM
      rw [if_neg q, q2]
      dsimp only
      rw [if_pos mk577, m_thrown, up_eq, if_pos rfl]
      try rw [if_neg (by decide)]
      exact fin _ (e + 1) _ _ _ (Or.inr ⟨_, rfl⟩) (CI_f (fun z hz => by rw [up_ne (by omega)]) lc) (MI_0 lm) (by omega)
    next q2 =>
      have q3 : (gTi w (X.2 (wr ((i : Int) + 1)).toNat)).1 = 2 := by
        rcases gTi_k (w := w) (x := X.2 (wr ((i : Int) + 1)).toNat) with z | z | z
        · exact absurd z q
        · exact absurd z q2
        · exact z
      simp only [g1, g2, g3, true_and, and_true, mk577, ite_true]
      refine mg_timeAgain lm.1 o ?_
      unfold gM
      rw [if_neg q, q3]
      dsimp only
      rw [if_pos mk577, m_thrown, up_eq, if_pos rfl]
      try rw [if_neg (by decide)]
      exact fin _ (e + 1) _ _ _ (Or.inr ⟨_, rfl⟩) (CI_f (fun z hz => by rw [up_ne (by omega)]) lc) (MI_0 lm) (by omega)
theorem ar_timeAgainb (hi : i + 4 ≤ X.1) (hX : X.1 ≤ 2048) (l : SI h t) (H : NX X Q i t e) (j6 : Int) (j7 j8 : eV) : eP X m_L_law 784 [vR 1000, vR 1, vR 577, vR 588, vR 589, vI (i : Int), vI j6, j7, j8] [] (eNT, e, ewP, h) Q := by
  obtain ⟨w, c, U, b, r, k1, k2, W, I, L, f, lc, lm, z1, z2, z3, z4, z5⟩ := l
  obtain ⟨N, R, T, o, -⟩ := id lc.1
  have fin : ∀ h' e' (s6 s7 s8 : eV), (s6 = vJ ∨ ∃ x, s6 = vI x) → CI h' w c U b r k1 k2 W I L f → MI h' w c U b r k1 k2 W I L f → e' ≤ e + 1 → eP X m_L_law 1545 [vR 1000, vR 1, vR 577, vR 588, vR 589, vI (i : Int), s6, s7, s8] [] (eNT, e', ewP, h') Q := fun h' e' s6 s7 s8 hs l1 l2 he => H h' e' s6 s7 s8 hs ⟨w, c, U, b, r, k1, k2, W, I, L, f, l1, l2, ctB_le (by omega) z1, fun j hj => ctB_le (by omega) (z2 j hj), fun hb => ctB_le (by omega) (z3 hb), z4, z5⟩ he
  have g1 := sx1 (i := i) X hi hX
  have g2 := sx2 (i := i) X hi hX
  have g3 := sx3 (i := i) X hi hX
  refine bk_L_law_784b X 1000 1 577 588 589 i j6 j7 j8 eNT e ewP h Q ?_
  simp only [g1, g2, g3, true_and, and_true, ite_true]
  refine wl_timeAgain lc.1 ?_
  unfold gL
  split
  next q =>
    simp only [g1, g2, g3, true_and, and_true, mk577, ite_true]
    refine mg_timeAgain (by rw [up_ne (by omega)]; exact lm.1) o ?_
    unfold gM
    rw [q, if_pos rfl]
    dsimp only
    rw [if_pos mk577, m_thrown, up_eq, if_pos rfl]
    try rw [if_pos rfl]
    rw [if_pos ⟨ok588, by decide, by rw [on588]; decide⟩, show (0 : Int).toNat = 0 from rfl, up_ne (show 588 ≠ 577 by decide), up_eq, if_pos (by rw [if_pos rfl])]
    exact fin _ e _ _ _ (Or.inr ⟨_, rfl⟩) (CI_f (fun z hz => by rw [up_ne (by omega), up_ne (by omega)]) lc) (MI_0 (MI_c (fun z h2 h3 => up_ne h3) lm)) (by omega)
  next q =>
    split
    next q2 =>
      simp only [g1, g2, g3, true_and, and_true, mk577, ite_true]
      refine mg_timeAgain lm.1 o ?_
      unfold gM
      rw [if_neg q, q2]
      dsimp only
      rw [if_pos mk577, m_thrown, up_eq, if_pos rfl]
      try rw [if_neg (by decide)]
      exact fin _ (e + 1) _ _ _ (Or.inr ⟨_, rfl⟩) (CI_f (fun z hz => by rw [up_ne (by omega)]) lc) (MI_0 lm) (by omega)
    next q2 =>
      have q3 : (gTi w (X.2 (wr ((i : Int) + 1)).toNat)).1 = 2 := by
        rcases gTi_k (w := w) (x := X.2 (wr ((i : Int) + 1)).toNat) with z | z | z
        · exact absurd z q
        · exact absurd z q2
        · exact z
      simp only [g1, g2, g3, true_and, and_true, mk577, ite_true]
      refine mg_timeAgain lm.1 o ?_
      unfold gM
      rw [if_neg q, q3]
      dsimp only
      rw [if_pos mk577, m_thrown, up_eq, if_pos rfl]
      try rw [if_neg (by decide)]
      exact fin _ (e + 1) _ _ _ (Or.inr ⟨_, rfl⟩) (CI_f (fun z hz => by rw [up_ne (by omega)]) lc) (MI_0 lm) (by omega)
end
