/-! arm: ranked -/
section
variable {X : eX} {e : Nat} {h : Nat → Nat → Int} {w : Nat → Int} {c : Nat} {U : Nat → Nat → Int} {b : Bool} {r : Nat → Int} {k1 k2 : Int × Int} {W I L : List Int} {f : Int}
theorem wl_ranked {a1 a2 : Int} (l : CI h w c U b r k1 k2 W I L f) {KI KX} (H : ∀ h', (∀ z, 577 ≤ z → h' z = h z) → CI h' w c U b r k1 k2 W I L f → gL (gRk w a1 a2) e h' KI) : eCi X m_L_ranked [vR 1, vI a1, vI a2, vR 588] eNT e ewP h KI KX := by
  refine bk_L_ranked_0 X 1 a1 a2 588 eNT e ewP h _ ?_
  rw [if_pos ck1]
  refine cg_ranked l (fun h' f1 l1 => ?_)
  have H := H h' f1 l1
  unfold gL at H
  unfold gC
  split
  next q =>
    rw [if_pos q] at H
    show if kn ewK eNT 588 = 23 ∧ 0 ≤ (0 : Int) ∧ 0 < (ewL 588 : Int) then _ else _
    rw [if_pos ⟨ok588, by decide, by rw [on588]; decide⟩]
    exact H
  next q =>
    rw [if_neg q] at H
    split
    next q2 =>
      rw [if_pos q2] at H
      refine eBk_h (t := 10) (k := 4) (by decide +kernel) ?_
      exact bk_L_ranked_10 X 1 a1 a2 588 _ eNT (e + 1) ewP h' _ H
    next q2 =>
      rw [if_neg q2] at H
      refine eBk_h (t := 13) (k := 4) (by decide +kernel) ?_
      exact bk_L_ranked_13 X 1 a1 a2 588 _ eNT (e + 1) ewP h' _ H
end
section
variable {X : eX} {e i t : Nat} {h : Nat → Nat → Int} {Q : eO → eM → Prop}
theorem ar_ranked (hi : i + 4 ≤ X.1) (hX : X.1 ≤ 2048) (l : SI h t) (H : NX X Q i t e) (j7 j8 : eV) : eP X m_L_law 1122 [vR 1000, vR 1, vR 577, vR 588, vR 589, vI (i : Int), vJ, j7, j8] [] (eNT, e, ewP, h) Q := by
  obtain ⟨w, c, U, b, r, k1, k2, W, I, L, f, lc, lm, z1, z2, z3, z4, z5⟩ := l
  obtain ⟨N, R, T, o, -⟩ := id lc.1
  have fin : ∀ h' e' (s6 s7 s8 : eV), (s6 = vJ ∨ ∃ x, s6 = vI x) → CI h' w c U b r k1 k2 W I L f → MI h' w c U b r k1 k2 W I L f → e' ≤ e + 1 → eP X m_L_law 1545 [vR 1000, vR 1, vR 577, vR 588, vR 589, vI (i : Int), s6, s7, s8] [] (eNT, e', ewP, h') Q := fun h' e' s6 s7 s8 hs l1 l2 he => H h' e' s6 s7 s8 hs ⟨w, c, U, b, r, k1, k2, W, I, L, f, l1, l2, ctB_le (by omega) z1, fun j hj => ctB_le (by omega) (z2 j hj), fun hb => ctB_le (by omega) (z3 hb), z4, z5⟩ he
  have g1 := sx1 (i := i) X hi hX
  have g2 := sx2 (i := i) X hi hX
  have g3 := sx3 (i := i) X hi hX
  refine bk_L_law_1122 X 1000 1 577 588 589 i j7 j8 eNT e ewP h Q ?_
  simp only [g1, g2, g3, true_and, and_true, ite_true]
  refine wl_ranked lc (fun h1 f1 l1 => ?_)
  unfold gL
  by_cases q : (gRk w (X.2 (wr ((i : Int) + 1)).toNat) (X.2 (wr ((i : Int) + 2)).toNat)).1 = 0
  · rw [if_pos q]
    simp only [g1, g2, g3, true_and, and_true, mk577, ite_true]
    refine mg_ranked o (MI_c (fun z h2 h3 => by rw [up_ne h3]; exact f1 z h2) lm) (fun h2 f2 l2 t2 => ?_)
    rw [q] at t2
    rw [q, if_pos rfl, if_pos mk577, m_thrown, t2, if_pos rfl]
    try rw [if_pos rfl]
    rw [if_pos ⟨ok588, by decide, by rw [on588]; decide⟩, show (0 : Int).toNat = 0 from rfl, f2 588 (Or.inr (by omega)), up_eq, if_pos (by rw [if_pos rfl])]
    exact fin h2 e _ _ _ (Or.inr ⟨_, rfl⟩) (CI_f (fun z hz => by rw [f2 z (Or.inl hz), up_ne (by omega)]) l1) l2 (by omega)
  · rw [if_neg q]
    by_cases q2 : (gRk w (X.2 (wr ((i : Int) + 1)).toNat) (X.2 (wr ((i : Int) + 2)).toNat)).1 = 1
    · rw [if_pos q2]
      simp only [g1, g2, g3, true_and, and_true, mk577, ite_true]
      refine mg_ranked o (MI_c (fun z h2 h3 => f1 z h2) lm) (fun h2 f2 l2 t2 => ?_)
      rw [q2] at t2
      rw [if_neg q, if_pos mk577, m_thrown, t2, if_pos rfl]
      try rw [if_neg (by decide)]
      exact fin h2 (e + 1) _ _ _ (Or.inr ⟨_, rfl⟩) (CI_f (fun z hz => f2 z (Or.inl hz)) l1) l2 (by omega)
    · rw [if_neg q2]
      have q3 : (gRk w (X.2 (wr ((i : Int) + 1)).toNat) (X.2 (wr ((i : Int) + 2)).toNat)).1 = 2 := by
        rcases gRk_k (w := w) (y := X.2 (wr ((i : Int) + 1)).toNat) (x := X.2 (wr ((i : Int) + 2)).toNat) with z | z | z
        · exact absurd z q
        · exact absurd z q2
        · exact z
      simp only [g1, g2, g3, true_and, and_true, mk577, ite_true]
      refine mg_ranked o (MI_c (fun z h2 h3 => f1 z h2) lm) (fun h2 f2 l2 t2 => ?_)
      rw [q3] at t2
      rw [if_neg q, if_pos mk577, m_thrown, t2, if_pos rfl]
      try rw [if_neg (by decide)]
      exact fin h2 (e + 1) _ _ _ (Or.inr ⟨_, rfl⟩) (CI_f (fun z hz => f2 z (Or.inl hz)) l1) l2 (by omega)
theorem ar_rankedb (hi : i + 4 ≤ X.1) (hX : X.1 ≤ 2048) (l : SI h t) (H : NX X Q i t e) (j6 : Int) (j7 j8 : eV) : eP X m_L_law 1122 [vR 1000, vR 1, vR 577, vR 588, vR 589, vI (i : Int), vI j6, j7, j8] [] (eNT, e, ewP, h) Q := by
  obtain ⟨w, c, U, b, r, k1, k2, W, I, L, f, lc, lm, z1, z2, z3, z4, z5⟩ := l
  obtain ⟨N, R, T, o, -⟩ := id lc.1
  have fin : ∀ h' e' (s6 s7 s8 : eV), (s6 = vJ ∨ ∃ x, s6 = vI x) → CI h' w c U b r k1 k2 W I L f → MI h' w c U b r k1 k2 W I L f → e' ≤ e + 1 → eP X m_L_law 1545 [vR 1000, vR 1, vR 577, vR 588, vR 589, vI (i : Int), s6, s7, s8] [] (eNT, e', ewP, h') Q := fun h' e' s6 s7 s8 hs l1 l2 he => H h' e' s6 s7 s8 hs ⟨w, c, U, b, r, k1, k2, W, I, L, f, l1, l2, ctB_le (by omega) z1, fun j hj => ctB_le (by omega) (z2 j hj), fun hb => ctB_le (by omega) (z3 hb), z4, z5⟩ he
  have g1 := sx1 (i := i) X hi hX
  have g2 := sx2 (i := i) X hi hX
  have g3 := sx3 (i := i) X hi hX
  refine bk_L_law_1122b X 1000 1 577 588 589 i j6 j7 j8 eNT e ewP h Q ?_
  simp only [g1, g2, g3, true_and, and_true, ite_true]
  refine wl_ranked lc (fun h1 f1 l1 => ?_)
  unfold gL
  by_cases q : (gRk w (X.2 (wr ((i : Int) + 1)).toNat) (X.2 (wr ((i : Int) + 2)).toNat)).1 = 0
  · rw [if_pos q]
    simp only [g1, g2, g3, true_and, and_true, mk577, ite_true]
    refine mg_ranked o (MI_c (fun z h2 h3 => by rw [up_ne h3]; exact f1 z h2) lm) (fun h2 f2 l2 t2 => ?_)
    rw [q] at t2
    rw [q, if_pos rfl, if_pos mk577, m_thrown, t2, if_pos rfl]
    try rw [if_pos rfl]
    rw [if_pos ⟨ok588, by decide, by rw [on588]; decide⟩, show (0 : Int).toNat = 0 from rfl, f2 588 (Or.inr (by omega)), up_eq, if_pos (by rw [if_pos rfl])]
    exact fin h2 e _ _ _ (Or.inr ⟨_, rfl⟩) (CI_f (fun z hz => by rw [f2 z (Or.inl hz), up_ne (by omega)]) l1) l2 (by omega)
  · rw [if_neg q]
    by_cases q2 : (gRk w (X.2 (wr ((i : Int) + 1)).toNat) (X.2 (wr ((i : Int) + 2)).toNat)).1 = 1
    · rw [if_pos q2]
      simp only [g1, g2, g3, true_and, and_true, mk577, ite_true]
      refine mg_ranked o (MI_c (fun z h2 h3 => f1 z h2) lm) (fun h2 f2 l2 t2 => ?_)
      rw [q2] at t2
      rw [if_neg q, if_pos mk577, m_thrown, t2, if_pos rfl]
      try rw [if_neg (by decide)]
      exact fin h2 (e + 1) _ _ _ (Or.inr ⟨_, rfl⟩) (CI_f (fun z hz => f2 z (Or.inl hz)) l1) l2 (by omega)
    · rw [if_neg q2]
      have q3 : (gRk w (X.2 (wr ((i : Int) + 1)).toNat) (X.2 (wr ((i : Int) + 2)).toNat)).1 = 2 := by
        rcases gRk_k (w := w) (y := X.2 (wr ((i : Int) + 1)).toNat) (x := X.2 (wr ((i : Int) + 2)).toNat) with z | z | z
        · exact absurd z q
        · exact absurd z q2
        · exact z
      simp only [g1, g2, g3, true_and, and_true, mk577, ite_true]
      refine mg_ranked o (MI_c (fun z h2 h3 => f1 z h2) lm) (fun h2 f2 l2 t2 => ?_)
      rw [q3] at t2
      rw [if_neg q, if_pos mk577, m_thrown, t2, if_pos rfl]
      try rw [if_neg (by decide)]
      exact fin h2 (e + 1) _ _ _ (Or.inr ⟨_, rfl⟩) (CI_f (fun z hz => f2 z (Or.inl hz)) l1) l2 (by omega)

end
