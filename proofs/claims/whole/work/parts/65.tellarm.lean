/-! arm: tellWell -/
section
variable {X : eX} {e i t : Nat} {h : Nat → Nat → Int} {Q : eO → eM → Prop}
theorem ar_tellWell (hi : i + 4 ≤ X.1) (hX : X.1 ≤ 2048) (l : SI h t) (H : NX X Q i t e) (j7 j8 : eV) : eP X m_L_law 1310 [vR 1000, vR 1, vR 577, vR 588, vR 589, vI (i : Int), vJ, j7, j8] [] (eNT, e, ewP, h) Q := by
  obtain ⟨w, c, U, b, r, k1, k2, W, I, L, f, lc, lm, z1, z2, z3, z4, z5⟩ := l
  obtain ⟨N, R, T, o, -⟩ := id lc.1
  have g1 := sx1 (i := i) X hi hX
  refine bk_L_law_1310 X 1000 1 577 588 589 i j7 j8 eNT e ewP h Q ?_
  simp only [g1, true_and, and_true, ite_true]
  generalize X.2 (wr ((i : Int) + 1)).toNat = x
  refine bk_L_tellWell_0 X 1 x 588 eNT e ewP h _ ?_
  rw [if_pos ck1]
  refine c_tellWell lc (fun q => ?_) (fun q h1 f1 l1 => ?_)
  · refine eBk_h (t := 9) (k := 3) (by decide +kernel) ?_
    refine bk_L_tellWell_9 X 1 x 588 _ eNT (e + 1) ewP h _ ?_
    simp only [g1, true_and, and_true, mk577, ite_true]
    refine m_tellWell o lm (fun _ => ?_) (fun q' => absurd q' q)
    rw [if_pos mk577, m_thrown, up_eq, if_pos rfl]
    try rw [if_neg (by decide)]
    exact H _ (e + 1) _ _ _ (Or.inr ⟨_, rfl⟩) ⟨w, c, U, b, r, k1, k2, W, I, L, f, CI_f (fun z hz => by rw [up_ne (by omega)]) lc, MI_0 lm, ctB_le (by omega) z1, fun j hj => ctB_le (by omega) (z2 j hj), fun hb => ctB_le (by omega) (z3 hb), z4, z5⟩ (by omega)
  · show if kn ewK eNT 588 = 23 ∧ 0 ≤ (0 : Int) ∧ 0 < (ewL 588 : Int) then _ else _
    rw [if_pos ⟨ok588, by decide, by rw [on588]; decide⟩]
    simp only [g1, true_and, and_true, mk577, ite_true]
    refine m_tellWell o (MI_c (fun z h2 h3 => by rw [up_ne h3]; exact f1 z h2) lm) (fun q' => absurd q q') (fun _ h2 f2 t2 l2 => ?_)
    rw [if_pos mk577, m_thrown, t2, if_pos rfl]
    try rw [if_pos rfl]
    rw [if_pos ⟨ok588, by decide, by rw [on588]; decide⟩, show (0 : Int).toNat = 0 from rfl, f2 588 (Or.inr (by omega)), o588, if_pos (by rw [if_pos rfl])]
    exact H h2 e _ _ _ (Or.inr ⟨_, rfl⟩) ⟨w, c, U, b, r, k1, k2, W, I, _, f, CI_f (fun z hz => by rw [f2 z (Or.inl hz), up_ne (by omega)]) l1, l2, ctB_le (by omega) z1, fun j hj => ctB_le (by omega) (z2 j hj), fun hb => ctB_le (by omega) (z3 hb), z4, z5⟩ (by omega)
theorem ar_tellWellb (hi : i + 4 ≤ X.1) (hX : X.1 ≤ 2048) (l : SI h t) (H : NX X Q i t e) (j6 : Int) (j7 j8 : eV) : eP X m_L_law 1310 [vR 1000, vR 1, vR 577, vR 588, vR 589, vI (i : Int), vI j6, j7, j8] [] (eNT, e, ewP, h) Q := by
  obtain ⟨w, c, U, b, r, k1, k2, W, I, L, f, lc, lm, z1, z2, z3, z4, z5⟩ := l
  obtain ⟨N, R, T, o, -⟩ := id lc.1
  have g1 := sx1 (i := i) X hi hX
  refine bk_L_law_1310b X 1000 1 577 588 589 i j6 j7 j8 eNT e ewP h Q ?_
  simp only [g1, true_and, and_true, ite_true]
  generalize X.2 (wr ((i : Int) + 1)).toNat = x
  refine bk_L_tellWell_0 X 1 x 588 eNT e ewP h _ ?_
  rw [if_pos ck1]
  refine c_tellWell lc (fun q => ?_) (fun q h1 f1 l1 => ?_)
  · refine eBk_h (t := 9) (k := 3) (by decide +kernel) ?_
    refine bk_L_tellWell_9 X 1 x 588 _ eNT (e + 1) ewP h _ ?_
    simp only [g1, true_and, and_true, mk577, ite_true]
    refine m_tellWell o lm (fun _ => ?_) (fun q' => absurd q' q)
    rw [if_pos mk577, m_thrown, up_eq, if_pos rfl]
    try rw [if_neg (by decide)]
    exact H _ (e + 1) _ _ _ (Or.inr ⟨_, rfl⟩) ⟨w, c, U, b, r, k1, k2, W, I, L, f, CI_f (fun z hz => by rw [up_ne (by omega)]) lc, MI_0 lm, ctB_le (by omega) z1, fun j hj => ctB_le (by omega) (z2 j hj), fun hb => ctB_le (by omega) (z3 hb), z4, z5⟩ (by omega)
  · show if kn ewK eNT 588 = 23 ∧ 0 ≤ (0 : Int) ∧ 0 < (ewL 588 : Int) then _ else _
    rw [if_pos ⟨ok588, by decide, by rw [on588]; decide⟩]
    simp only [g1, true_and, and_true, mk577, ite_true]
    refine m_tellWell o (MI_c (fun z h2 h3 => by rw [up_ne h3]; exact f1 z h2) lm) (fun q' => absurd q q') (fun _ h2 f2 t2 l2 => ?_)
    rw [if_pos mk577, m_thrown, t2, if_pos rfl]
    try rw [if_pos rfl]
    rw [if_pos ⟨ok588, by decide, by rw [on588]; decide⟩, show (0 : Int).toNat = 0 from rfl, f2 588 (Or.inr (by omega)), o588, if_pos (by rw [if_pos rfl])]
    exact H h2 e _ _ _ (Or.inr ⟨_, rfl⟩) ⟨w, c, U, b, r, k1, k2, W, I, _, f, CI_f (fun z hz => by rw [f2 z (Or.inl hz), up_ne (by omega)]) l1, l2, ctB_le (by omega) z1, fun j hj => ctB_le (by omega) (z2 j hj), fun hb => ctB_le (by omega) (z3 hb), z4, z5⟩ (by omega)
end
