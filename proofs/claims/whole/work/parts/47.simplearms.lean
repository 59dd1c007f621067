/-! arms for letters, signs, undoing, saving -/
theorem o588 {h : Nat → Nat → Int} {v : Int} : up h 588 (0 : Int).toNat v 588 0 = v := up_eq
section
variable {X : eX} {e i t : Nat} {h : Nat → Nat → Int} {Q : eO → eM → Prop}
theorem ar_letter (hi : i + 4 ≤ X.1) (hX : X.1 ≤ 2048) (l : SI h t) (H : NX X Q i t e) (j7 j8 : eV) : eP X m_L_law 487 [vR 1000, vR 1, vR 577, vR 588, vR 589, vI (i : Int), vJ, j7, j8] [] (eNT, e, ewP, h) Q := by
  obtain ⟨w, c, U, b, r, k1, k2, W, I, L, f, lc, lm, z1, z2, z3, z4, z5⟩ := l
  have g1 := sx1 (i := i) X hi hX
  refine bk_L_law_487 X 1000 1 577 588 589 i j7 j8 eNT e ewP h Q ?_
  simp only [g1, true_and, and_true, ite_true]
  have hx : 0 ≤ X.2 (wr ((i : Int) + 1)).toNat % 65536 ∧ X.2 (wr ((i : Int) + 1)).toNat % 65536 < 65536 := ⟨Int.emod_nonneg _ (by decide), Int.emod_lt_of_pos _ (by decide)⟩
  generalize X.2 (wr ((i : Int) + 1)).toNat % 65536 = x at hx ⊢
  refine bk_L_letter_0 X 1 x 588 eNT e ewP h _ ?_
  rw [if_pos ck1]
  refine c_letter lc hx (fun q => ?_) (fun q q2 => ?_) (fun q q2 h1 f1 l1 => ?_)
  · refine eBk_h (t := 9) (k := 3) (by decide +kernel) ?_
    refine bk_L_letter_9 X 1 x 588 _ eNT (e + 1) ewP h _ ?_
    simp only [g1, true_and, and_true, mk577, ite_true]
    refine m_letter lm (fun _ => ?_) (fun q' _ => absurd q' q) (fun q' _ _ _ _ _ => absurd q' q)
    rw [if_pos mk577, m_thrown, up_eq, if_pos rfl]
    try rw [if_neg (by decide)]
    exact H _ (e + 1) _ _ _ (Or.inr ⟨_, rfl⟩) ⟨w, c, U, b, r, k1, k2, W, I, L, f, CI_f (fun z hz => by rw [up_ne (by omega)]) lc, MI_0 lm, ctB_le (by omega) z1, fun j hj => ctB_le (by omega) (z2 j hj), fun hb => ctB_le (by omega) (z3 hb), z4, z5⟩ (by omega)
  · refine eBk_h (t := 12) (k := 3) (by decide +kernel) ?_
    refine bk_L_letter_12 X 1 x 588 _ eNT (e + 1) ewP h _ ?_
    simp only [g1, true_and, and_true, mk577, ite_true]
    refine m_letter lm (fun q' => absurd q q') (fun _ _ => ?_) (fun _ q3 => by omega)
    rw [if_pos mk577, m_thrown, up_eq, if_pos rfl]
    try rw [if_neg (by decide)]
    exact H _ (e + 1) _ _ _ (Or.inr ⟨_, rfl⟩) ⟨w, c, U, b, r, k1, k2, W, I, L, f, CI_f (fun z hz => by rw [up_ne (by omega)]) lc, MI_0 lm, ctB_le (by omega) z1, fun j hj => ctB_le (by omega) (z2 j hj), fun hb => ctB_le (by omega) (z3 hb), z4, z5⟩ (by omega)
  · show if kn ewK eNT 588 = 23 ∧ 0 ≤ (0 : Int) ∧ 0 < (ewL 588 : Int) then _ else _
    rw [if_pos ⟨ok588, by decide, by rw [on588]; decide⟩]
    simp only [g1, true_and, and_true, mk577, ite_true]
    refine m_letter (MI_c (fun z h2 h3 => by rw [up_ne h3]; exact f1 z h2) lm) (fun q' => absurd q q') (fun _ q3 => by omega) (fun _ _ h2 f2 t2 l2 => ?_)
    rw [if_pos mk577, m_thrown, t2, if_pos rfl]
    try rw [if_pos rfl]
    rw [if_pos ⟨ok588, by decide, by rw [on588]; decide⟩, show (0 : Int).toNat = 0 from rfl, f2 588 (Or.inr (by omega)), o588, if_pos (by rw [if_pos rfl])]
    exact H h2 e _ _ _ (Or.inr ⟨_, rfl⟩) ⟨w, c, U, b, r, k1, k2, W ++ [x], I, L, f, CI_f (fun z hz => by rw [f2 z (Or.inl hz), up_ne (by omega)]) l1, l2, ctB_le (by omega) z1, fun j hj => ctB_le (by omega) (z2 j hj), fun hb => ctB_le (by omega) (z3 hb), z4, z5⟩ (by omega)
theorem ar_letterb (hi : i + 4 ≤ X.1) (hX : X.1 ≤ 2048) (l : SI h t) (H : NX X Q i t e) (j6 : Int) (j7 j8 : eV) : eP X m_L_law 487 [vR 1000, vR 1, vR 577, vR 588, vR 589, vI (i : Int), vI j6, j7, j8] [] (eNT, e, ewP, h) Q := by
  obtain ⟨w, c, U, b, r, k1, k2, W, I, L, f, lc, lm, z1, z2, z3, z4, z5⟩ := l
  have g1 := sx1 (i := i) X hi hX
  refine bk_L_law_487b X 1000 1 577 588 589 i j6 j7 j8 eNT e ewP h Q ?_
  simp only [g1, true_and, and_true, ite_true]
  have hx : 0 ≤ X.2 (wr ((i : Int) + 1)).toNat % 65536 ∧ X.2 (wr ((i : Int) + 1)).toNat % 65536 < 65536 := ⟨Int.emod_nonneg _ (by decide), Int.emod_lt_of_pos _ (by decide)⟩
  generalize X.2 (wr ((i : Int) + 1)).toNat % 65536 = x at hx ⊢
  refine bk_L_letter_0 X 1 x 588 eNT e ewP h _ ?_
  rw [if_pos ck1]
  refine c_letter lc hx (fun q => ?_) (fun q q2 => ?_) (fun q q2 h1 f1 l1 => ?_)
  · refine eBk_h (t := 9) (k := 3) (by decide +kernel) ?_
    refine bk_L_letter_9 X 1 x 588 _ eNT (e + 1) ewP h _ ?_
    simp only [g1, true_and, and_true, mk577, ite_true]
    refine m_letter lm (fun _ => ?_) (fun q' _ => absurd q' q) (fun q' _ _ _ _ _ => absurd q' q)
    rw [if_pos mk577, m_thrown, up_eq, if_pos rfl]
    try rw [if_neg (by decide)]
    exact H _ (e + 1) _ _ _ (Or.inr ⟨_, rfl⟩) ⟨w, c, U, b, r, k1, k2, W, I, L, f, CI_f (fun z hz => by rw [up_ne (by omega)]) lc, MI_0 lm, ctB_le (by omega) z1, fun j hj => ctB_le (by omega) (z2 j hj), fun hb => ctB_le (by omega) (z3 hb), z4, z5⟩ (by omega)
  · refine eBk_h (t := 12) (k := 3) (by decide +kernel) ?_
    refine bk_L_letter_12 X 1 x 588 _ eNT (e + 1) ewP h _ ?_
    simp only [g1, true_and, and_true, mk577, ite_true]
    refine m_letter lm (fun q' => absurd q q') (fun _ _ => ?_) (fun _ q3 => by omega)
    rw [if_pos mk577, m_thrown, up_eq, if_pos rfl]
    try rw [if_neg (by decide)]
    exact H _ (e + 1) _ _ _ (Or.inr ⟨_, rfl⟩) ⟨w, c, U, b, r, k1, k2, W, I, L, f, CI_f (fun z hz => by rw [up_ne (by omega)]) lc, MI_0 lm, ctB_le (by omega) z1, fun j hj => ctB_le (by omega) (z2 j hj), fun hb => ctB_le (by omega) (z3 hb), z4, z5⟩ (by omega)
  · show if kn ewK eNT 588 = 23 ∧ 0 ≤ (0 : Int) ∧ 0 < (ewL 588 : Int) then _ else _
    rw [if_pos ⟨ok588, by decide, by rw [on588]; decide⟩]
    simp only [g1, true_and, and_true, mk577, ite_true]
    refine m_letter (MI_c (fun z h2 h3 => by rw [up_ne h3]; exact f1 z h2) lm) (fun q' => absurd q q') (fun _ q3 => by omega) (fun _ _ h2 f2 t2 l2 => ?_)
    rw [if_pos mk577, m_thrown, t2, if_pos rfl]
    try rw [if_pos rfl]
    rw [if_pos ⟨ok588, by decide, by rw [on588]; decide⟩, show (0 : Int).toNat = 0 from rfl, f2 588 (Or.inr (by omega)), o588, if_pos (by rw [if_pos rfl])]
    exact H h2 e _ _ _ (Or.inr ⟨_, rfl⟩) ⟨w, c, U, b, r, k1, k2, W ++ [x], I, L, f, CI_f (fun z hz => by rw [f2 z (Or.inl hz), up_ne (by omega)]) l1, l2, ctB_le (by omega) z1, fun j hj => ctB_le (by omega) (z2 j hj), fun hb => ctB_le (by omega) (z3 hb), z4, z5⟩ (by omega)
theorem ar_append (hi : i + 4 ≤ X.1) (hX : X.1 ≤ 2048) (l : SI h t) (H : NX X Q i t e) (j7 j8 : eV) : eP X m_L_law 1174 [vR 1000, vR 1, vR 577, vR 588, vR 589, vI (i : Int), vJ, j7, j8] [] (eNT, e, ewP, h) Q := by
  obtain ⟨w, c, U, b, r, k1, k2, W, I, L, f, lc, lm, z1, z2, z3, z4, z5⟩ := l
  have g1 := sx1 (i := i) X hi hX
  refine bk_L_law_1174 X 1000 1 577 588 589 i j7 j8 eNT e ewP h Q ?_
  simp only [g1, true_and, and_true, ite_true]
  have hx : 0 ≤ X.2 (wr ((i : Int) + 1)).toNat % 65536 ∧ X.2 (wr ((i : Int) + 1)).toNat % 65536 < 65536 := ⟨Int.emod_nonneg _ (by decide), Int.emod_lt_of_pos _ (by decide)⟩
  generalize X.2 (wr ((i : Int) + 1)).toNat % 65536 = x at hx ⊢
  refine bk_L_append_0 X 1 x 588 eNT e ewP h _ ?_
  rw [if_pos ck1]
  refine c_append lc (fun q => ?_) (fun q q2 => ?_) (fun q q2 h1 f1 l1 => ?_)
  · refine eBk_h (t := 9) (k := 3) (by decide +kernel) ?_
    refine bk_L_append_9 X 1 x 588 _ eNT (e + 1) ewP h _ ?_
    simp only [g1, true_and, and_true, mk577, ite_true]
    refine m_append lm (fun _ => ?_) (fun q' _ => absurd q' q) (fun q' _ _ _ _ _ => absurd q' q)
    rw [if_pos mk577, m_thrown, up_eq, if_pos rfl]
    try rw [if_neg (by decide)]
    exact H _ (e + 1) _ _ _ (Or.inr ⟨_, rfl⟩) ⟨w, c, U, b, r, k1, k2, W, I, L, f, CI_f (fun z hz => by rw [up_ne (by omega)]) lc, MI_0 lm, ctB_le (by omega) z1, fun j hj => ctB_le (by omega) (z2 j hj), fun hb => ctB_le (by omega) (z3 hb), z4, z5⟩ (by omega)
  · refine eBk_h (t := 12) (k := 3) (by decide +kernel) ?_
    refine bk_L_append_12 X 1 x 588 _ eNT (e + 1) ewP h _ ?_
    simp only [g1, true_and, and_true, mk577, ite_true]
    refine m_append lm (fun q' => absurd q q') (fun _ _ => ?_) (fun _ q3 => by omega)
    rw [if_pos mk577, m_thrown, up_eq, if_pos rfl]
    try rw [if_neg (by decide)]
    exact H _ (e + 1) _ _ _ (Or.inr ⟨_, rfl⟩) ⟨w, c, U, b, r, k1, k2, W, I, L, f, CI_f (fun z hz => by rw [up_ne (by omega)]) lc, MI_0 lm, ctB_le (by omega) z1, fun j hj => ctB_le (by omega) (z2 j hj), fun hb => ctB_le (by omega) (z3 hb), z4, z5⟩ (by omega)
  · show if kn ewK eNT 588 = 23 ∧ 0 ≤ (0 : Int) ∧ 0 < (ewL 588 : Int) then _ else _
    rw [if_pos ⟨ok588, by decide, by rw [on588]; decide⟩]
    simp only [g1, true_and, and_true, mk577, ite_true]
    refine m_append (MI_c (fun z h2 h3 => by rw [up_ne h3]; exact f1 z h2) lm) (fun q' => absurd q q') (fun _ q3 => by omega) (fun _ _ h2 f2 t2 l2 => ?_)
    rw [if_pos mk577, m_thrown, t2, if_pos rfl]
    try rw [if_pos rfl]
    rw [if_pos ⟨ok588, by decide, by rw [on588]; decide⟩, show (0 : Int).toNat = 0 from rfl, f2 588 (Or.inr (by omega)), o588, if_pos (by rw [if_pos rfl])]
    exact H h2 e _ _ _ (Or.inr ⟨_, rfl⟩) ⟨w, c, U, b, r, k1, k2, W, I ++ [x], L, f, CI_f (fun z hz => by rw [f2 z (Or.inl hz), up_ne (by omega)]) l1, l2, ctB_le (by omega) z1, fun j hj => ctB_le (by omega) (z2 j hj), fun hb => ctB_le (by omega) (z3 hb), fun y hy => by
          rcases List.mem_append.mp hy with hy | hy
          · exact z4 y hy
          · rw [List.mem_singleton.mp hy]; exact q, z5⟩ (by omega)
theorem ar_appendb (hi : i + 4 ≤ X.1) (hX : X.1 ≤ 2048) (l : SI h t) (H : NX X Q i t e) (j6 : Int) (j7 j8 : eV) : eP X m_L_law 1174 [vR 1000, vR 1, vR 577, vR 588, vR 589, vI (i : Int), vI j6, j7, j8] [] (eNT, e, ewP, h) Q := by
  obtain ⟨w, c, U, b, r, k1, k2, W, I, L, f, lc, lm, z1, z2, z3, z4, z5⟩ := l
  have g1 := sx1 (i := i) X hi hX
  refine bk_L_law_1174b X 1000 1 577 588 589 i j6 j7 j8 eNT e ewP h Q ?_
  simp only [g1, true_and, and_true, ite_true]
  have hx : 0 ≤ X.2 (wr ((i : Int) + 1)).toNat % 65536 ∧ X.2 (wr ((i : Int) + 1)).toNat % 65536 < 65536 := ⟨Int.emod_nonneg _ (by decide), Int.emod_lt_of_pos _ (by decide)⟩
  generalize X.2 (wr ((i : Int) + 1)).toNat % 65536 = x at hx ⊢
  refine bk_L_append_0 X 1 x 588 eNT e ewP h _ ?_
  rw [if_pos ck1]
  refine c_append lc (fun q => ?_) (fun q q2 => ?_) (fun q q2 h1 f1 l1 => ?_)
  · refine eBk_h (t := 9) (k := 3) (by decide +kernel) ?_
    refine bk_L_append_9 X 1 x 588 _ eNT (e + 1) ewP h _ ?_
    simp only [g1, true_and, and_true, mk577, ite_true]
    refine m_append lm (fun _ => ?_) (fun q' _ => absurd q' q) (fun q' _ _ _ _ _ => absurd q' q)
    rw [if_pos mk577, m_thrown, up_eq, if_pos rfl]
    try rw [if_neg (by decide)]
    exact H _ (e + 1) _ _ _ (Or.inr ⟨_, rfl⟩) ⟨w, c, U, b, r, k1, k2, W, I, L, f, CI_f (fun z hz => by rw [up_ne (by omega)]) lc, MI_0 lm, ctB_le (by omega) z1, fun j hj => ctB_le (by omega) (z2 j hj), fun hb => ctB_le (by omega) (z3 hb), z4, z5⟩ (by omega)
  · refine eBk_h (t := 12) (k := 3) (by decide +kernel) ?_
    refine bk_L_append_12 X 1 x 588 _ eNT (e + 1) ewP h _ ?_
    simp only [g1, true_and, and_true, mk577, ite_true]
    refine m_append lm (fun q' => absurd q q') (fun _ _ => ?_) (fun _ q3 => by omega)
    rw [if_pos mk577, m_thrown, up_eq, if_pos rfl]
    try rw [if_neg (by decide)]
    exact H _ (e + 1) _ _ _ (Or.inr ⟨_, rfl⟩) ⟨w, c, U, b, r, k1, k2, W, I, L, f, CI_f (fun z hz => by rw [up_ne (by omega)]) lc, MI_0 lm, ctB_le (by omega) z1, fun j hj => ctB_le (by omega) (z2 j hj), fun hb => ctB_le (by omega) (z3 hb), z4, z5⟩ (by omega)
  · show if kn ewK eNT 588 = 23 ∧ 0 ≤ (0 : Int) ∧ 0 < (ewL 588 : Int) then _ else _
    rw [if_pos ⟨ok588, by decide, by rw [on588]; decide⟩]
    simp only [g1, true_and, and_true, mk577, ite_true]
    refine m_append (MI_c (fun z h2 h3 => by rw [up_ne h3]; exact f1 z h2) lm) (fun q' => absurd q q') (fun _ q3 => by omega) (fun _ _ h2 f2 t2 l2 => ?_)
    rw [if_pos mk577, m_thrown, t2, if_pos rfl]
    try rw [if_pos rfl]
    rw [if_pos ⟨ok588, by decide, by rw [on588]; decide⟩, show (0 : Int).toNat = 0 from rfl, f2 588 (Or.inr (by omega)), o588, if_pos (by rw [if_pos rfl])]
    exact H h2 e _ _ _ (Or.inr ⟨_, rfl⟩) ⟨w, c, U, b, r, k1, k2, W, I ++ [x], L, f, CI_f (fun z hz => by rw [f2 z (Or.inl hz), up_ne (by omega)]) l1, l2, ctB_le (by omega) z1, fun j hj => ctB_le (by omega) (z2 j hj), fun hb => ctB_le (by omega) (z3 hb), fun y hy => by
          rcases List.mem_append.mp hy with hy | hy
          · exact z4 y hy
          · rw [List.mem_singleton.mp hy]; exact q, z5⟩ (by omega)
theorem ar_undo (hi : i + 4 ≤ X.1) (hX : X.1 ≤ 2048) (l : SI h t) (H : NX X Q i t e) (j7 j8 : eV) : eP X m_L_law 1488 [vR 1000, vR 1, vR 577, vR 588, vR 589, vI (i : Int), vJ, j7, j8] [] (eNT, e, ewP, h) Q := by
  obtain ⟨w, c, U, b, r, k1, k2, W, I, L, f, lc, lm, z1, z2, z3, z4, z5⟩ := l
  have g1 := sx1 (i := i) X hi hX
  refine bk_L_law_1488 X 1000 1 577 588 589 i j7 j8 eNT e ewP h Q ?_
  refine bk_L_undo_0 X 1 588 eNT e ewP h _ ?_
  rw [if_pos ck1]
  refine c_undo lc (fun q => ?_) (fun q h1 f1 l1 => ?_)
  · refine eBk_h (t := 8) (k := 2) (by decide +kernel) ?_
    refine bk_L_undo_8 X 1 588 _ eNT (e + 1) ewP h _ ?_
    simp only [mk577, ite_true]
    refine m_undo lm (fun _ => ?_) (fun q' => by omega)
    rw [if_pos mk577, m_thrown, up_eq, if_pos rfl]
    try rw [if_neg (by decide)]
    exact H _ (e + 1) _ _ _ (Or.inr ⟨_, rfl⟩) ⟨w, c, U, b, r, k1, k2, W, I, L, f, CI_f (fun z hz => by rw [up_ne (by omega)]) lc, MI_0 lm, ctB_le (by omega) z1, fun j hj => ctB_le (by omega) (z2 j hj), fun hb => ctB_le (by omega) (z3 hb), z4, z5⟩ (by omega)
  · show if kn ewK eNT 588 = 23 ∧ 0 ≤ (0 : Int) ∧ 0 < (ewL 588 : Int) then _ else _
    rw [if_pos ⟨ok588, by decide, by rw [on588]; decide⟩]
    simp only [mk577, ite_true]
    refine m_undo (MI_c (fun z h2 h3 => by rw [up_ne h3]; exact f1 z h2) lm) (fun q' => by omega) (fun _ h2 w' f2 t2 g3 l2 => ?_)
    rw [if_pos mk577, m_thrown, t2, if_pos rfl]
    try rw [if_pos rfl]
    rw [if_pos ⟨ok588, by decide, by rw [on588]; decide⟩, show (0 : Int).toNat = 0 from rfl, f2 588 (Or.inr (by omega)), o588, if_pos (by rw [if_pos rfl])]
    exact H h2 e _ _ _ (Or.inr ⟨_, rfl⟩) ⟨w', c - 1, U, b, r, k1, k2, W, I, L, f, CI_f (fun z hz => by rw [f2 z (Or.inl hz), up_ne (by omega)]) (CI_w l1 (fun k hk => (g3 k hk).symm)), l2, ctB_cg (fun k hk => g3 k (by omega)) (ctB_le (by omega) (z2 (c - 1) (by omega))), fun j hj => ctB_le (by omega) (z2 j (by omega)), fun hb => ctB_le (by omega) (z3 hb), z4, z5⟩ (by omega)
theorem ar_undob (hi : i + 4 ≤ X.1) (hX : X.1 ≤ 2048) (l : SI h t) (H : NX X Q i t e) (j6 : Int) (j7 j8 : eV) : eP X m_L_law 1488 [vR 1000, vR 1, vR 577, vR 588, vR 589, vI (i : Int), vI j6, j7, j8] [] (eNT, e, ewP, h) Q := by
  obtain ⟨w, c, U, b, r, k1, k2, W, I, L, f, lc, lm, z1, z2, z3, z4, z5⟩ := l
  have g1 := sx1 (i := i) X hi hX
  refine bk_L_law_1488b X 1000 1 577 588 589 i j6 j7 j8 eNT e ewP h Q ?_
  refine bk_L_undo_0 X 1 588 eNT e ewP h _ ?_
  rw [if_pos ck1]
  refine c_undo lc (fun q => ?_) (fun q h1 f1 l1 => ?_)
  · refine eBk_h (t := 8) (k := 2) (by decide +kernel) ?_
    refine bk_L_undo_8 X 1 588 _ eNT (e + 1) ewP h _ ?_
    simp only [mk577, ite_true]
    refine m_undo lm (fun _ => ?_) (fun q' => by omega)
    rw [if_pos mk577, m_thrown, up_eq, if_pos rfl]
    try rw [if_neg (by decide)]
    exact H _ (e + 1) _ _ _ (Or.inr ⟨_, rfl⟩) ⟨w, c, U, b, r, k1, k2, W, I, L, f, CI_f (fun z hz => by rw [up_ne (by omega)]) lc, MI_0 lm, ctB_le (by omega) z1, fun j hj => ctB_le (by omega) (z2 j hj), fun hb => ctB_le (by omega) (z3 hb), z4, z5⟩ (by omega)
  · show if kn ewK eNT 588 = 23 ∧ 0 ≤ (0 : Int) ∧ 0 < (ewL 588 : Int) then _ else _
    rw [if_pos ⟨ok588, by decide, by rw [on588]; decide⟩]
    simp only [mk577, ite_true]
    refine m_undo (MI_c (fun z h2 h3 => by rw [up_ne h3]; exact f1 z h2) lm) (fun q' => by omega) (fun _ h2 w' f2 t2 g3 l2 => ?_)
    rw [if_pos mk577, m_thrown, t2, if_pos rfl]
    try rw [if_pos rfl]
    rw [if_pos ⟨ok588, by decide, by rw [on588]; decide⟩, show (0 : Int).toNat = 0 from rfl, f2 588 (Or.inr (by omega)), o588, if_pos (by rw [if_pos rfl])]
    exact H h2 e _ _ _ (Or.inr ⟨_, rfl⟩) ⟨w', c - 1, U, b, r, k1, k2, W, I, L, f, CI_f (fun z hz => by rw [f2 z (Or.inl hz), up_ne (by omega)]) (CI_w l1 (fun k hk => (g3 k hk).symm)), l2, ctB_cg (fun k hk => g3 k (by omega)) (ctB_le (by omega) (z2 (c - 1) (by omega))), fun j hj => ctB_le (by omega) (z2 j (by omega)), fun hb => ctB_le (by omega) (z3 hb), z4, z5⟩ (by omega)
theorem ar_restore (hi : i + 4 ≤ X.1) (hX : X.1 ≤ 2048) (l : SI h t) (H : NX X Q i t e) (j7 j8 : eV) : eP X m_L_law 1520 [vR 1000, vR 1, vR 577, vR 588, vR 589, vI (i : Int), vJ, j7, j8] [] (eNT, e, ewP, h) Q := by
  obtain ⟨w, c, U, b, r, k1, k2, W, I, L, f, lc, lm, z1, z2, z3, z4, z5⟩ := l
  have g1 := sx1 (i := i) X hi hX
  refine bk_L_law_1520 X 1000 1 577 588 589 i j7 j8 eNT e ewP h Q ?_
  refine bk_L_restore_0 X 1 588 eNT e ewP h _ ?_
  rw [if_pos ck1]
  refine c_restore lc (fun q => ?_) (fun q h1 f1 l1 => ?_)
  · refine eBk_h (t := 8) (k := 2) (by decide +kernel) ?_
    refine bk_L_restore_8 X 1 588 _ eNT (e + 1) ewP h _ ?_
    simp only [mk577, ite_true]
    refine m_restore lm (fun _ => ?_) (fun q' => by rw [q] at q'; exact absurd q' (by decide))
    rw [if_pos mk577, m_thrown, up_eq, if_pos rfl]
    try rw [if_neg (by decide)]
    exact H _ (e + 1) _ _ _ (Or.inr ⟨_, rfl⟩) ⟨w, c, U, b, r, k1, k2, W, I, L, f, CI_f (fun z hz => by rw [up_ne (by omega)]) lc, MI_0 lm, ctB_le (by omega) z1, fun j hj => ctB_le (by omega) (z2 j hj), fun hb => ctB_le (by omega) (z3 hb), z4, z5⟩ (by omega)
  · show if kn ewK eNT 588 = 23 ∧ 0 ≤ (0 : Int) ∧ 0 < (ewL 588 : Int) then _ else _
    rw [if_pos ⟨ok588, by decide, by rw [on588]; decide⟩]
    simp only [mk577, ite_true]
    refine m_restore (MI_c (fun z h2 h3 => by rw [up_ne h3]; exact f1 z h2) lm) (fun q' => by rw [q] at q'; exact absurd q' (by decide)) (fun _ h2 w' f2 t2 g3 l2 => ?_)
    rw [if_pos mk577, m_thrown, t2, if_pos rfl]
    try rw [if_pos rfl]
    rw [if_pos ⟨ok588, by decide, by rw [on588]; decide⟩, show (0 : Int).toNat = 0 from rfl, f2 588 (Or.inr (by omega)), o588, if_pos (by rw [if_pos rfl])]
    exact H h2 e _ _ _ (Or.inr ⟨_, rfl⟩) ⟨w', 0, U, b, r, k1, k2, W, I, L, f, CI_f (fun z hz => by rw [f2 z (Or.inl hz), up_ne (by omega)]) (CI_w l1 (fun k hk => (g3 k hk).symm)), l2, ctB_cg (fun k hk => g3 k (by omega)) (ctB_le (by omega) (z3 q)), fun j hj => absurd hj (Nat.not_lt_zero _), fun hb => ctB_le (by omega) (z3 hb), z4, z5⟩ (by omega)
theorem ar_restoreb (hi : i + 4 ≤ X.1) (hX : X.1 ≤ 2048) (l : SI h t) (H : NX X Q i t e) (j6 : Int) (j7 j8 : eV) : eP X m_L_law 1520 [vR 1000, vR 1, vR 577, vR 588, vR 589, vI (i : Int), vI j6, j7, j8] [] (eNT, e, ewP, h) Q := by
  obtain ⟨w, c, U, b, r, k1, k2, W, I, L, f, lc, lm, z1, z2, z3, z4, z5⟩ := l
  have g1 := sx1 (i := i) X hi hX
  refine bk_L_law_1520b X 1000 1 577 588 589 i j6 j7 j8 eNT e ewP h Q ?_
  refine bk_L_restore_0 X 1 588 eNT e ewP h _ ?_
  rw [if_pos ck1]
  refine c_restore lc (fun q => ?_) (fun q h1 f1 l1 => ?_)
  · refine eBk_h (t := 8) (k := 2) (by decide +kernel) ?_
    refine bk_L_restore_8 X 1 588 _ eNT (e + 1) ewP h _ ?_
    simp only [mk577, ite_true]
    refine m_restore lm (fun _ => ?_) (fun q' => by rw [q] at q'; exact absurd q' (by decide))
    rw [if_pos mk577, m_thrown, up_eq, if_pos rfl]
    try rw [if_neg (by decide)]
    exact H _ (e + 1) _ _ _ (Or.inr ⟨_, rfl⟩) ⟨w, c, U, b, r, k1, k2, W, I, L, f, CI_f (fun z hz => by rw [up_ne (by omega)]) lc, MI_0 lm, ctB_le (by omega) z1, fun j hj => ctB_le (by omega) (z2 j hj), fun hb => ctB_le (by omega) (z3 hb), z4, z5⟩ (by omega)
  · show if kn ewK eNT 588 = 23 ∧ 0 ≤ (0 : Int) ∧ 0 < (ewL 588 : Int) then _ else _
    rw [if_pos ⟨ok588, by decide, by rw [on588]; decide⟩]
    simp only [mk577, ite_true]
    refine m_restore (MI_c (fun z h2 h3 => by rw [up_ne h3]; exact f1 z h2) lm) (fun q' => by rw [q] at q'; exact absurd q' (by decide)) (fun _ h2 w' f2 t2 g3 l2 => ?_)
    rw [if_pos mk577, m_thrown, t2, if_pos rfl]
    try rw [if_pos rfl]
    rw [if_pos ⟨ok588, by decide, by rw [on588]; decide⟩, show (0 : Int).toNat = 0 from rfl, f2 588 (Or.inr (by omega)), o588, if_pos (by rw [if_pos rfl])]
    exact H h2 e _ _ _ (Or.inr ⟨_, rfl⟩) ⟨w', 0, U, b, r, k1, k2, W, I, L, f, CI_f (fun z hz => by rw [f2 z (Or.inl hz), up_ne (by omega)]) (CI_w l1 (fun k hk => (g3 k hk).symm)), l2, ctB_cg (fun k hk => g3 k (by omega)) (ctB_le (by omega) (z3 q)), fun j hj => absurd hj (Nat.not_lt_zero _), fun hb => ctB_le (by omega) (z3 hb), z4, z5⟩ (by omega)
theorem ar_save (hi : i + 4 ≤ X.1) (hX : X.1 ≤ 2048) (l : SI h t) (H : NX X Q i t e) (j7 j8 : eV) : eP X m_L_law 1513 [vR 1000, vR 1, vR 577, vR 588, vR 589, vI (i : Int), vJ, j7, j8] [] (eNT, e, ewP, h) Q := by
  obtain ⟨w, c, U, b, r, k1, k2, W, I, L, f, lc, lm, z1, z2, z3, z4, z5⟩ := l
  have g1 := sx1 (i := i) X hi hX
  refine bk_L_law_1513 X 1000 1 577 588 589 i j7 j8 eNT e ewP h Q ?_
  rw [if_pos ck1]
  refine c_save lc (fun h1 f1 l1 => ?_)
  rw [if_pos mk577]
  refine m_save (MI_c (fun z h2 h3 => f1 z h2) lm) (fun h2 f2 l2 => ?_)
  rw [if_pos rfl]
  exact H h2 e _ _ _ (Or.inl rfl) ⟨w, c, U, true, w, k1, k2, W, I, L, f, CI_f (fun z hz => f2 z (Or.inl hz)) l1, l2, ctB_le (by omega) z1, fun j hj => ctB_le (by omega) (z2 j hj), fun hb => ctB_le (by omega) z1, z4, z5⟩ (by omega)
theorem ar_saveb (hi : i + 4 ≤ X.1) (hX : X.1 ≤ 2048) (l : SI h t) (H : NX X Q i t e) (j6 : Int) (j7 j8 : eV) : eP X m_L_law 1513 [vR 1000, vR 1, vR 577, vR 588, vR 589, vI (i : Int), vI j6, j7, j8] [] (eNT, e, ewP, h) Q := by
  obtain ⟨w, c, U, b, r, k1, k2, W, I, L, f, lc, lm, z1, z2, z3, z4, z5⟩ := l
  have g1 := sx1 (i := i) X hi hX
  refine bk_L_law_1513b X 1000 1 577 588 589 i j6 j7 j8 eNT e ewP h Q ?_
  rw [if_pos ck1]
  refine c_save lc (fun h1 f1 l1 => ?_)
  rw [if_pos mk577]
  refine m_save (MI_c (fun z h2 h3 => f1 z h2) lm) (fun h2 f2 l2 => ?_)
  rw [if_pos rfl]
  exact H h2 e _ _ _ (Or.inr ⟨_, rfl⟩) ⟨w, c, U, true, w, k1, k2, W, I, L, f, CI_f (fun z hz => f2 z (Or.inl hz)) l1, l2, ctB_le (by omega) z1, fun j hj => ctB_le (by omega) (z2 j hj), fun hb => ctB_le (by omega) z1, z4, z5⟩ (by omega)
end
