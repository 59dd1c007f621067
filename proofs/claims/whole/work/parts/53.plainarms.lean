/-! arms without refusals -/
section
variable {X : eX} {e i t : Nat} {h : Nat → Nat → Int} {Q : eO → eM → Prop}
theorem ar_vowels (l : SI h t) (H : NX X Q i t e) (j7 j8 : eV) : eP X m_L_law 1080 [vR 1000, vR 1, vR 577, vR 588, vR 589, vI (i : Int), vJ, j7, j8] [] (eNT, e, ewP, h) Q := by
  obtain ⟨w, c, U, b, r, k1, k2, W, I, L, f, lc, lm, z1, z2, z3, z4, z5⟩ := l
  obtain ⟨N, R, T, o, -⟩ := id lc.1
  refine bk_L_law_1080 X 1000 1 577 588 589 i j7 j8 eNT e ewP h Q ?_
  rw [if_pos ck1]
  rw [c_vowels lc, if_pos mk577]
  refine m_vowels lm (fun h2 f2 l2 => ?_)
  rw [if_pos rfl]
  exact H h2 e _ _ _ (Or.inl rfl) ⟨w, c, U, b, r, k1, k2, W, I, L, f, CI_f (fun z hz => f2 z (Or.inl hz)) lc, l2, ctB_le (by omega) z1, fun j hj => ctB_le (by omega) (z2 j hj), fun hb => ctB_le (by omega) (z3 hb), z4, z5⟩ (by omega)
theorem ar_vowelsb (l : SI h t) (H : NX X Q i t e) (j6 : Int) (j7 j8 : eV) : eP X m_L_law 1080 [vR 1000, vR 1, vR 577, vR 588, vR 589, vI (i : Int), vI j6, j7, j8] [] (eNT, e, ewP, h) Q := by
  obtain ⟨w, c, U, b, r, k1, k2, W, I, L, f, lc, lm, z1, z2, z3, z4, z5⟩ := l
  obtain ⟨N, R, T, o, -⟩ := id lc.1
  refine bk_L_law_1080b X 1000 1 577 588 589 i j6 j7 j8 eNT e ewP h Q ?_
  rw [if_pos ck1]
  rw [c_vowels lc, if_pos mk577]
  refine m_vowels lm (fun h2 f2 l2 => ?_)
  rw [if_pos rfl]
  exact H h2 e _ _ _ (Or.inr ⟨_, rfl⟩) ⟨w, c, U, b, r, k1, k2, W, I, L, f, CI_f (fun z hz => f2 z (Or.inl hz)) lc, l2, ctB_le (by omega) z1, fun j hj => ctB_le (by omega) (z2 j hj), fun hb => ctB_le (by omega) (z3 hb), z4, z5⟩ (by omega)
theorem ar_isTold (l : SI h t) (H : NX X Q i t e) (j7 j8 : eV) : eP X m_L_law 1167 [vR 1000, vR 1, vR 577, vR 588, vR 589, vI (i : Int), vJ, j7, j8] [] (eNT, e, ewP, h) Q := by
  obtain ⟨w, c, U, b, r, k1, k2, W, I, L, f, lc, lm, z1, z2, z3, z4, z5⟩ := l
  obtain ⟨N, R, T, o, -⟩ := id lc.1
  refine bk_L_law_1167 X 1000 1 577 588 589 i j7 j8 eNT e ewP h Q ?_
  rw [if_pos ck1]
  refine c_isTold lc (fun h1 f1 l1 => ?_)
  rw [if_pos mk577]
  refine m_isTold o (MI_c (fun z h2 _ => f1 z h2) lm) (fun h2 f2 l2 => ?_)
  rw [if_pos rfl]
  exact H h2 e _ _ _ (Or.inl rfl) ⟨w, c, U, b, r, k1, k2, W, I, L, f, CI_f (fun z hz => f2 z (Or.inl hz)) l1, l2, ctB_le (by omega) z1, fun j hj => ctB_le (by omega) (z2 j hj), fun hb => ctB_le (by omega) (z3 hb), z4, z5⟩ (by omega)
theorem ar_isToldb (l : SI h t) (H : NX X Q i t e) (j6 : Int) (j7 j8 : eV) : eP X m_L_law 1167 [vR 1000, vR 1, vR 577, vR 588, vR 589, vI (i : Int), vI j6, j7, j8] [] (eNT, e, ewP, h) Q := by
  obtain ⟨w, c, U, b, r, k1, k2, W, I, L, f, lc, lm, z1, z2, z3, z4, z5⟩ := l
  obtain ⟨N, R, T, o, -⟩ := id lc.1
  refine bk_L_law_1167b X 1000 1 577 588 589 i j6 j7 j8 eNT e ewP h Q ?_
  rw [if_pos ck1]
  refine c_isTold lc (fun h1 f1 l1 => ?_)
  rw [if_pos mk577]
  refine m_isTold o (MI_c (fun z h2 _ => f1 z h2) lm) (fun h2 f2 l2 => ?_)
  rw [if_pos rfl]
  exact H h2 e _ _ _ (Or.inr ⟨_, rfl⟩) ⟨w, c, U, b, r, k1, k2, W, I, L, f, CI_f (fun z hz => f2 z (Or.inl hz)) l1, l2, ctB_le (by omega) z1, fun j hj => ctB_le (by omega) (z2 j hj), fun hb => ctB_le (by omega) (z3 hb), z4, z5⟩ (by omega)
theorem ar_faultPosition (l : SI h t) (H : NX X Q i t e) (j7 j8 : eV) : eP X m_L_law 1236 [vR 1000, vR 1, vR 577, vR 588, vR 589, vI (i : Int), vJ, j7, j8] [] (eNT, e, ewP, h) Q := by
  obtain ⟨w, c, U, b, r, k1, k2, W, I, L, f, lc, lm, z1, z2, z3, z4, z5⟩ := l
  obtain ⟨N, R, T, o, -⟩ := id lc.1
  refine bk_L_law_1236 X 1000 1 577 588 589 i j7 j8 eNT e ewP h Q ?_
  rw [if_pos ck1]
  rw [c_fault lc, if_pos mk577]
  refine m_fault lm (fun h2 f2 l2 => ?_)
  rw [if_pos rfl]
  exact H h2 e _ _ _ (Or.inl rfl) ⟨w, c, U, b, r, k1, k2, W, I, L, f, CI_f (fun z hz => f2 z (Or.inl hz)) lc, l2, ctB_le (by omega) z1, fun j hj => ctB_le (by omega) (z2 j hj), fun hb => ctB_le (by omega) (z3 hb), z4, z5⟩ (by omega)
theorem ar_faultPositionb (l : SI h t) (H : NX X Q i t e) (j6 : Int) (j7 j8 : eV) : eP X m_L_law 1236 [vR 1000, vR 1, vR 577, vR 588, vR 589, vI (i : Int), vI j6, j7, j8] [] (eNT, e, ewP, h) Q := by
  obtain ⟨w, c, U, b, r, k1, k2, W, I, L, f, lc, lm, z1, z2, z3, z4, z5⟩ := l
  obtain ⟨N, R, T, o, -⟩ := id lc.1
  refine bk_L_law_1236b X 1000 1 577 588 589 i j6 j7 j8 eNT e ewP h Q ?_
  rw [if_pos ck1]
  rw [c_fault lc, if_pos mk577]
  refine m_fault lm (fun h2 f2 l2 => ?_)
  rw [if_pos rfl]
  exact H h2 e _ _ _ (Or.inr ⟨_, rfl⟩) ⟨w, c, U, b, r, k1, k2, W, I, L, f, CI_f (fun z hz => f2 z (Or.inl hz)) lc, l2, ctB_le (by omega) z1, fun j hj => ctB_le (by omega) (z2 j hj), fun hb => ctB_le (by omega) (z3 hb), z4, z5⟩ (by omega)
theorem ar_tellWord (l : SI h t) (H : NX X Q i t e) (j7 j8 : eV) : eP X m_L_law 1296 [vR 1000, vR 1, vR 577, vR 588, vR 589, vI (i : Int), vJ, j7, j8] [] (eNT, e, ewP, h) Q := by
  obtain ⟨w, c, U, b, r, k1, k2, W, I, L, f, lc, lm, z1, z2, z3, z4, z5⟩ := l
  obtain ⟨N, R, T, o, -⟩ := id lc.1
  refine bk_L_law_1296 X 1000 1 577 588 589 i j7 j8 eNT e ewP h Q ?_
  rw [if_pos ck1]
  refine c_tellWord lc (fun h1 f1 l1 => ?_)
  rw [if_pos mk577]
  refine m_tellWord (MI_c (fun z h2 _ => f1 z h2) lm) (fun z hz => lR_x lc.2.2.2.2.1 hz) (fun h2 f2 l2 => ?_)
  rw [if_pos rfl]
  exact H h2 e _ _ _ (Or.inl rfl) ⟨w, c, U, b, r, k1, k2, W, I, W, f, CI_f (fun z hz => f2 z (Or.inl hz)) l1, l2, ctB_le (by omega) z1, fun j hj => ctB_le (by omega) (z2 j hj), fun hb => ctB_le (by omega) (z3 hb), z4, z5⟩ (by omega)
theorem ar_tellWordb (l : SI h t) (H : NX X Q i t e) (j6 : Int) (j7 j8 : eV) : eP X m_L_law 1296 [vR 1000, vR 1, vR 577, vR 588, vR 589, vI (i : Int), vI j6, j7, j8] [] (eNT, e, ewP, h) Q := by
  obtain ⟨w, c, U, b, r, k1, k2, W, I, L, f, lc, lm, z1, z2, z3, z4, z5⟩ := l
  obtain ⟨N, R, T, o, -⟩ := id lc.1
  refine bk_L_law_1296b X 1000 1 577 588 589 i j6 j7 j8 eNT e ewP h Q ?_
  rw [if_pos ck1]
  refine c_tellWord lc (fun h1 f1 l1 => ?_)
  rw [if_pos mk577]
  refine m_tellWord (MI_c (fun z h2 _ => f1 z h2) lm) (fun z hz => lR_x lc.2.2.2.2.1 hz) (fun h2 f2 l2 => ?_)
  rw [if_pos rfl]
  exact H h2 e _ _ _ (Or.inr ⟨_, rfl⟩) ⟨w, c, U, b, r, k1, k2, W, I, W, f, CI_f (fun z hz => f2 z (Or.inl hz)) l1, l2, ctB_le (by omega) z1, fun j hj => ctB_le (by omega) (z2 j hj), fun hb => ctB_le (by omega) (z3 hb), z4, z5⟩ (by omega)
theorem ar_tellEcho (l : SI h t) (H : NX X Q i t e) (j7 j8 : eV) : eP X m_L_law 1303 [vR 1000, vR 1, vR 577, vR 588, vR 589, vI (i : Int), vJ, j7, j8] [] (eNT, e, ewP, h) Q := by
  obtain ⟨w, c, U, b, r, k1, k2, W, I, L, f, lc, lm, z1, z2, z3, z4, z5⟩ := l
  obtain ⟨N, R, T, o, -⟩ := id lc.1
  refine bk_L_law_1303 X 1000 1 577 588 589 i j7 j8 eNT e ewP h Q ?_
  rw [if_pos ck1]
  obtain ⟨E, hE, -⟩ := wR_lat lc.1
  refine c_tellEcho hE lc (fun h1 f1 l1 => ?_)
  rw [if_pos mk577]
  refine m_tellEcho hE (MI_c (fun z h2 _ => f1 z h2) lm) (fun h2 f2 l2 => ?_)
  rw [if_pos rfl]
  exact H h2 e _ _ _ (Or.inl rfl) ⟨w, c, U, b, r, k1, k2, W, I, E, f, CI_f (fun z hz => f2 z (Or.inl hz)) l1, l2, ctB_le (by omega) z1, fun j hj => ctB_le (by omega) (z2 j hj), fun hb => ctB_le (by omega) (z3 hb), z4, z5⟩ (by omega)
theorem ar_tellEchob (l : SI h t) (H : NX X Q i t e) (j6 : Int) (j7 j8 : eV) : eP X m_L_law 1303 [vR 1000, vR 1, vR 577, vR 588, vR 589, vI (i : Int), vI j6, j7, j8] [] (eNT, e, ewP, h) Q := by
  obtain ⟨w, c, U, b, r, k1, k2, W, I, L, f, lc, lm, z1, z2, z3, z4, z5⟩ := l
  obtain ⟨N, R, T, o, -⟩ := id lc.1
  refine bk_L_law_1303b X 1000 1 577 588 589 i j6 j7 j8 eNT e ewP h Q ?_
  rw [if_pos ck1]
  obtain ⟨E, hE, -⟩ := wR_lat lc.1
  refine c_tellEcho hE lc (fun h1 f1 l1 => ?_)
  rw [if_pos mk577]
  refine m_tellEcho hE (MI_c (fun z h2 _ => f1 z h2) lm) (fun h2 f2 l2 => ?_)
  rw [if_pos rfl]
  exact H h2 e _ _ _ (Or.inr ⟨_, rfl⟩) ⟨w, c, U, b, r, k1, k2, W, I, E, f, CI_f (fun z hz => f2 z (Or.inl hz)) l1, l2, ctB_le (by omega) z1, fun j hj => ctB_le (by omega) (z2 j hj), fun hb => ctB_le (by omega) (z3 hb), z4, z5⟩ (by omega)
end
