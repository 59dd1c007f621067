/-! the arm of run (by program, wip/whole/gen27.py) -/
section
variable {X : eX} {e i t : Nat} {h : Nat → Nat → Int} {Q : eO → eM → Prop}
theorem ar_run (hi : i + 4 ≤ X.1) (hX : X.1 ≤ 2048) (ht : t < 1000) (l : SI h t) (H : NX X Q i t e) (j7 j8 : eV) : eP X m_L_law 1211 [vR 1000, vR 1, vR 577, vR 588, vR 589, vI (i : Int), vJ, j7, j8] [] (eNT, e, ewP, h) Q := by
  obtain ⟨w, c, U, b, r, k1, k2, W, I, L, f, lc, lm, z1, z2, z3, z4, z5⟩ := l
  refine bk_L_law_1211 X 1000 1 577 588 589 i j7 j8 eNT e ewP h Q ?_
  refine bk_L_run_0 X 1 588 eNT e ewP h _ ?_
  rw [if_pos ck1]
  refine c_run lc (fun f' hf h1 f1 l1 => ?_) (fun n j x y hn hb hok hx0 h1 f1 l1 => ?_) (fun n w' hn hb hok h1 f1 l1 => ?_)
  · refine eBk_h (t := 8) (k := 2) (by decide +kernel) ?_
    refine bk_L_run_8 X 1 588 _ eNT (e + 1) ewP h1 _ ?_
    simp only [mk577, ite_true]
    refine m_run (N := 0) (R := 0) (S := fun _ => 0) (MI_c (fun z h2 _ => f1 z h2) lm) (fun n hn => by rw [hf] at hn; cases hn) (fun f2' hf2 h2 f2 t2 l2 => ?_) (fun n j x y hn => by rw [hf] at hn; cases hn) (fun n w' hn => by rw [hf] at hn; cases hn)
    rw [hf] at hf2
    cases hf2
    rw [if_pos mk577, m_thrown, t2, if_pos rfl]
    try rw [if_neg (by decide)]
    exact H h2 (e + 1) _ _ _ (Or.inr ⟨_, rfl⟩) ⟨w, c, U, b, r, k1, k2, W, [], L, _, CI_f (fun z hz => f2 z (Or.inl hz)) l1, l2, ctB_le (by omega) z1, fun j hj => ctB_le (by omega) (z2 j hj), fun hb => ctB_le (by omega) (z3 hb), fun x hx => absurd hx List.not_mem_nil, z5⟩ (by omega)
  · refine eBk_h (t := 11) (k := 2) (by decide +kernel) ?_
    refine bk_L_run_11 X 1 588 _ eNT (e + 1) ewP h1 _ ?_
    simp only [mk577, ite_true]
    refine m_run (N := 0) (R := 0) (S := fun _ => 0) (MI_c (fun z h2 _ => f1 z h2) lm) (fun n2 hn2 => by rw [hn] at hn2; cases hn2; exact hok) (fun f' hf => by rw [hn] at hf; cases hf) (fun n2 j2 x2 y2 hn2 hb2 _ h2 w2 f2 t2 g3 l2 => ?_) (fun n2 w' hn2 hb2 => by rw [hn] at hn2; cases hn2; rw [hb] at hb2; cases hb2)
    rw [hn] at hn2
    cases hn2
    rw [hb] at hb2
    cases hb2
    rw [if_pos mk577, m_thrown, t2, if_pos rfl]
    try rw [if_neg (by decide)]
    exact H h2 (e + 1) _ _ _ (Or.inr ⟨_, rfl⟩) ⟨w2, c, U, b, r, _, _, W, [], L, _, CI_f (fun z hz => f2 z (Or.inl hz)) (CI_w l1 (fun k hk => (g3 k hk).symm)), l2, ctB_cg (fun k hk => g3 k (by omega)) (ctB_le (by omega) z1), fun j hj => ctB_le (by omega) (z2 j hj), fun hb => ctB_le (by omega) (z3 hb), fun x hx => absurd hx List.not_mem_nil, fun q => absurd (show (10 : Int) = 0 from q) (by decide)⟩ (by omega)
  · have nb := rdAll_b _ _ _ hn
    show if kn ewK eNT 588 = 23 ∧ 0 ≤ (0 : Int) ∧ 0 < (ewL 588 : Int) then _ else _
    rw [if_pos ⟨ok588, by decide, by rw [on588]; decide⟩]
    simp only [mk577, ite_true]
    refine m_run (N := 0) (R := 0) (S := fun _ => 0) (MI_c (fun z h2 h3 => by rw [up_ne h3]; exact f1 z h2) lm) (fun n2 hn2 => by rw [hn] at hn2; cases hn2; exact hok) (fun f' hf => by rw [hn] at hf; cases hf) (fun n2 j2 x2 y2 hn2 hb2 => by rw [hn] at hn2; cases hn2; rw [hb] at hb2; cases hb2) (fun n2 w2 hn2 hb2 h2 f2 t2 l2 => ?_)
    rw [hn] at hn2
    cases hn2
    rw [hb] at hb2
    cases hb2
    rw [if_pos mk577, m_thrown, t2, if_pos rfl]
    try rw [if_pos rfl]
    rw [if_pos ⟨ok588, by decide, by rw [on588]; decide⟩, show (0 : Int).toNat = 0 from rfl, f2 588 (Or.inr (by omega)), o588, if_pos (by rw [if_pos rfl])]
    have c1 : ctB (61 * (t + 1)) w' := ctB_le (by omega) (ok_ct n 0 0 (61 * t) w w' (by omega) (Or.inr ⟨Nat.zero_le _, 60, hn⟩) hok hb z1)
    exact H h2 e _ _ _ (Or.inr ⟨_, rfl⟩) ⟨w', pC c, pU2 c U w, b, r, k1, k2, W, [], L, _, CI_f (fun z hz => by rw [f2 z (Or.inl hz), up_ne (by omega)]) l1, l2, c1, pU2_ct (ctB_le (by omega) z1) (fun j hj => ctB_le (by omega) (z2 j hj)) lc.2.1.1, fun hb => ctB_le (by omega) (z3 hb), fun x hx => absurd hx List.not_mem_nil, z5⟩ (by omega)
theorem ar_runb (hi : i + 4 ≤ X.1) (hX : X.1 ≤ 2048) (ht : t < 1000) (l : SI h t) (H : NX X Q i t e) (j6 : Int) (j7 j8 : eV) : eP X m_L_law 1211 [vR 1000, vR 1, vR 577, vR 588, vR 589, vI (i : Int), vI j6, j7, j8] [] (eNT, e, ewP, h) Q := by
  obtain ⟨w, c, U, b, r, k1, k2, W, I, L, f, lc, lm, z1, z2, z3, z4, z5⟩ := l
  refine bk_L_law_1211b X 1000 1 577 588 589 i j6 j7 j8 eNT e ewP h Q ?_
  refine bk_L_run_0 X 1 588 eNT e ewP h _ ?_
  rw [if_pos ck1]
  refine c_run lc (fun f' hf h1 f1 l1 => ?_) (fun n j x y hn hb hok hx0 h1 f1 l1 => ?_) (fun n w' hn hb hok h1 f1 l1 => ?_)
  · refine eBk_h (t := 8) (k := 2) (by decide +kernel) ?_
    refine bk_L_run_8 X 1 588 _ eNT (e + 1) ewP h1 _ ?_
    simp only [mk577, ite_true]
    refine m_run (N := 0) (R := 0) (S := fun _ => 0) (MI_c (fun z h2 _ => f1 z h2) lm) (fun n hn => by rw [hf] at hn; cases hn) (fun f2' hf2 h2 f2 t2 l2 => ?_) (fun n j x y hn => by rw [hf] at hn; cases hn) (fun n w' hn => by rw [hf] at hn; cases hn)
    rw [hf] at hf2
    cases hf2
    rw [if_pos mk577, m_thrown, t2, if_pos rfl]
    try rw [if_neg (by decide)]
    exact H h2 (e + 1) _ _ _ (Or.inr ⟨_, rfl⟩) ⟨w, c, U, b, r, k1, k2, W, [], L, _, CI_f (fun z hz => f2 z (Or.inl hz)) l1, l2, ctB_le (by omega) z1, fun j hj => ctB_le (by omega) (z2 j hj), fun hb => ctB_le (by omega) (z3 hb), fun x hx => absurd hx List.not_mem_nil, z5⟩ (by omega)
  · refine eBk_h (t := 11) (k := 2) (by decide +kernel) ?_
    refine bk_L_run_11 X 1 588 _ eNT (e + 1) ewP h1 _ ?_
    simp only [mk577, ite_true]
    refine m_run (N := 0) (R := 0) (S := fun _ => 0) (MI_c (fun z h2 _ => f1 z h2) lm) (fun n2 hn2 => by rw [hn] at hn2; cases hn2; exact hok) (fun f' hf => by rw [hn] at hf; cases hf) (fun n2 j2 x2 y2 hn2 hb2 _ h2 w2 f2 t2 g3 l2 => ?_) (fun n2 w' hn2 hb2 => by rw [hn] at hn2; cases hn2; rw [hb] at hb2; cases hb2)
    rw [hn] at hn2
    cases hn2
    rw [hb] at hb2
    cases hb2
    rw [if_pos mk577, m_thrown, t2, if_pos rfl]
    try rw [if_neg (by decide)]
    exact H h2 (e + 1) _ _ _ (Or.inr ⟨_, rfl⟩) ⟨w2, c, U, b, r, _, _, W, [], L, _, CI_f (fun z hz => f2 z (Or.inl hz)) (CI_w l1 (fun k hk => (g3 k hk).symm)), l2, ctB_cg (fun k hk => g3 k (by omega)) (ctB_le (by omega) z1), fun j hj => ctB_le (by omega) (z2 j hj), fun hb => ctB_le (by omega) (z3 hb), fun x hx => absurd hx List.not_mem_nil, fun q => absurd (show (10 : Int) = 0 from q) (by decide)⟩ (by omega)
  · have nb := rdAll_b _ _ _ hn
    show if kn ewK eNT 588 = 23 ∧ 0 ≤ (0 : Int) ∧ 0 < (ewL 588 : Int) then _ else _
    rw [if_pos ⟨ok588, by decide, by rw [on588]; decide⟩]
    simp only [mk577, ite_true]
    refine m_run (N := 0) (R := 0) (S := fun _ => 0) (MI_c (fun z h2 h3 => by rw [up_ne h3]; exact f1 z h2) lm) (fun n2 hn2 => by rw [hn] at hn2; cases hn2; exact hok) (fun f' hf => by rw [hn] at hf; cases hf) (fun n2 j2 x2 y2 hn2 hb2 => by rw [hn] at hn2; cases hn2; rw [hb] at hb2; cases hb2) (fun n2 w2 hn2 hb2 h2 f2 t2 l2 => ?_)
    rw [hn] at hn2
    cases hn2
    rw [hb] at hb2
    cases hb2
    rw [if_pos mk577, m_thrown, t2, if_pos rfl]
    try rw [if_pos rfl]
    rw [if_pos ⟨ok588, by decide, by rw [on588]; decide⟩, show (0 : Int).toNat = 0 from rfl, f2 588 (Or.inr (by omega)), o588, if_pos (by rw [if_pos rfl])]
    have c1 : ctB (61 * (t + 1)) w' := ctB_le (by omega) (ok_ct n 0 0 (61 * t) w w' (by omega) (Or.inr ⟨Nat.zero_le _, 60, hn⟩) hok hb z1)
    exact H h2 e _ _ _ (Or.inr ⟨_, rfl⟩) ⟨w', pC c, pU2 c U w, b, r, k1, k2, W, [], L, _, CI_f (fun z hz => by rw [f2 z (Or.inl hz), up_ne (by omega)]) l1, l2, c1, pU2_ct (ctB_le (by omega) z1) (fun j hj => ctB_le (by omega) (z2 j hj)) lc.2.1.1, fun hb => ctB_le (by omega) (z3 hb), fun x hx => absurd hx List.not_mem_nil, z5⟩ (by omega)
end
theorem runA {X : eX} : RunA X := by
  intro e i t h Q s6 j7 j8 hs hi hX ht l H
  rcases hs with rfl | ⟨x, rfl⟩
  · exact ar_run hi hX ht l H j7 j8
  · exact ar_runb hi hX ht l H x j7 j8
