/-! arms that ask for echoes -/
theorem pD_in {f : Nat → Int} {t : Nat} {L : List Int} {z : Int} (h : z ∈ pD f t L) : z ∈ L ∨ (z = f (7 + 4 * t) ∧ f (5 + 4 * t) ≠ 0 ∧ f (5 + 4 * t) ≠ 2) := by
  unfold pD at h
  split at h
  · exact Or.inl ((List.dropLast_sublist _).subset h)
  · split at h
    · exact Or.inl (List.mem_of_mem_eraseP h)
    · split at h
      · rcases List.mem_append.mp h with h | h
        · exact Or.inl h
        · exact Or.inr ⟨List.mem_singleton.mp h, by assumption, by assumption⟩
      · exact Or.inl h
theorem pU_in {f : Nat → Int} {t : Nat} {L : List Int} {z : Int} (h : z ∈ pU f t L) : z ∈ L := by
  unfold pU at h
  split at h
  · exact (List.dropLast_sublist _).subset h
  · split at h
    · exact List.mem_of_mem_eraseP h
    · exact h
theorem trn_in {b : Int} {L : List Int} {z : Int} (h : z ∈ trn b L) : z ∈ L := by
  unfold trn at h
  split at h
  · exact List.mem_reverse.mp h
  · split at h
    · exact (List.mem_filter.mp h).1
    · exact h
theorem gD_in {f : Nat → Int} {n : Nat} (ok : wOk f n) : ∀ (k p : Nat) (L : List Int), p + k ≤ n → (∀ z, z ∈ L → 0 ≤ z ∧ z < 65536) → ∀ z, z ∈ gD f n p k L → 0 ≤ z ∧ z < 65536 := by
  intro k
  induction k with
  | zero => intro p L _ hL z hz; exact hL z hz
  | succ k ih =>
    intro p L hp hL z hz
    simp only [gD] at hz
    refine ih (p + 1) _ (by omega) (fun y hy => ?_) z hz
    rcases pD_in hy with h1 | ⟨h1, h2, h3⟩
    · exact hL y h1
    · obtain ⟨t, a1, -, a2⟩ := fAt_ok (f := f) (show p < n by omega)
      rw [a2, Int.toNat_natCast] at h1 h2 h3
      obtain ⟨o1, -, o3, -⟩ := ok.2.2.2.2 t a1
      have := o3 (by omega)
      omega
theorem gU_in {f : Nat → Int} {n : Nat} : ∀ (k : Nat) (L : List Int) (z : Int), z ∈ gU f n k L → z ∈ L := by
  intro k
  induction k with
  | zero => intro L z hz; exact hz
  | succ k ih => intro L z hz; exact pU_in (ih _ z hz)
theorem eEc_in {f : Nat → Int} {n : Nat} {L : List Int} (ok : wOk f n) (hL : ∀ z, z ∈ L → 0 ≤ z ∧ z < 65536) : ∀ z, z ∈ eEc f n L → 0 ≤ z ∧ z < 65536 := fun z hz => gD_in ok n 0 L (by omega) hL z (trn_in (gU_in n _ z hz))
theorem gEL_k {w : Nat → Int} {W : List Int} {x : Int} : (gEL w W x).1 = 0 ∨ (gEL w W x).1 = 1 ∨ (gEL w W x).1 = 2 := by
  generalize hg : gEL w W x = g
  unfold gEL at hg
  repeat' split at hg
  all_goals (subst hg; simp)
theorem gEC_k {w : Nat → Int} {W : List Int} {x y : Int} : (gEC w W x y).1 = 0 ∨ (gEC w W x y).1 = 1 ∨ (gEC w W x y).1 = 2 := by
  generalize hg : gEC w W x y = g
  unfold gEC at hg
  repeat' split at hg
  all_goals (subst hg; simp)
theorem gLo_k {w : Nat → Int} {W : List Int} {x : Int} : (gLo w W x).1 = 0 ∨ (gLo w W x).1 = 1 ∨ (gLo w W x).1 = 2 := by
  generalize hg : gLo w W x = g
  unfold gLo at hg
  repeat' split at hg
  all_goals (subst hg; simp)
theorem gWG_k {w : Nat → Int} {W : List Int} {x : Int} : (gWG w W x).1 = 0 ∨ (gWG w W x).1 = 1 ∨ (gWG w W x).1 = 2 := by
  generalize hg : gWG w W x = g
  unfold gWG at hg
  repeat' split at hg
  all_goals (subst hg; simp)
section
variable {X : eX} {e : Nat} {h : Nat → Nat → Int} {w : Nat → Int} {c : Nat} {U : Nat → Nat → Int} {b : Bool} {r : Nat → Int} {k1 k2 : Int × Int} {W I L : List Int} {f : Int}
theorem wl_echoLength {a1 : Int} (l : CI h w c U b r k1 k2 W I L f) {KI KX} (H : ∀ h', (∀ z, 577 ≤ z → h' z = h z) → CI h' w c U b r k1 k2 W I L f → gL (gEL w W a1) e h' KI) : eCi X m_L_echoLength [vR 1, vI a1, vR 588] eNT e ewP h KI KX := by
  refine bk_L_echoLength_0 X 1 a1 588 eNT e ewP h _ ?_
  rw [if_pos ck1]
  refine cg_echoLength l (fun h' f1 l1 => ?_)
  have H := H h' f1 l1
  unfold gL at H
  unfold gC
  split
  next q =>
    rw [if_pos q] at H
    show if kn ewK eNT 588 = 23 ∧ 0 ≤ (0 : Int) ∧ 0 < (ewL 588 : Int) then _ else _
    rw [if_pos ⟨ok588, by decide, by rw [on588]; decide⟩]
    exact H
  next q =>
    rw [if_neg q] at H
    split
    next q2 =>
      rw [if_pos q2] at H
      refine eBk_h (t := 9) (k := 3) (by decide +kernel) ?_
      exact bk_L_echoLength_9 X 1 a1 588 _ eNT (e + 1) ewP h' _ H
    next q2 =>
      rw [if_neg q2] at H
      refine eBk_h (t := 12) (k := 3) (by decide +kernel) ?_
      exact bk_L_echoLength_12 X 1 a1 588 _ eNT (e + 1) ewP h' _ H
theorem wl_echoLetter {a1 a2 : Int} (l : CI h w c U b r k1 k2 W I L f) {KI KX} (H : ∀ h', (∀ z, 577 ≤ z → h' z = h z) → CI h' w c U b r k1 k2 W I L f → gL (gEC w W a1 a2) e h' KI) : eCi X m_L_echoLetter [vR 1, vI a1, vI a2, vR 588] eNT e ewP h KI KX := by
  refine bk_L_echoLetter_0 X 1 a1 a2 588 eNT e ewP h _ ?_
  rw [if_pos ck1]
  refine cg_echoLetter l (fun h' f1 l1 => ?_)
  have H := H h' f1 l1
  unfold gL at H
  unfold gC
  split
  next q =>
    rw [if_pos q] at H
    show if kn ewK eNT 588 = 23 ∧ 0 ≤ (0 : Int) ∧ 0 < (ewL 588 : Int) then _ else _
    rw [if_pos ⟨ok588, by decide, by rw [on588]; decide⟩]
    exact H
  next q =>
    rw [if_neg q] at H
    split
    next q2 =>
      rw [if_pos q2] at H
      refine eBk_h (t := 10) (k := 4) (by decide +kernel) ?_
      exact bk_L_echoLetter_10 X 1 a1 a2 588 _ eNT (e + 1) ewP h' _ H
    next q2 =>
      rw [if_neg q2] at H
      refine eBk_h (t := 13) (k := 4) (by decide +kernel) ?_
      exact bk_L_echoLetter_13 X 1 a1 a2 588 _ eNT (e + 1) ewP h' _ H
theorem wl_losses {a1 : Int} (l : CI h w c U b r k1 k2 W I L f) {KI KX} (H : ∀ h', (∀ z, 577 ≤ z → h' z = h z) → CI h' w c U b r k1 k2 W I L f → gL (gLo w W a1) e h' KI) : eCi X m_L_losses [vR 1, vI a1, vR 588] eNT e ewP h KI KX := by
  refine bk_L_losses_0 X 1 a1 588 eNT e ewP h _ ?_
  rw [if_pos ck1]
  refine cg_losses l (fun h' f1 l1 => ?_)
  have H := H h' f1 l1
  unfold gL at H
  unfold gC
  split
  next q =>
    rw [if_pos q] at H
    show if kn ewK eNT 588 = 23 ∧ 0 ≤ (0 : Int) ∧ 0 < (ewL 588 : Int) then _ else _
    rw [if_pos ⟨ok588, by decide, by rw [on588]; decide⟩]
    exact H
  next q =>
    rw [if_neg q] at H
    split
    next q2 =>
      rw [if_pos q2] at H
      refine eBk_h (t := 9) (k := 3) (by decide +kernel) ?_
      exact bk_L_losses_9 X 1 a1 588 _ eNT (e + 1) ewP h' _ H
    next q2 =>
      rw [if_neg q2] at H
      refine eBk_h (t := 12) (k := 3) (by decide +kernel) ?_
      exact bk_L_losses_12 X 1 a1 588 _ eNT (e + 1) ewP h' _ H
theorem wl_wouldGrade {a1 : Int} (l : CI h w c U b r k1 k2 W I L f) {KI KX} (H : ∀ h', (∀ z, 577 ≤ z → h' z = h z) → CI h' w c U b r k1 k2 W I L f → gL (gWG w W a1) e h' KI) : eCi X m_L_wouldGrade [vR 1, vI a1, vR 588] eNT e ewP h KI KX := by
  refine bk_L_wouldGrade_0 X 1 a1 588 eNT e ewP h _ ?_
  rw [if_pos ck1]
  refine cg_wouldGrade l (fun h' f1 l1 => ?_)
  have H := H h' f1 l1
  unfold gL at H
  unfold gC
  split
  next q =>
    rw [if_pos q] at H
    show if kn ewK eNT 588 = 23 ∧ 0 ≤ (0 : Int) ∧ 0 < (ewL 588 : Int) then _ else _
    rw [if_pos ⟨ok588, by decide, by rw [on588]; decide⟩]
    exact H
  next q =>
    rw [if_neg q] at H
    split
    next q2 =>
      rw [if_pos q2] at H
      refine eBk_h (t := 9) (k := 3) (by decide +kernel) ?_
      exact bk_L_wouldGrade_9 X 1 a1 588 _ eNT (e + 1) ewP h' _ H
    next q2 =>
      rw [if_neg q2] at H
      refine eBk_h (t := 12) (k := 3) (by decide +kernel) ?_
      exact bk_L_wouldGrade_12 X 1 a1 588 _ eNT (e + 1) ewP h' _ H
end
section
variable {X : eX} {e i t : Nat} {h : Nat → Nat → Int} {Q : eO → eM → Prop}
theorem ar_echoLength (hi : i + 4 ≤ X.1) (hX : X.1 ≤ 2048) (l : SI h t) (H : NX X Q i t e) (j7 j8 : eV) : eP X m_L_law 867 [vR 1000, vR 1, vR 577, vR 588, vR 589, vI (i : Int), vJ, j7, j8] [] (eNT, e, ewP, h) Q := by
  obtain ⟨w, c, U, b, r, k1, k2, W, I, L, f, lc, lm, z1, z2, z3, z4, z5⟩ := l
  obtain ⟨N, R, T, o, -⟩ := id lc.1
  have fin : ∀ h' e' (s6 s7 s8 : eV), (s6 = vJ ∨ ∃ x, s6 = vI x) → CI h' w c U b r k1 k2 W I L f → MI h' w c U b r k1 k2 W I L f → e' ≤ e + 1 → eP X m_L_law 1545 [vR 1000, vR 1, vR 577, vR 588, vR 589, vI (i : Int), s6, s7, s8] [] (eNT, e', ewP, h') Q := fun h' e' s6 s7 s8 hs l1 l2 he => H h' e' s6 s7 s8 hs ⟨w, c, U, b, r, k1, k2, W, I, L, f, l1, l2, ctB_le (by omega) z1, fun j hj => ctB_le (by omega) (z2 j hj), fun hb => ctB_le (by omega) (z3 hb), z4, z5⟩ he
  have g1 := sx1 (i := i) X hi hX
  have g2 := sx2 (i := i) X hi hX
  have g3 := sx3 (i := i) X hi hX
  refine bk_L_law_867 X 1000 1 577 588 589 i j7 j8 eNT e ewP h Q ?_
  simp only [g1, g2, g3, true_and, and_true, ite_true]
  refine wl_echoLength lc (fun h1 f1 l1 => ?_)
  unfold gL
  by_cases q : (gEL w W (X.2 (wr ((i : Int) + 1)).toNat)).1 = 0
  · rw [if_pos q]
    simp only [g1, g2, g3, true_and, and_true, mk577, ite_true]
    refine mg_echoLength o (MI_c (fun z h2 h3 => by rw [up_ne h3]; exact f1 z h2) lm) (fun h2 f2 l2 t2 => ?_)
    rw [q] at t2
    rw [q, if_pos rfl, if_pos mk577, m_thrown, t2, if_pos rfl]
    try rw [if_pos rfl]
    rw [if_pos ⟨ok588, by decide, by rw [on588]; decide⟩, show (0 : Int).toNat = 0 from rfl, f2 588 (Or.inr (by omega)), up_eq, if_pos (by rw [if_pos rfl])]
    exact fin h2 e _ _ _ (Or.inr ⟨_, rfl⟩) (CI_f (fun z hz => by rw [f2 z (Or.inl hz), up_ne (by omega)]) l1) l2 (by omega)
  · rw [if_neg q]
    by_cases q2 : (gEL w W (X.2 (wr ((i : Int) + 1)).toNat)).1 = 1
    · rw [if_pos q2]
      simp only [g1, g2, g3, true_and, and_true, mk577, ite_true]
      refine mg_echoLength o (MI_c (fun z h2 h3 => f1 z h2) lm) (fun h2 f2 l2 t2 => ?_)
      rw [q2] at t2
      rw [if_neg q, if_pos mk577, m_thrown, t2, if_pos rfl]
      try rw [if_neg (by decide)]
      exact fin h2 (e + 1) _ _ _ (Or.inr ⟨_, rfl⟩) (CI_f (fun z hz => f2 z (Or.inl hz)) l1) l2 (by omega)
    · rw [if_neg q2]
      have q3 : (gEL w W (X.2 (wr ((i : Int) + 1)).toNat)).1 = 2 := by
        rcases gEL_k (w := w) (W := W) (x := X.2 (wr ((i : Int) + 1)).toNat) with z | z | z
        · exact absurd z q
        · exact absurd z q2
        · exact z
      simp only [g1, g2, g3, true_and, and_true, mk577, ite_true]
      refine mg_echoLength o (MI_c (fun z h2 h3 => f1 z h2) lm) (fun h2 f2 l2 t2 => ?_)
      rw [q3] at t2
      rw [if_neg q, if_pos mk577, m_thrown, t2, if_pos rfl]
      try rw [if_neg (by decide)]
      exact fin h2 (e + 1) _ _ _ (Or.inr ⟨_, rfl⟩) (CI_f (fun z hz => f2 z (Or.inl hz)) l1) l2 (by omega)
theorem ar_echoLengthb (hi : i + 4 ≤ X.1) (hX : X.1 ≤ 2048) (l : SI h t) (H : NX X Q i t e) (j6 : Int) (j7 j8 : eV) : eP X m_L_law 867 [vR 1000, vR 1, vR 577, vR 588, vR 589, vI (i : Int), vI j6, j7, j8] [] (eNT, e, ewP, h) Q := by
  obtain ⟨w, c, U, b, r, k1, k2, W, I, L, f, lc, lm, z1, z2, z3, z4, z5⟩ := l
  obtain ⟨N, R, T, o, -⟩ := id lc.1
  have fin : ∀ h' e' (s6 s7 s8 : eV), (s6 = vJ ∨ ∃ x, s6 = vI x) → CI h' w c U b r k1 k2 W I L f → MI h' w c U b r k1 k2 W I L f → e' ≤ e + 1 → eP X m_L_law 1545 [vR 1000, vR 1, vR 577, vR 588, vR 589, vI (i : Int), s6, s7, s8] [] (eNT, e', ewP, h') Q := fun h' e' s6 s7 s8 hs l1 l2 he => H h' e' s6 s7 s8 hs ⟨w, c, U, b, r, k1, k2, W, I, L, f, l1, l2, ctB_le (by omega) z1, fun j hj => ctB_le (by omega) (z2 j hj), fun hb => ctB_le (by omega) (z3 hb), z4, z5⟩ he
  have g1 := sx1 (i := i) X hi hX
  have g2 := sx2 (i := i) X hi hX
  have g3 := sx3 (i := i) X hi hX
  refine bk_L_law_867b X 1000 1 577 588 589 i j6 j7 j8 eNT e ewP h Q ?_
  simp only [g1, g2, g3, true_and, and_true, ite_true]
  refine wl_echoLength lc (fun h1 f1 l1 => ?_)
  unfold gL
  by_cases q : (gEL w W (X.2 (wr ((i : Int) + 1)).toNat)).1 = 0
  · rw [if_pos q]
    simp only [g1, g2, g3, true_and, and_true, mk577, ite_true]
    refine mg_echoLength o (MI_c (fun z h2 h3 => by rw [up_ne h3]; exact f1 z h2) lm) (fun h2 f2 l2 t2 => ?_)
    rw [q] at t2
    rw [q, if_pos rfl, if_pos mk577, m_thrown, t2, if_pos rfl]
    try rw [if_pos rfl]
    rw [if_pos ⟨ok588, by decide, by rw [on588]; decide⟩, show (0 : Int).toNat = 0 from rfl, f2 588 (Or.inr (by omega)), up_eq, if_pos (by rw [if_pos rfl])]
    exact fin h2 e _ _ _ (Or.inr ⟨_, rfl⟩) (CI_f (fun z hz => by rw [f2 z (Or.inl hz), up_ne (by omega)]) l1) l2 (by omega)
  · rw [if_neg q]
    by_cases q2 : (gEL w W (X.2 (wr ((i : Int) + 1)).toNat)).1 = 1
    · rw [if_pos q2]
      simp only [g1, g2, g3, true_and, and_true, mk577, ite_true]
      refine mg_echoLength o (MI_c (fun z h2 h3 => f1 z h2) lm) (fun h2 f2 l2 t2 => ?_)
      rw [q2] at t2
      rw [if_neg q, if_pos mk577, m_thrown, t2, if_pos rfl]
      try rw [if_neg (by decide)]
      exact fin h2 (e + 1) _ _ _ (Or.inr ⟨_, rfl⟩) (CI_f (fun z hz => f2 z (Or.inl hz)) l1) l2 (by omega)
    · rw [if_neg q2]
      have q3 : (gEL w W (X.2 (wr ((i : Int) + 1)).toNat)).1 = 2 := by
        rcases gEL_k (w := w) (W := W) (x := X.2 (wr ((i : Int) + 1)).toNat) with z | z | z
        · exact absurd z q
        · exact absurd z q2
        · exact z
      simp only [g1, g2, g3, true_and, and_true, mk577, ite_true]
      refine mg_echoLength o (MI_c (fun z h2 h3 => f1 z h2) lm) (fun h2 f2 l2 t2 => ?_)
      rw [q3] at t2
      rw [if_neg q, if_pos mk577, m_thrown, t2, if_pos rfl]
      try rw [if_neg (by decide)]
      exact fin h2 (e + 1) _ _ _ (Or.inr ⟨_, rfl⟩) (CI_f (fun z hz => f2 z (Or.inl hz)) l1) l2 (by omega)

theorem ar_echoLetter (hi : i + 4 ≤ X.1) (hX : X.1 ≤ 2048) (l : SI h t) (H : NX X Q i t e) (j7 j8 : eV) : eP X m_L_law 902 [vR 1000, vR 1, vR 577, vR 588, vR 589, vI (i : Int), vJ, j7, j8] [] (eNT, e, ewP, h) Q := by
  obtain ⟨w, c, U, b, r, k1, k2, W, I, L, f, lc, lm, z1, z2, z3, z4, z5⟩ := l
  obtain ⟨N, R, T, o, -⟩ := id lc.1
  have fin : ∀ h' e' (s6 s7 s8 : eV), (s6 = vJ ∨ ∃ x, s6 = vI x) → CI h' w c U b r k1 k2 W I L f → MI h' w c U b r k1 k2 W I L f → e' ≤ e + 1 → eP X m_L_law 1545 [vR 1000, vR 1, vR 577, vR 588, vR 589, vI (i : Int), s6, s7, s8] [] (eNT, e', ewP, h') Q := fun h' e' s6 s7 s8 hs l1 l2 he => H h' e' s6 s7 s8 hs ⟨w, c, U, b, r, k1, k2, W, I, L, f, l1, l2, ctB_le (by omega) z1, fun j hj => ctB_le (by omega) (z2 j hj), fun hb => ctB_le (by omega) (z3 hb), z4, z5⟩ he
  have hE : ∀ x z, z ∈ eE w x W → (0 ≤ x ∧ x < w 0) → 0 ≤ z ∧ z < 65536 := fun x z hz q => eEc_in (wR_wl lc.1 q) (fun y hy => lR_x lc.2.2.2.2.1 hy) z hz
  have g1 := sx1 (i := i) X hi hX
  have g2 := sx2 (i := i) X hi hX
  have g3 := sx3 (i := i) X hi hX
  refine bk_L_law_902 X 1000 1 577 588 589 i j7 j8 eNT e ewP h Q ?_
  simp only [g1, g2, g3, true_and, and_true, ite_true]
  refine wl_echoLetter lc (fun h1 f1 l1 => ?_)
  unfold gL
  by_cases q : (gEC w W (X.2 (wr ((i : Int) + 1)).toNat) (X.2 (wr ((i : Int) + 2)).toNat)).1 = 0
  · rw [if_pos q]
    simp only [g1, g2, g3, true_and, and_true, mk577, ite_true]
    refine mg_echoLetter o (MI_c (fun z h2 h3 => by rw [up_ne h3]; exact f1 z h2) lm) (hE _) (fun h2 f2 l2 t2 => ?_)
    rw [q] at t2
    rw [q, if_pos rfl, if_pos mk577, m_thrown, t2, if_pos rfl]
    try rw [if_pos rfl]
    rw [if_pos ⟨ok588, by decide, by rw [on588]; decide⟩, show (0 : Int).toNat = 0 from rfl, f2 588 (Or.inr (by omega)), up_eq, if_pos (by rw [if_pos rfl])]
    exact fin h2 e _ _ _ (Or.inr ⟨_, rfl⟩) (CI_f (fun z hz => by rw [f2 z (Or.inl hz), up_ne (by omega)]) l1) l2 (by omega)
  · rw [if_neg q]
    by_cases q2 : (gEC w W (X.2 (wr ((i : Int) + 1)).toNat) (X.2 (wr ((i : Int) + 2)).toNat)).1 = 1
    · rw [if_pos q2]
      simp only [g1, g2, g3, true_and, and_true, mk577, ite_true]
      refine mg_echoLetter o (MI_c (fun z h2 h3 => f1 z h2) lm) (hE _) (fun h2 f2 l2 t2 => ?_)
      rw [q2] at t2
      rw [if_neg q, if_pos mk577, m_thrown, t2, if_pos rfl]
      try rw [if_neg (by decide)]
      exact fin h2 (e + 1) _ _ _ (Or.inr ⟨_, rfl⟩) (CI_f (fun z hz => f2 z (Or.inl hz)) l1) l2 (by omega)
    · rw [if_neg q2]
      have q3 : (gEC w W (X.2 (wr ((i : Int) + 1)).toNat) (X.2 (wr ((i : Int) + 2)).toNat)).1 = 2 := by
        rcases gEC_k (w := w) (W := W) (x := X.2 (wr ((i : Int) + 1)).toNat) (y := X.2 (wr ((i : Int) + 2)).toNat) with z | z | z
        · exact absurd z q
        · exact absurd z q2
        · exact z
      simp only [g1, g2, g3, true_and, and_true, mk577, ite_true]
      refine mg_echoLetter o (MI_c (fun z h2 h3 => f1 z h2) lm) (hE _) (fun h2 f2 l2 t2 => ?_)
      rw [q3] at t2
      rw [if_neg q, if_pos mk577, m_thrown, t2, if_pos rfl]
      try rw [if_neg (by decide)]
      exact fin h2 (e + 1) _ _ _ (Or.inr ⟨_, rfl⟩) (CI_f (fun z hz => f2 z (Or.inl hz)) l1) l2 (by omega)
theorem ar_echoLetterb (hi : i + 4 ≤ X.1) (hX : X.1 ≤ 2048) (l : SI h t) (H : NX X Q i t e) (j6 : Int) (j7 j8 : eV) : eP X m_L_law 902 [vR 1000, vR 1, vR 577, vR 588, vR 589, vI (i : Int), vI j6, j7, j8] [] (eNT, e, ewP, h) Q := by
  obtain ⟨w, c, U, b, r, k1, k2, W, I, L, f, lc, lm, z1, z2, z3, z4, z5⟩ := l
  obtain ⟨N, R, T, o, -⟩ := id lc.1
  have fin : ∀ h' e' (s6 s7 s8 : eV), (s6 = vJ ∨ ∃ x, s6 = vI x) → CI h' w c U b r k1 k2 W I L f → MI h' w c U b r k1 k2 W I L f → e' ≤ e + 1 → eP X m_L_law 1545 [vR 1000, vR 1, vR 577, vR 588, vR 589, vI (i : Int), s6, s7, s8] [] (eNT, e', ewP, h') Q := fun h' e' s6 s7 s8 hs l1 l2 he => H h' e' s6 s7 s8 hs ⟨w, c, U, b, r, k1, k2, W, I, L, f, l1, l2, ctB_le (by omega) z1, fun j hj => ctB_le (by omega) (z2 j hj), fun hb => ctB_le (by omega) (z3 hb), z4, z5⟩ he
  have hE : ∀ x z, z ∈ eE w x W → (0 ≤ x ∧ x < w 0) → 0 ≤ z ∧ z < 65536 := fun x z hz q => eEc_in (wR_wl lc.1 q) (fun y hy => lR_x lc.2.2.2.2.1 hy) z hz
  have g1 := sx1 (i := i) X hi hX
  have g2 := sx2 (i := i) X hi hX
  have g3 := sx3 (i := i) X hi hX
  refine bk_L_law_902b X 1000 1 577 588 589 i j6 j7 j8 eNT e ewP h Q ?_
  simp only [g1, g2, g3, true_and, and_true, ite_true]
  refine wl_echoLetter lc (fun h1 f1 l1 => ?_)
  unfold gL
  by_cases q : (gEC w W (X.2 (wr ((i : Int) + 1)).toNat) (X.2 (wr ((i : Int) + 2)).toNat)).1 = 0
  · rw [if_pos q]
    simp only [g1, g2, g3, true_and, and_true, mk577, ite_true]
    refine mg_echoLetter o (MI_c (fun z h2 h3 => by rw [up_ne h3]; exact f1 z h2) lm) (hE _) (fun h2 f2 l2 t2 => ?_)
    rw [q] at t2
    rw [q, if_pos rfl, if_pos mk577, m_thrown, t2, if_pos rfl]
    try rw [if_pos rfl]
    rw [if_pos ⟨ok588, by decide, by rw [on588]; decide⟩, show (0 : Int).toNat = 0 from rfl, f2 588 (Or.inr (by omega)), up_eq, if_pos (by rw [if_pos rfl])]
    exact fin h2 e _ _ _ (Or.inr ⟨_, rfl⟩) (CI_f (fun z hz => by rw [f2 z (Or.inl hz), up_ne (by omega)]) l1) l2 (by omega)
  · rw [if_neg q]
    by_cases q2 : (gEC w W (X.2 (wr ((i : Int) + 1)).toNat) (X.2 (wr ((i : Int) + 2)).toNat)).1 = 1
    · rw [if_pos q2]
      simp only [g1, g2, g3, true_and, and_true, mk577, ite_true]
      refine mg_echoLetter o (MI_c (fun z h2 h3 => f1 z h2) lm) (hE _) (fun h2 f2 l2 t2 => ?_)
      rw [q2] at t2
      rw [if_neg q, if_pos mk577, m_thrown, t2, if_pos rfl]
      try rw [if_neg (by decide)]
      exact fin h2 (e + 1) _ _ _ (Or.inr ⟨_, rfl⟩) (CI_f (fun z hz => f2 z (Or.inl hz)) l1) l2 (by omega)
    · rw [if_neg q2]
      have q3 : (gEC w W (X.2 (wr ((i : Int) + 1)).toNat) (X.2 (wr ((i : Int) + 2)).toNat)).1 = 2 := by
        rcases gEC_k (w := w) (W := W) (x := X.2 (wr ((i : Int) + 1)).toNat) (y := X.2 (wr ((i : Int) + 2)).toNat) with z | z | z
        · exact absurd z q
        · exact absurd z q2
        · exact z
      simp only [g1, g2, g3, true_and, and_true, mk577, ite_true]
      refine mg_echoLetter o (MI_c (fun z h2 h3 => f1 z h2) lm) (hE _) (fun h2 f2 l2 t2 => ?_)
      rw [q3] at t2
      rw [if_neg q, if_pos mk577, m_thrown, t2, if_pos rfl]
      try rw [if_neg (by decide)]
      exact fin h2 (e + 1) _ _ _ (Or.inr ⟨_, rfl⟩) (CI_f (fun z hz => f2 z (Or.inl hz)) l1) l2 (by omega)

theorem ar_losses (hi : i + 4 ≤ X.1) (hX : X.1 ≤ 2048) (l : SI h t) (H : NX X Q i t e) (j7 j8 : eV) : eP X m_L_law 947 [vR 1000, vR 1, vR 577, vR 588, vR 589, vI (i : Int), vJ, j7, j8] [] (eNT, e, ewP, h) Q := by
  obtain ⟨w, c, U, b, r, k1, k2, W, I, L, f, lc, lm, z1, z2, z3, z4, z5⟩ := l
  obtain ⟨N, R, T, o, -⟩ := id lc.1
  have fin : ∀ h' e' (s6 s7 s8 : eV), (s6 = vJ ∨ ∃ x, s6 = vI x) → CI h' w c U b r k1 k2 W I L f → MI h' w c U b r k1 k2 W I L f → e' ≤ e + 1 → eP X m_L_law 1545 [vR 1000, vR 1, vR 577, vR 588, vR 589, vI (i : Int), s6, s7, s8] [] (eNT, e', ewP, h') Q := fun h' e' s6 s7 s8 hs l1 l2 he => H h' e' s6 s7 s8 hs ⟨w, c, U, b, r, k1, k2, W, I, L, f, l1, l2, ctB_le (by omega) z1, fun j hj => ctB_le (by omega) (z2 j hj), fun hb => ctB_le (by omega) (z3 hb), z4, z5⟩ he
  have g1 := sx1 (i := i) X hi hX
  have g2 := sx2 (i := i) X hi hX
  have g3 := sx3 (i := i) X hi hX
  refine bk_L_law_947 X 1000 1 577 588 589 i j7 j8 eNT e ewP h Q ?_
  simp only [g1, g2, g3, true_and, and_true, ite_true]
  refine wl_losses lc (fun h1 f1 l1 => ?_)
  unfold gL
  by_cases q : (gLo w W (X.2 (wr ((i : Int) + 1)).toNat)).1 = 0
  · rw [if_pos q]
    simp only [g1, g2, g3, true_and, and_true, mk577, ite_true]
    refine mg_losses o (MI_c (fun z h2 h3 => by rw [up_ne h3]; exact f1 z h2) lm) (fun h2 f2 l2 t2 => ?_)
    rw [q] at t2
    rw [q, if_pos rfl, if_pos mk577, m_thrown, t2, if_pos rfl]
    try rw [if_pos rfl]
    rw [if_pos ⟨ok588, by decide, by rw [on588]; decide⟩, show (0 : Int).toNat = 0 from rfl, f2 588 (Or.inr (by omega)), up_eq, if_pos (by rw [if_pos rfl])]
    exact fin h2 e _ _ _ (Or.inr ⟨_, rfl⟩) (CI_f (fun z hz => by rw [f2 z (Or.inl hz), up_ne (by omega)]) l1) l2 (by omega)
  · rw [if_neg q]
    by_cases q2 : (gLo w W (X.2 (wr ((i : Int) + 1)).toNat)).1 = 1
    · rw [if_pos q2]
      simp only [g1, g2, g3, true_and, and_true, mk577, ite_true]
      refine mg_losses o (MI_c (fun z h2 h3 => f1 z h2) lm) (fun h2 f2 l2 t2 => ?_)
      rw [q2] at t2
      rw [if_neg q, if_pos mk577, m_thrown, t2, if_pos rfl]
      try rw [if_neg (by decide)]
      exact fin h2 (e + 1) _ _ _ (Or.inr ⟨_, rfl⟩) (CI_f (fun z hz => f2 z (Or.inl hz)) l1) l2 (by omega)
    · rw [if_neg q2]
      have q3 : (gLo w W (X.2 (wr ((i : Int) + 1)).toNat)).1 = 2 := by
        rcases gLo_k (w := w) (W := W) (x := X.2 (wr ((i : Int) + 1)).toNat) with z | z | z
        · exact absurd z q
        · exact absurd z q2
        · exact z
      simp only [g1, g2, g3, true_and, and_true, mk577, ite_true]
      refine mg_losses o (MI_c (fun z h2 h3 => f1 z h2) lm) (fun h2 f2 l2 t2 => ?_)
      rw [q3] at t2
      rw [if_neg q, if_pos mk577, m_thrown, t2, if_pos rfl]
      try rw [if_neg (by decide)]
      exact fin h2 (e + 1) _ _ _ (Or.inr ⟨_, rfl⟩) (CI_f (fun z hz => f2 z (Or.inl hz)) l1) l2 (by omega)
theorem ar_lossesb (hi : i + 4 ≤ X.1) (hX : X.1 ≤ 2048) (l : SI h t) (H : NX X Q i t e) (j6 : Int) (j7 j8 : eV) : eP X m_L_law 947 [vR 1000, vR 1, vR 577, vR 588, vR 589, vI (i : Int), vI j6, j7, j8] [] (eNT, e, ewP, h) Q := by
  obtain ⟨w, c, U, b, r, k1, k2, W, I, L, f, lc, lm, z1, z2, z3, z4, z5⟩ := l
  obtain ⟨N, R, T, o, -⟩ := id lc.1
  have fin : ∀ h' e' (s6 s7 s8 : eV), (s6 = vJ ∨ ∃ x, s6 = vI x) → CI h' w c U b r k1 k2 W I L f → MI h' w c U b r k1 k2 W I L f → e' ≤ e + 1 → eP X m_L_law 1545 [vR 1000, vR 1, vR 577, vR 588, vR 589, vI (i : Int), s6, s7, s8] [] (eNT, e', ewP, h') Q := fun h' e' s6 s7 s8 hs l1 l2 he => H h' e' s6 s7 s8 hs ⟨w, c, U, b, r, k1, k2, W, I, L, f, l1, l2, ctB_le (by omega) z1, fun j hj => ctB_le (by omega) (z2 j hj), fun hb => ctB_le (by omega) (z3 hb), z4, z5⟩ he
  have g1 := sx1 (i := i) X hi hX
  have g2 := sx2 (i := i) X hi hX
  have g3 := sx3 (i := i) X hi hX
  refine bk_L_law_947b X 1000 1 577 588 589 i j6 j7 j8 eNT e ewP h Q ?_
  simp only [g1, g2, g3, true_and, and_true, ite_true]
  refine wl_losses lc (fun h1 f1 l1 => ?_)
  unfold gL
  by_cases q : (gLo w W (X.2 (wr ((i : Int) + 1)).toNat)).1 = 0
  · rw [if_pos q]
    simp only [g1, g2, g3, true_and, and_true, mk577, ite_true]
    refine mg_losses o (MI_c (fun z h2 h3 => by rw [up_ne h3]; exact f1 z h2) lm) (fun h2 f2 l2 t2 => ?_)
    rw [q] at t2
    rw [q, if_pos rfl, if_pos mk577, m_thrown, t2, if_pos rfl]
    try rw [if_pos rfl]
    rw [if_pos ⟨ok588, by decide, by rw [on588]; decide⟩, show (0 : Int).toNat = 0 from rfl, f2 588 (Or.inr (by omega)), up_eq, if_pos (by rw [if_pos rfl])]
    exact fin h2 e _ _ _ (Or.inr ⟨_, rfl⟩) (CI_f (fun z hz => by rw [f2 z (Or.inl hz), up_ne (by omega)]) l1) l2 (by omega)
  · rw [if_neg q]
    by_cases q2 : (gLo w W (X.2 (wr ((i : Int) + 1)).toNat)).1 = 1
    · rw [if_pos q2]
      simp only [g1, g2, g3, true_and, and_true, mk577, ite_true]
      refine mg_losses o (MI_c (fun z h2 h3 => f1 z h2) lm) (fun h2 f2 l2 t2 => ?_)
      rw [q2] at t2
      rw [if_neg q, if_pos mk577, m_thrown, t2, if_pos rfl]
      try rw [if_neg (by decide)]
      exact fin h2 (e + 1) _ _ _ (Or.inr ⟨_, rfl⟩) (CI_f (fun z hz => f2 z (Or.inl hz)) l1) l2 (by omega)
    · rw [if_neg q2]
      have q3 : (gLo w W (X.2 (wr ((i : Int) + 1)).toNat)).1 = 2 := by
        rcases gLo_k (w := w) (W := W) (x := X.2 (wr ((i : Int) + 1)).toNat) with z | z | z
        · exact absurd z q
        · exact absurd z q2
        · exact z
      simp only [g1, g2, g3, true_and, and_true, mk577, ite_true]
      refine mg_losses o (MI_c (fun z h2 h3 => f1 z h2) lm) (fun h2 f2 l2 t2 => ?_)
      rw [q3] at t2
      rw [if_neg q, if_pos mk577, m_thrown, t2, if_pos rfl]
      try rw [if_neg (by decide)]
      exact fin h2 (e + 1) _ _ _ (Or.inr ⟨_, rfl⟩) (CI_f (fun z hz => f2 z (Or.inl hz)) l1) l2 (by omega)

theorem ar_wouldGrade (hi : i + 4 ≤ X.1) (hX : X.1 ≤ 2048) (l : SI h t) (H : NX X Q i t e) (j7 j8 : eV) : eP X m_L_law 982 [vR 1000, vR 1, vR 577, vR 588, vR 589, vI (i : Int), vJ, j7, j8] [] (eNT, e, ewP, h) Q := by
  obtain ⟨w, c, U, b, r, k1, k2, W, I, L, f, lc, lm, z1, z2, z3, z4, z5⟩ := l
  obtain ⟨N, R, T, o, -⟩ := id lc.1
  have fin : ∀ h' e' (s6 s7 s8 : eV), (s6 = vJ ∨ ∃ x, s6 = vI x) → CI h' w c U b r k1 k2 W I L f → MI h' w c U b r k1 k2 W I L f → e' ≤ e + 1 → eP X m_L_law 1545 [vR 1000, vR 1, vR 577, vR 588, vR 589, vI (i : Int), s6, s7, s8] [] (eNT, e', ewP, h') Q := fun h' e' s6 s7 s8 hs l1 l2 he => H h' e' s6 s7 s8 hs ⟨w, c, U, b, r, k1, k2, W, I, L, f, l1, l2, ctB_le (by omega) z1, fun j hj => ctB_le (by omega) (z2 j hj), fun hb => ctB_le (by omega) (z3 hb), z4, z5⟩ he
  have g1 := sx1 (i := i) X hi hX
  have g2 := sx2 (i := i) X hi hX
  have g3 := sx3 (i := i) X hi hX
  refine bk_L_law_982 X 1000 1 577 588 589 i j7 j8 eNT e ewP h Q ?_
  simp only [g1, g2, g3, true_and, and_true, ite_true]
  refine wl_wouldGrade lc (fun h1 f1 l1 => ?_)
  unfold gL
  by_cases q : (gWG w W (X.2 (wr ((i : Int) + 1)).toNat)).1 = 0
  · rw [if_pos q]
    simp only [g1, g2, g3, true_and, and_true, mk577, ite_true]
    refine mg_wouldGrade o (MI_c (fun z h2 h3 => by rw [up_ne h3]; exact f1 z h2) lm) (fun h2 f2 l2 t2 => ?_)
    rw [q] at t2
    rw [q, if_pos rfl, if_pos mk577, m_thrown, t2, if_pos rfl]
    try rw [if_pos rfl]
    rw [if_pos ⟨ok588, by decide, by rw [on588]; decide⟩, show (0 : Int).toNat = 0 from rfl, f2 588 (Or.inr (by omega)), up_eq, if_pos (by rw [if_pos rfl])]
    exact fin h2 e _ _ _ (Or.inr ⟨_, rfl⟩) (CI_f (fun z hz => by rw [f2 z (Or.inl hz), up_ne (by omega)]) l1) l2 (by omega)
  · rw [if_neg q]
    by_cases q2 : (gWG w W (X.2 (wr ((i : Int) + 1)).toNat)).1 = 1
    · rw [if_pos q2]
      simp only [g1, g2, g3, true_and, and_true, mk577, ite_true]
      refine mg_wouldGrade o (MI_c (fun z h2 h3 => f1 z h2) lm) (fun h2 f2 l2 t2 => ?_)
      rw [q2] at t2
      rw [if_neg q, if_pos mk577, m_thrown, t2, if_pos rfl]
      try rw [if_neg (by decide)]
      exact fin h2 (e + 1) _ _ _ (Or.inr ⟨_, rfl⟩) (CI_f (fun z hz => f2 z (Or.inl hz)) l1) l2 (by omega)
    · rw [if_neg q2]
      have q3 : (gWG w W (X.2 (wr ((i : Int) + 1)).toNat)).1 = 2 := by
        rcases gWG_k (w := w) (W := W) (x := X.2 (wr ((i : Int) + 1)).toNat) with z | z | z
        · exact absurd z q
        · exact absurd z q2
        · exact z
      simp only [g1, g2, g3, true_and, and_true, mk577, ite_true]
      refine mg_wouldGrade o (MI_c (fun z h2 h3 => f1 z h2) lm) (fun h2 f2 l2 t2 => ?_)
      rw [q3] at t2
      rw [if_neg q, if_pos mk577, m_thrown, t2, if_pos rfl]
      try rw [if_neg (by decide)]
      exact fin h2 (e + 1) _ _ _ (Or.inr ⟨_, rfl⟩) (CI_f (fun z hz => f2 z (Or.inl hz)) l1) l2 (by omega)
theorem ar_wouldGradeb (hi : i + 4 ≤ X.1) (hX : X.1 ≤ 2048) (l : SI h t) (H : NX X Q i t e) (j6 : Int) (j7 j8 : eV) : eP X m_L_law 982 [vR 1000, vR 1, vR 577, vR 588, vR 589, vI (i : Int), vI j6, j7, j8] [] (eNT, e, ewP, h) Q := by
  obtain ⟨w, c, U, b, r, k1, k2, W, I, L, f, lc, lm, z1, z2, z3, z4, z5⟩ := l
  obtain ⟨N, R, T, o, -⟩ := id lc.1
  have fin : ∀ h' e' (s6 s7 s8 : eV), (s6 = vJ ∨ ∃ x, s6 = vI x) → CI h' w c U b r k1 k2 W I L f → MI h' w c U b r k1 k2 W I L f → e' ≤ e + 1 → eP X m_L_law 1545 [vR 1000, vR 1, vR 577, vR 588, vR 589, vI (i : Int), s6, s7, s8] [] (eNT, e', ewP, h') Q := fun h' e' s6 s7 s8 hs l1 l2 he => H h' e' s6 s7 s8 hs ⟨w, c, U, b, r, k1, k2, W, I, L, f, l1, l2, ctB_le (by omega) z1, fun j hj => ctB_le (by omega) (z2 j hj), fun hb => ctB_le (by omega) (z3 hb), z4, z5⟩ he
  have g1 := sx1 (i := i) X hi hX
  have g2 := sx2 (i := i) X hi hX
  have g3 := sx3 (i := i) X hi hX
  refine bk_L_law_982b X 1000 1 577 588 589 i j6 j7 j8 eNT e ewP h Q ?_
  simp only [g1, g2, g3, true_and, and_true, ite_true]
  refine wl_wouldGrade lc (fun h1 f1 l1 => ?_)
  unfold gL
  by_cases q : (gWG w W (X.2 (wr ((i : Int) + 1)).toNat)).1 = 0
  · rw [if_pos q]
    simp only [g1, g2, g3, true_and, and_true, mk577, ite_true]
    refine mg_wouldGrade o (MI_c (fun z h2 h3 => by rw [up_ne h3]; exact f1 z h2) lm) (fun h2 f2 l2 t2 => ?_)
    rw [q] at t2
    rw [q, if_pos rfl, if_pos mk577, m_thrown, t2, if_pos rfl]
    try rw [if_pos rfl]
    rw [if_pos ⟨ok588, by decide, by rw [on588]; decide⟩, show (0 : Int).toNat = 0 from rfl, f2 588 (Or.inr (by omega)), up_eq, if_pos (by rw [if_pos rfl])]
    exact fin h2 e _ _ _ (Or.inr ⟨_, rfl⟩) (CI_f (fun z hz => by rw [f2 z (Or.inl hz), up_ne (by omega)]) l1) l2 (by omega)
  · rw [if_neg q]
    by_cases q2 : (gWG w W (X.2 (wr ((i : Int) + 1)).toNat)).1 = 1
    · rw [if_pos q2]
      simp only [g1, g2, g3, true_and, and_true, mk577, ite_true]
      refine mg_wouldGrade o (MI_c (fun z h2 h3 => f1 z h2) lm) (fun h2 f2 l2 t2 => ?_)
      rw [q2] at t2
      rw [if_neg q, if_pos mk577, m_thrown, t2, if_pos rfl]
      try rw [if_neg (by decide)]
      exact fin h2 (e + 1) _ _ _ (Or.inr ⟨_, rfl⟩) (CI_f (fun z hz => f2 z (Or.inl hz)) l1) l2 (by omega)
    · rw [if_neg q2]
      have q3 : (gWG w W (X.2 (wr ((i : Int) + 1)).toNat)).1 = 2 := by
        rcases gWG_k (w := w) (W := W) (x := X.2 (wr ((i : Int) + 1)).toNat) with z | z | z
        · exact absurd z q
        · exact absurd z q2
        · exact z
      simp only [g1, g2, g3, true_and, and_true, mk577, ite_true]
      refine mg_wouldGrade o (MI_c (fun z h2 h3 => f1 z h2) lm) (fun h2 f2 l2 t2 => ?_)
      rw [q3] at t2
      rw [if_neg q, if_pos mk577, m_thrown, t2, if_pos rfl]
      try rw [if_neg (by decide)]
      exact fin h2 (e + 1) _ _ _ (Or.inr ⟨_, rfl⟩) (CI_f (fun z hz => f2 z (Or.inl hz)) l1) l2 (by omega)

end
