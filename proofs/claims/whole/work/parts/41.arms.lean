/-! the law's state; the arms that change -/
/-- what is counted, and how far -/
def ctB (N : Nat) (w : Nat → Int) : Prop := 0 ≤ w 2 ∧ w 2 ≤ w 3 ∧ w 3 ≤ 8 * (N : Int) ∧ 0 ≤ w 5 ∧ w 5 ≤ 5 * (N : Int)
theorem ctB_le {N M : Nat} {w : Nat → Int} (q : N ≤ M) (l : ctB N w) : ctB M w := by
  unfold ctB at *
  omega
theorem ctB_cg {N : Nat} {w w' : Nat → Int} (q : ∀ k, k < 10 → w' k = w k) (l : ctB N w) : ctB N w' := by
  unfold ctB at *
  rw [q 2 (by omega), q 3 (by omega), q 5 (by omega)]
  exact l
theorem ct_ord {o N a R : Nat} {T : Nat → Nat} (ho : o < 12) {w : Nat → Int} {a1 a2 a3 : Int} {M : List Int} (ok : rOk w a R T) (hM : M.length ≤ 8) (hn : nOrd o w a1 a2 a3 M.length = (0, 0)) (hN : N < 100000) (l : ctB N w) : ctB (N + 1) (dOrd o w a1 a2 a3 M) := by
  have up : ctB (N + 1) w := ctB_le (by omega) l
  have a8 := ok.2.1
  have a0 := ok.1
  have ho2 : o = 0 ∨ o = 1 ∨ o = 2 ∨ o = 3 ∨ o = 4 ∨ o = 5 ∨ o = 6 ∨ o = 7 ∨ o = 8 ∨ o = 9 ∨ o = 10 ∨ o = 11 := by omega
  have well : ∀ i g, ctB (N + 1) (rWell w i g) := fun i g => by
    unfold ctB
    rw [rWell_o (by omega), rWell_o (by omega), rWell_o (by omega)]
    exact up
  rcases ho2 with ho2 | ho2 | ho2 | ho2 | ho2 | ho2 | ho2 | ho2 | ho2 | ho2 | ho2 | ho2 <;> subst ho2
  · unfold ctB
    have lo : ∀ k, k ≠ 0 → k < 10 → dOrd 0 w a1 a2 a3 M k = w k := by
      intro k h1 h2
      show rDig w (w 0).toNat a1 a2 k = w k
      unfold rDig
      rw [if_neg (by omega), if_neg h1]
    rw [lo 2 (by omega) (by omega), lo 3 (by omega) (by omega), lo 5 (by omega) (by omega)]
    exact up
  · exact well _ _
  · unfold ctB
    have q := nFill_w hn
    have lo : ∀ k, k ≠ 0 → k < 10 → dOrd 2 w a1 a2 a3 M k = w k := by
      intro k h1 h2
      show rFill w (w 0).toNat (w 1).toNat a1.toNat k = w k
      unfold rFill
      rw [if_neg (by omega), if_neg (by omega), if_neg h1, if_neg (by omega)]
    rw [lo 2 (by omega) (by omega), lo 3 (by omega) (by omega), lo 5 (by omega) (by omega)]
    exact up
  · exact well _ _
  · exact well _ _
  · exact well _ _
  · exact well _ _
  · unfold ctB
    have lo : ∀ k, k ≠ 8 → k < 10 → dOrd 7 w a1 a2 a3 M k = w k := by
      intro k h1 h2
      show rWake w (w 0).toNat (fun i => (wW w i 2).toNat) (slp w) k = w k
      unfold rWake
      rw [if_neg (by omega), if_neg h1]
    rw [lo 2 (by omega) (by omega), lo 3 (by omega) (by omega), lo 5 (by omega) (by omega)]
    exact up
  · unfold ctB
    have lo : ∀ k, k ≠ 1 → k < 10 → dOrd 8 w a1 a2 a3 M k = w k := by
      intro k h1 h2
      show rRope w (w 1).toNat a1 k = w k
      unfold rRope
      rw [if_neg (by omega), if_neg (by omega), if_neg (by omega), if_neg h1]
    rw [lo 2 (by omega) (by omega), lo 3 (by omega) (by omega), lo 5 (by omega) (by omega)]
    exact up
  · refine ctB_cg (fun k hk => ?_) up
    show rSet w (56 + 3 * a1.toNat) (a2 + 1) k = w k
    rw [rSet_ne (by omega)]
  · have g := well (w (56 + 3 * a1.toNat) - 1).toNat (rTake (wW w (w (56 + 3 * a1.toNat) - 1).toNat) (wW w (w (56 + 3 * a1.toNat) - 1).toNat 2).toNat (wRch w a1.toNat).toNat)
    unfold ctB at g ⊢
    have lo : ∀ k, k ≠ 7 → k < 10 → dOrd 10 w a1 a2 a3 M k = dTake w (w (56 + 3 * a1.toNat) - 1).toNat (wRch w a1.toNat).toNat k := by
      intro k h1 h2
      show rSet (rSet _ _ _) _ _ k = _
      rw [rSet_ne h1, rSet_ne (by omega)]
    rw [lo 2 (by omega) (by omega), lo 3 (by omega) (by omega), lo 5 (by omega) (by omega)]
    exact g
  · have hn' : nShout w a1 M.length = (0, 0) := hn
    have q := nShout_ok hn'
    have m0 : M.length ≠ 0 := by
      intro z
      unfold nShout at hn'
      rw [if_pos q, if_pos z] at hn'
      exact absurd (congrArg Prod.fst hn') (by intro z; simp at z)
    obtain ⟨v1, v2, v3, v4, v5, v6⟩ := wl_i ok q
    have fb : 0 ≤ fFrg (wW w a1.toNat) 1 (wW w a1.toNat 2).toNat ∧ fFrg (wW w a1.toNat) 1 (wW w a1.toNat 2).toNat ≤ (wW w a1.toNat 2).toNat * 1 := sumF_le (fun t => (sFrg01 t).1) (fun t => (sFrg01 t).2) _ 0
    have d2 : dOrd 11 w a1 a2 a3 M 2 = wr (w 2 + 1) := by
      show wr (rWell w _ _ 2 + 1) = _
      rw [rWell_o (by omega)]
    have d3 : dOrd 11 w a1 a2 a3 M 3 = wr (w 3 + M.length) := by
      show wr (rWell w _ _ 3 + _) = _
      rw [rWell_o (by omega)]
    have d5 : dOrd 11 w a1 a2 a3 M 5 = wr (w 5 + fFrg (wW w a1.toNat) 1 (wW w a1.toNat 2).toNat) := by
      show wr (rWell w _ _ 5 + _) = _
      rw [rWell_o (by omega)]
    unfold ctB at l ⊢
    rw [d2, d3, d5, wrn (by omega) (by omega), wrn (by omega) (by omega), wrn (by omega) (by omega)]
    omega
/-- the state after t steps -/
def SI (h : Nat → Nat → Int) (t : Nat) : Prop := ∃ w c U b r k1 k2 W I L f, CI h w c U b r k1 k2 W I L f ∧ MI h w c U b r k1 k2 W I L f ∧ ctB (61 * t) w ∧ (∀ j, j < c → ctB (61 * t) (U j)) ∧ (b = true → ctB (61 * t) r) ∧ (∀ x, x ∈ I → 32 ≤ x ∧ x ≤ 126) ∧ (k1.1 = 0 → k2.1 = 0)
/-- how an arm may end: the law goes on -/
def NX (X : eX) (Q : eO → eM → Prop) (i t e : Nat) : Prop := ∀ h' e' (s6 s7 s8 : eV), (s6 = vJ ∨ ∃ x, s6 = vI x) → SI h' (t + 1) → e' ≤ e + 1 → eP X m_L_law 1545 [vR 1000, vR 1, vR 577, vR 588, vR 589, vI (i : Int), s6, s7, s8] [] (eNT, e', ewP, h') Q
theorem pU2_ct {N c : Nat} {U : Nat → Nat → Int} {w : Nat → Int} (hw : ctB N w) (hU : ∀ j, j < c → ctB N (U j)) (c8 : c ≤ 8) : ∀ j, j < pC c → ctB N (pU2 c U w j) := by
  intro j hj
  unfold pU2
  unfold pC at hj
  by_cases q : c < 8
  · rw [if_pos q] at hj ⊢
    by_cases e : j = c
    · rw [if_pos e]; exact hw
    · rw [if_neg e]; exact hU j (by omega)
  · rw [if_neg q] at hj ⊢
    by_cases e : j = 7
    · rw [if_pos e]; exact hw
    · rw [if_neg e]; exact hU (j + 1) (by omega)
section
variable {X : eX} {e i t : Nat} {h : Nat → Nat → Int} {Q : eO → eM → Prop}
theorem MI_c {h h' : Nat → Nat → Int} {w : Nat → Int} {c : Nat} {U : Nat → Nat → Int} {b : Bool} {r : Nat → Int} {k1 k2 : Int × Int} {W I L : List Int} {f : Int} (q : ∀ z, 577 ≤ z → z ≠ 588 → h' z = h z) (l : MI h w c U b r k1 k2 W I L f) : MI h' w c U b r k1 k2 W I L f := by
  obtain ⟨l1, l2, l3, l4, l5⟩ := l
  exact ⟨by rw [q _ (by omega) (by omega)]; exact l1, mH_f (by rw [q _ (by omega) (by omega)]) (by rw [q _ (by omega) (by omega)]) (q _ (by omega) (by omega)) l2, mV_f (by rw [q _ (by omega) (by omega)]) (q _ (by omega) (by omega)) l3, mK_f (fun k h1 h2 => by rw [q _ (by omega) (by omega)]) l4, mL_f (by rw [q _ (by omega) (by omega)]) (by rw [q _ (by omega) (by omega)]) (by rw [q _ (by omega) (by omega)]) (by rw [q _ (by omega) (by omega)]) (q _ (by omega) (by omega)) (q _ (by omega) (by omega)) (q _ (by omega) (by omega)) l5⟩
theorem sx {i j : Nat} (X : eX) (hi : i + 4 ≤ X.1) (hX : X.1 ≤ 2048) (hj : j < 4) : ((0 : Int) ≤ wr ((i : Int) + (j : Int)) ∧ wr ((i : Int) + (j : Int)) < (X.1 : Int)) = True := by
  rw [wrn (by omega) (by omega)]
  exact eq_true ⟨by omega, by omega⟩
theorem sx1 {i : Nat} (X : eX) (hi : i + 4 ≤ X.1) (hX : X.1 ≤ 2048) : ((0 : Int) ≤ wr ((i : Int) + 1) ∧ wr ((i : Int) + 1) < (X.1 : Int)) = True := sx (j := 1) X hi hX (by decide)
theorem sx2 {i : Nat} (X : eX) (hi : i + 4 ≤ X.1) (hX : X.1 ≤ 2048) : ((0 : Int) ≤ wr ((i : Int) + 2) ∧ wr ((i : Int) + 2) < (X.1 : Int)) = True := sx (j := 2) X hi hX (by decide)
theorem sx3 {i : Nat} (X : eX) (hi : i + 4 ≤ X.1) (hX : X.1 ≤ 2048) : ((0 : Int) ≤ wr ((i : Int) + 3) ∧ wr ((i : Int) + 3) < (X.1 : Int)) = True := sx (j := 3) X hi hX (by decide)
theorem ar_dig (hi : i + 4 ≤ X.1) (hX : X.1 ≤ 2048) (ht : t < 1000) (l : SI h t) (H : NX X Q i t e) (j7 j8 : eV) : eP X m_L_law 28 [vR 1000, vR 1, vR 577, vR 588, vR 589, vI (i : Int), vJ, j7, j8] [] (eNT, e, ewP, h) Q := by
  obtain ⟨w, c, U, b, r, k1, k2, W, I, L, f, lc, lm, z1, z2, z3, z4, z5⟩ := l
  obtain ⟨N, R, T, o, -⟩ := id lc.1
  refine bk_L_law_28 X 1000 1 577 588 589 i j7 j8 eNT e ewP h Q ?_
  have g1 := sx1 (i := i) X hi hX
  have g2 := sx2 (i := i) X hi hX
  have g3 := sx3 (i := i) X hi hX
  simp only [g1, g2, g3, true_and, and_true, ite_true]
  refine wl_dig lc (fun x y hn hx h1 f1 l1 => ?_) (fun hn h1 f1 o1 l1 => ?_)
  · simp only [g1, g2, g3, true_and, and_true, mk577, ite_true]
    refine m_dig o (MI_c (fun z h2 _ => f1 z h2) lm) (fun x' y' hn' hx' h2 f2 t2 l2 => ?_) (fun hn' => absurd (congrArg Prod.fst (hn.symm.trans hn')) hx)
    have e1 := hn.symm.trans hn'
    have e2 : x = x' := congrArg Prod.fst e1
    have e3 : y = y' := congrArg Prod.snd e1
    subst e2
    subst e3
    rw [if_pos mk577, m_thrown, t2, if_pos rfl]
    try rw [if_neg (by decide)]
    exact H h2 (e + 1) _ _ _ (Or.inr ⟨_, rfl⟩) ⟨w, c, U, b, r, (x, y), (0, 0), W, I, L, f, CI_f (fun z hz => f2 z (Or.inl hz)) l1, l2, ctB_le (by omega) z1, fun j hj => ctB_le (by omega) (z2 j hj), fun hb => ctB_le (by omega) (z3 hb), z4, fun _ => rfl⟩ (by omega)
  · simp only [g1, g2, g3, true_and, and_true, mk577, ite_true]
    refine m_dig o (MI_c f1 lm) (fun x' y' hn' hx' h2 f2 t2 l2 => absurd (congrArg Prod.fst (hn.symm.trans hn')).symm hx') (fun hn' h2 f2 t2 l2 => ?_)
    rw [if_pos mk577, m_thrown, t2, if_pos rfl]
    try rw [if_pos rfl]
    rw [if_pos ⟨ok588, by decide, by rw [on588]; decide⟩, show (0 : Int).toNat = 0 from rfl, f2 588 (Or.inr (by omega)), o1, if_pos (by rw [if_pos rfl])]
    have lW := lc.2.2.2.2.2.1
    have zo : ctB (61 * t + 1) (dOrd 0 w (X.2 (wr ((i : Int) + 1)).toNat) (X.2 (wr ((i : Int) + 2)).toNat) 0 W) := ct_ord (by decide) o lW hn (by omega) z1
    exact H h2 e _ _ _ (Or.inr ⟨_, rfl⟩) ⟨dOrd 0 w (X.2 (wr ((i : Int) + 1)).toNat) (X.2 (wr ((i : Int) + 2)).toNat) 0 W, pC c, pU2 c U w, b, r, k1, k2, W, I, L, f, CI_f (fun z hz => f2 z (Or.inl hz)) l1, l2, ctB_le (by omega) zo, pU2_ct (ctB_le (by omega) z1) (fun j hj => ctB_le (by omega) (z2 j hj)) lm.2.1.2.1, fun hb => ctB_le (by omega) (z3 hb), z4, z5⟩ (by omega)
theorem ar_digb (hi : i + 4 ≤ X.1) (hX : X.1 ≤ 2048) (ht : t < 1000) (l : SI h t) (H : NX X Q i t e) (j6 : Int) (j7 j8 : eV) : eP X m_L_law 28 [vR 1000, vR 1, vR 577, vR 588, vR 589, vI (i : Int), vI j6, j7, j8] [] (eNT, e, ewP, h) Q := by
  obtain ⟨w, c, U, b, r, k1, k2, W, I, L, f, lc, lm, z1, z2, z3, z4, z5⟩ := l
  obtain ⟨N, R, T, o, -⟩ := id lc.1
  refine bk_L_law_28b X 1000 1 577 588 589 i j6 j7 j8 eNT e ewP h Q ?_
  have g1 := sx1 (i := i) X hi hX
  have g2 := sx2 (i := i) X hi hX
  have g3 := sx3 (i := i) X hi hX
  simp only [g1, g2, g3, true_and, and_true, ite_true]
  refine wl_dig lc (fun x y hn hx h1 f1 l1 => ?_) (fun hn h1 f1 o1 l1 => ?_)
  · simp only [g1, g2, g3, true_and, and_true, mk577, ite_true]
    refine m_dig o (MI_c (fun z h2 _ => f1 z h2) lm) (fun x' y' hn' hx' h2 f2 t2 l2 => ?_) (fun hn' => absurd (congrArg Prod.fst (hn.symm.trans hn')) hx)
    have e1 := hn.symm.trans hn'
    have e2 : x = x' := congrArg Prod.fst e1
    have e3 : y = y' := congrArg Prod.snd e1
    subst e2
    subst e3
    rw [if_pos mk577, m_thrown, t2, if_pos rfl]
    try rw [if_neg (by decide)]
    exact H h2 (e + 1) _ _ _ (Or.inr ⟨_, rfl⟩) ⟨w, c, U, b, r, (x, y), (0, 0), W, I, L, f, CI_f (fun z hz => f2 z (Or.inl hz)) l1, l2, ctB_le (by omega) z1, fun j hj => ctB_le (by omega) (z2 j hj), fun hb => ctB_le (by omega) (z3 hb), z4, fun _ => rfl⟩ (by omega)
  · simp only [g1, g2, g3, true_and, and_true, mk577, ite_true]
    refine m_dig o (MI_c f1 lm) (fun x' y' hn' hx' h2 f2 t2 l2 => absurd (congrArg Prod.fst (hn.symm.trans hn')).symm hx') (fun hn' h2 f2 t2 l2 => ?_)
    rw [if_pos mk577, m_thrown, t2, if_pos rfl]
    try rw [if_pos rfl]
    rw [if_pos ⟨ok588, by decide, by rw [on588]; decide⟩, show (0 : Int).toNat = 0 from rfl, f2 588 (Or.inr (by omega)), o1, if_pos (by rw [if_pos rfl])]
    have lW := lc.2.2.2.2.2.1
    have zo : ctB (61 * t + 1) (dOrd 0 w (X.2 (wr ((i : Int) + 1)).toNat) (X.2 (wr ((i : Int) + 2)).toNat) 0 W) := ct_ord (by decide) o lW hn (by omega) z1
    exact H h2 e _ _ _ (Or.inr ⟨_, rfl⟩) ⟨dOrd 0 w (X.2 (wr ((i : Int) + 1)).toNat) (X.2 (wr ((i : Int) + 2)).toNat) 0 W, pC c, pU2 c U w, b, r, k1, k2, W, I, L, f, CI_f (fun z hz => f2 z (Or.inl hz)) l1, l2, ctB_le (by omega) zo, pU2_ct (ctB_le (by omega) z1) (fun j hj => ctB_le (by omega) (z2 j hj)) lm.2.1.2.1, fun hb => ctB_le (by omega) (z3 hb), z4, z5⟩ (by omega)
theorem ar_deepen (hi : i + 4 ≤ X.1) (hX : X.1 ≤ 2048) (ht : t < 1000) (l : SI h t) (H : NX X Q i t e) (j7 j8 : eV) : eP X m_L_law 73 [vR 1000, vR 1, vR 577, vR 588, vR 589, vI (i : Int), vJ, j7, j8] [] (eNT, e, ewP, h) Q := by
  obtain ⟨w, c, U, b, r, k1, k2, W, I, L, f, lc, lm, z1, z2, z3, z4, z5⟩ := l
  obtain ⟨N, R, T, o, -⟩ := id lc.1
  refine bk_L_law_73 X 1000 1 577 588 589 i j7 j8 eNT e ewP h Q ?_
  have g1 := sx1 (i := i) X hi hX
  have g2 := sx2 (i := i) X hi hX
  have g3 := sx3 (i := i) X hi hX
  simp only [g1, g2, g3, true_and, and_true, ite_true]
  refine wl_deepen lc (fun x y hn hx h1 f1 l1 => ?_) (fun hn h1 f1 o1 l1 => ?_)
  · simp only [g1, g2, g3, true_and, and_true, mk577, ite_true]
    refine m_deepen o (MI_c (fun z h2 _ => f1 z h2) lm) (fun x' y' hn' hx' h2 f2 t2 l2 => ?_) (fun hn' => absurd (congrArg Prod.fst (hn.symm.trans hn')) hx)
    have e1 := hn.symm.trans hn'
    have e2 : x = x' := congrArg Prod.fst e1
    have e3 : y = y' := congrArg Prod.snd e1
    subst e2
    subst e3
    rw [if_pos mk577, m_thrown, t2, if_pos rfl]
    try rw [if_neg (by decide)]
    exact H h2 (e + 1) _ _ _ (Or.inr ⟨_, rfl⟩) ⟨w, c, U, b, r, (x, y), (0, 0), W, I, L, f, CI_f (fun z hz => f2 z (Or.inl hz)) l1, l2, ctB_le (by omega) z1, fun j hj => ctB_le (by omega) (z2 j hj), fun hb => ctB_le (by omega) (z3 hb), z4, fun _ => rfl⟩ (by omega)
  · simp only [g1, g2, g3, true_and, and_true, mk577, ite_true]
    refine m_deepen o (MI_c f1 lm) (fun x' y' hn' hx' h2 f2 t2 l2 => absurd (congrArg Prod.fst (hn.symm.trans hn')).symm hx') (fun hn' h2 f2 t2 l2 => ?_)
    rw [if_pos mk577, m_thrown, t2, if_pos rfl]
    try rw [if_pos rfl]
    rw [if_pos ⟨ok588, by decide, by rw [on588]; decide⟩, show (0 : Int).toNat = 0 from rfl, f2 588 (Or.inr (by omega)), o1, if_pos (by rw [if_pos rfl])]
    have lW := lc.2.2.2.2.2.1
    have zo : ctB (61 * t + 1) (dOrd 1 w (X.2 (wr ((i : Int) + 1)).toNat) (X.2 (wr ((i : Int) + 2)).toNat) 0 W) := ct_ord (by decide) o lW hn (by omega) z1
    exact H h2 e _ _ _ (Or.inr ⟨_, rfl⟩) ⟨dOrd 1 w (X.2 (wr ((i : Int) + 1)).toNat) (X.2 (wr ((i : Int) + 2)).toNat) 0 W, pC c, pU2 c U w, b, r, k1, k2, W, I, L, f, CI_f (fun z hz => f2 z (Or.inl hz)) l1, l2, ctB_le (by omega) zo, pU2_ct (ctB_le (by omega) z1) (fun j hj => ctB_le (by omega) (z2 j hj)) lm.2.1.2.1, fun hb => ctB_le (by omega) (z3 hb), z4, z5⟩ (by omega)
theorem ar_deepenb (hi : i + 4 ≤ X.1) (hX : X.1 ≤ 2048) (ht : t < 1000) (l : SI h t) (H : NX X Q i t e) (j6 : Int) (j7 j8 : eV) : eP X m_L_law 73 [vR 1000, vR 1, vR 577, vR 588, vR 589, vI (i : Int), vI j6, j7, j8] [] (eNT, e, ewP, h) Q := by
  obtain ⟨w, c, U, b, r, k1, k2, W, I, L, f, lc, lm, z1, z2, z3, z4, z5⟩ := l
  obtain ⟨N, R, T, o, -⟩ := id lc.1
  refine bk_L_law_73b X 1000 1 577 588 589 i j6 j7 j8 eNT e ewP h Q ?_
  have g1 := sx1 (i := i) X hi hX
  have g2 := sx2 (i := i) X hi hX
  have g3 := sx3 (i := i) X hi hX
  simp only [g1, g2, g3, true_and, and_true, ite_true]
  refine wl_deepen lc (fun x y hn hx h1 f1 l1 => ?_) (fun hn h1 f1 o1 l1 => ?_)
  · simp only [g1, g2, g3, true_and, and_true, mk577, ite_true]
    refine m_deepen o (MI_c (fun z h2 _ => f1 z h2) lm) (fun x' y' hn' hx' h2 f2 t2 l2 => ?_) (fun hn' => absurd (congrArg Prod.fst (hn.symm.trans hn')) hx)
    have e1 := hn.symm.trans hn'
    have e2 : x = x' := congrArg Prod.fst e1
    have e3 : y = y' := congrArg Prod.snd e1
    subst e2
    subst e3
    rw [if_pos mk577, m_thrown, t2, if_pos rfl]
    try rw [if_neg (by decide)]
    exact H h2 (e + 1) _ _ _ (Or.inr ⟨_, rfl⟩) ⟨w, c, U, b, r, (x, y), (0, 0), W, I, L, f, CI_f (fun z hz => f2 z (Or.inl hz)) l1, l2, ctB_le (by omega) z1, fun j hj => ctB_le (by omega) (z2 j hj), fun hb => ctB_le (by omega) (z3 hb), z4, fun _ => rfl⟩ (by omega)
  · simp only [g1, g2, g3, true_and, and_true, mk577, ite_true]
    refine m_deepen o (MI_c f1 lm) (fun x' y' hn' hx' h2 f2 t2 l2 => absurd (congrArg Prod.fst (hn.symm.trans hn')).symm hx') (fun hn' h2 f2 t2 l2 => ?_)
    rw [if_pos mk577, m_thrown, t2, if_pos rfl]
    try rw [if_pos rfl]
    rw [if_pos ⟨ok588, by decide, by rw [on588]; decide⟩, show (0 : Int).toNat = 0 from rfl, f2 588 (Or.inr (by omega)), o1, if_pos (by rw [if_pos rfl])]
    have lW := lc.2.2.2.2.2.1
    have zo : ctB (61 * t + 1) (dOrd 1 w (X.2 (wr ((i : Int) + 1)).toNat) (X.2 (wr ((i : Int) + 2)).toNat) 0 W) := ct_ord (by decide) o lW hn (by omega) z1
    exact H h2 e _ _ _ (Or.inr ⟨_, rfl⟩) ⟨dOrd 1 w (X.2 (wr ((i : Int) + 1)).toNat) (X.2 (wr ((i : Int) + 2)).toNat) 0 W, pC c, pU2 c U w, b, r, k1, k2, W, I, L, f, CI_f (fun z hz => f2 z (Or.inl hz)) l1, l2, ctB_le (by omega) zo, pU2_ct (ctB_le (by omega) z1) (fun j hj => ctB_le (by omega) (z2 j hj)) lm.2.1.2.1, fun hb => ctB_le (by omega) (z3 hb), z4, z5⟩ (by omega)
theorem ar_fill (hi : i + 4 ≤ X.1) (hX : X.1 ≤ 2048) (ht : t < 1000) (l : SI h t) (H : NX X Q i t e) (j7 j8 : eV) : eP X m_L_law 118 [vR 1000, vR 1, vR 577, vR 588, vR 589, vI (i : Int), vJ, j7, j8] [] (eNT, e, ewP, h) Q := by
  obtain ⟨w, c, U, b, r, k1, k2, W, I, L, f, lc, lm, z1, z2, z3, z4, z5⟩ := l
  obtain ⟨N, R, T, o, -⟩ := id lc.1
  refine bk_L_law_118 X 1000 1 577 588 589 i j7 j8 eNT e ewP h Q ?_
  have g1 := sx1 (i := i) X hi hX
  have g2 := sx2 (i := i) X hi hX
  have g3 := sx3 (i := i) X hi hX
  simp only [g1, g2, g3, true_and, and_true, ite_true]
  refine wl_fill lc (fun x y hn hx h1 f1 l1 => ?_) (fun hn h1 f1 o1 l1 => ?_)
  · simp only [g1, g2, g3, true_and, and_true, mk577, ite_true]
    refine m_fill o (MI_c (fun z h2 _ => f1 z h2) lm) (fun x' y' hn' hx' h2 f2 t2 l2 => ?_) (fun hn' => absurd (congrArg Prod.fst (hn.symm.trans hn')) hx)
    have e1 := hn.symm.trans hn'
    have e2 : x = x' := congrArg Prod.fst e1
    have e3 : y = y' := congrArg Prod.snd e1
    subst e2
    subst e3
    rw [if_pos mk577, m_thrown, t2, if_pos rfl]
    try rw [if_neg (by decide)]
    exact H h2 (e + 1) _ _ _ (Or.inr ⟨_, rfl⟩) ⟨w, c, U, b, r, (x, y), (0, 0), W, I, L, f, CI_f (fun z hz => f2 z (Or.inl hz)) l1, l2, ctB_le (by omega) z1, fun j hj => ctB_le (by omega) (z2 j hj), fun hb => ctB_le (by omega) (z3 hb), z4, fun _ => rfl⟩ (by omega)
  · simp only [g1, g2, g3, true_and, and_true, mk577, ite_true]
    refine m_fill o (MI_c f1 lm) (fun x' y' hn' hx' h2 f2 t2 l2 => absurd (congrArg Prod.fst (hn.symm.trans hn')).symm hx') (fun hn' h2 f2 t2 l2 => ?_)
    rw [if_pos mk577, m_thrown, t2, if_pos rfl]
    try rw [if_pos rfl]
    rw [if_pos ⟨ok588, by decide, by rw [on588]; decide⟩, show (0 : Int).toNat = 0 from rfl, f2 588 (Or.inr (by omega)), o1, if_pos (by rw [if_pos rfl])]
    have lW := lc.2.2.2.2.2.1
    have zo : ctB (61 * t + 1) (dOrd 2 w (X.2 (wr ((i : Int) + 1)).toNat) 0 0 W) := ct_ord (by decide) o lW hn (by omega) z1
    exact H h2 e _ _ _ (Or.inr ⟨_, rfl⟩) ⟨dOrd 2 w (X.2 (wr ((i : Int) + 1)).toNat) 0 0 W, pC c, pU2 c U w, b, r, k1, k2, W, I, L, f, CI_f (fun z hz => f2 z (Or.inl hz)) l1, l2, ctB_le (by omega) zo, pU2_ct (ctB_le (by omega) z1) (fun j hj => ctB_le (by omega) (z2 j hj)) lm.2.1.2.1, fun hb => ctB_le (by omega) (z3 hb), z4, z5⟩ (by omega)
theorem ar_fillb (hi : i + 4 ≤ X.1) (hX : X.1 ≤ 2048) (ht : t < 1000) (l : SI h t) (H : NX X Q i t e) (j6 : Int) (j7 j8 : eV) : eP X m_L_law 118 [vR 1000, vR 1, vR 577, vR 588, vR 589, vI (i : Int), vI j6, j7, j8] [] (eNT, e, ewP, h) Q := by
  obtain ⟨w, c, U, b, r, k1, k2, W, I, L, f, lc, lm, z1, z2, z3, z4, z5⟩ := l
  obtain ⟨N, R, T, o, -⟩ := id lc.1
  refine bk_L_law_118b X 1000 1 577 588 589 i j6 j7 j8 eNT e ewP h Q ?_
  have g1 := sx1 (i := i) X hi hX
  have g2 := sx2 (i := i) X hi hX
  have g3 := sx3 (i := i) X hi hX
  simp only [g1, g2, g3, true_and, and_true, ite_true]
  refine wl_fill lc (fun x y hn hx h1 f1 l1 => ?_) (fun hn h1 f1 o1 l1 => ?_)
  · simp only [g1, g2, g3, true_and, and_true, mk577, ite_true]
    refine m_fill o (MI_c (fun z h2 _ => f1 z h2) lm) (fun x' y' hn' hx' h2 f2 t2 l2 => ?_) (fun hn' => absurd (congrArg Prod.fst (hn.symm.trans hn')) hx)
    have e1 := hn.symm.trans hn'
    have e2 : x = x' := congrArg Prod.fst e1
    have e3 : y = y' := congrArg Prod.snd e1
    subst e2
    subst e3
    rw [if_pos mk577, m_thrown, t2, if_pos rfl]
    try rw [if_neg (by decide)]
    exact H h2 (e + 1) _ _ _ (Or.inr ⟨_, rfl⟩) ⟨w, c, U, b, r, (x, y), (0, 0), W, I, L, f, CI_f (fun z hz => f2 z (Or.inl hz)) l1, l2, ctB_le (by omega) z1, fun j hj => ctB_le (by omega) (z2 j hj), fun hb => ctB_le (by omega) (z3 hb), z4, fun _ => rfl⟩ (by omega)
  · simp only [g1, g2, g3, true_and, and_true, mk577, ite_true]
    refine m_fill o (MI_c f1 lm) (fun x' y' hn' hx' h2 f2 t2 l2 => absurd (congrArg Prod.fst (hn.symm.trans hn')).symm hx') (fun hn' h2 f2 t2 l2 => ?_)
    rw [if_pos mk577, m_thrown, t2, if_pos rfl]
    try rw [if_pos rfl]
    rw [if_pos ⟨ok588, by decide, by rw [on588]; decide⟩, show (0 : Int).toNat = 0 from rfl, f2 588 (Or.inr (by omega)), o1, if_pos (by rw [if_pos rfl])]
    have lW := lc.2.2.2.2.2.1
    have zo : ctB (61 * t + 1) (dOrd 2 w (X.2 (wr ((i : Int) + 1)).toNat) 0 0 W) := ct_ord (by decide) o lW hn (by omega) z1
    exact H h2 e _ _ _ (Or.inr ⟨_, rfl⟩) ⟨dOrd 2 w (X.2 (wr ((i : Int) + 1)).toNat) 0 0 W, pC c, pU2 c U w, b, r, k1, k2, W, I, L, f, CI_f (fun z hz => f2 z (Or.inl hz)) l1, l2, ctB_le (by omega) zo, pU2_ct (ctB_le (by omega) z1) (fun j hj => ctB_le (by omega) (z2 j hj)) lm.2.1.2.1, fun hb => ctB_le (by omega) (z3 hb), z4, z5⟩ (by omega)
theorem ar_coin (hi : i + 4 ≤ X.1) (hX : X.1 ≤ 2048) (ht : t < 1000) (l : SI h t) (H : NX X Q i t e) (j7 j8 : eV) : eP X m_L_law 153 [vR 1000, vR 1, vR 577, vR 588, vR 589, vI (i : Int), vJ, j7, j8] [] (eNT, e, ewP, h) Q := by
  obtain ⟨w, c, U, b, r, k1, k2, W, I, L, f, lc, lm, z1, z2, z3, z4, z5⟩ := l
  obtain ⟨N, R, T, o, -⟩ := id lc.1
  refine bk_L_law_153 X 1000 1 577 588 589 i j7 j8 eNT e ewP h Q ?_
  have g1 := sx1 (i := i) X hi hX
  have g2 := sx2 (i := i) X hi hX
  have g3 := sx3 (i := i) X hi hX
  simp only [g1, g2, g3, true_and, and_true, ite_true]
  refine wl_coin lc (fun x y hn hx h1 f1 l1 => ?_) (fun hn h1 f1 o1 l1 => ?_)
  · simp only [g1, g2, g3, true_and, and_true, mk577, ite_true]
    refine m_coin o (MI_c (fun z h2 _ => f1 z h2) lm) (fun x' y' hn' hx' h2 f2 t2 l2 => ?_) (fun hn' => absurd (congrArg Prod.fst (hn.symm.trans hn')) hx)
    have e1 := hn.symm.trans hn'
    have e2 : x = x' := congrArg Prod.fst e1
    have e3 : y = y' := congrArg Prod.snd e1
    subst e2
    subst e3
    rw [if_pos mk577, m_thrown, t2, if_pos rfl]
    try rw [if_neg (by decide)]
    exact H h2 (e + 1) _ _ _ (Or.inr ⟨_, rfl⟩) ⟨w, c, U, b, r, (x, y), (0, 0), W, I, L, f, CI_f (fun z hz => f2 z (Or.inl hz)) l1, l2, ctB_le (by omega) z1, fun j hj => ctB_le (by omega) (z2 j hj), fun hb => ctB_le (by omega) (z3 hb), z4, fun _ => rfl⟩ (by omega)
  · simp only [g1, g2, g3, true_and, and_true, mk577, ite_true]
    refine m_coin o (MI_c f1 lm) (fun x' y' hn' hx' h2 f2 t2 l2 => absurd (congrArg Prod.fst (hn.symm.trans hn')).symm hx') (fun hn' h2 f2 t2 l2 => ?_)
    rw [if_pos mk577, m_thrown, t2, if_pos rfl]
    try rw [if_pos rfl]
    rw [if_pos ⟨ok588, by decide, by rw [on588]; decide⟩, show (0 : Int).toNat = 0 from rfl, f2 588 (Or.inr (by omega)), o1, if_pos (by rw [if_pos rfl])]
    have lW := lc.2.2.2.2.2.1
    have zo : ctB (61 * t + 1) (dOrd 3 w (X.2 (wr ((i : Int) + 1)).toNat) (X.2 (wr ((i : Int) + 2)).toNat) (X.2 (wr ((i : Int) + 3)).toNat) W) := ct_ord (by decide) o lW hn (by omega) z1
    exact H h2 e _ _ _ (Or.inr ⟨_, rfl⟩) ⟨dOrd 3 w (X.2 (wr ((i : Int) + 1)).toNat) (X.2 (wr ((i : Int) + 2)).toNat) (X.2 (wr ((i : Int) + 3)).toNat) W, pC c, pU2 c U w, b, r, k1, k2, W, I, L, f, CI_f (fun z hz => f2 z (Or.inl hz)) l1, l2, ctB_le (by omega) zo, pU2_ct (ctB_le (by omega) z1) (fun j hj => ctB_le (by omega) (z2 j hj)) lm.2.1.2.1, fun hb => ctB_le (by omega) (z3 hb), z4, z5⟩ (by omega)
theorem ar_coinb (hi : i + 4 ≤ X.1) (hX : X.1 ≤ 2048) (ht : t < 1000) (l : SI h t) (H : NX X Q i t e) (j6 : Int) (j7 j8 : eV) : eP X m_L_law 153 [vR 1000, vR 1, vR 577, vR 588, vR 589, vI (i : Int), vI j6, j7, j8] [] (eNT, e, ewP, h) Q := by
  obtain ⟨w, c, U, b, r, k1, k2, W, I, L, f, lc, lm, z1, z2, z3, z4, z5⟩ := l
  obtain ⟨N, R, T, o, -⟩ := id lc.1
  refine bk_L_law_153b X 1000 1 577 588 589 i j6 j7 j8 eNT e ewP h Q ?_
  have g1 := sx1 (i := i) X hi hX
  have g2 := sx2 (i := i) X hi hX
  have g3 := sx3 (i := i) X hi hX
  simp only [g1, g2, g3, true_and, and_true, ite_true]
  refine wl_coin lc (fun x y hn hx h1 f1 l1 => ?_) (fun hn h1 f1 o1 l1 => ?_)
  · simp only [g1, g2, g3, true_and, and_true, mk577, ite_true]
    refine m_coin o (MI_c (fun z h2 _ => f1 z h2) lm) (fun x' y' hn' hx' h2 f2 t2 l2 => ?_) (fun hn' => absurd (congrArg Prod.fst (hn.symm.trans hn')) hx)
    have e1 := hn.symm.trans hn'
    have e2 : x = x' := congrArg Prod.fst e1
    have e3 : y = y' := congrArg Prod.snd e1
    subst e2
    subst e3
    rw [if_pos mk577, m_thrown, t2, if_pos rfl]
    try rw [if_neg (by decide)]
    exact H h2 (e + 1) _ _ _ (Or.inr ⟨_, rfl⟩) ⟨w, c, U, b, r, (x, y), (0, 0), W, I, L, f, CI_f (fun z hz => f2 z (Or.inl hz)) l1, l2, ctB_le (by omega) z1, fun j hj => ctB_le (by omega) (z2 j hj), fun hb => ctB_le (by omega) (z3 hb), z4, fun _ => rfl⟩ (by omega)
  · simp only [g1, g2, g3, true_and, and_true, mk577, ite_true]
    refine m_coin o (MI_c f1 lm) (fun x' y' hn' hx' h2 f2 t2 l2 => absurd (congrArg Prod.fst (hn.symm.trans hn')).symm hx') (fun hn' h2 f2 t2 l2 => ?_)
    rw [if_pos mk577, m_thrown, t2, if_pos rfl]
    try rw [if_pos rfl]
    rw [if_pos ⟨ok588, by decide, by rw [on588]; decide⟩, show (0 : Int).toNat = 0 from rfl, f2 588 (Or.inr (by omega)), o1, if_pos (by rw [if_pos rfl])]
    have lW := lc.2.2.2.2.2.1
    have zo : ctB (61 * t + 1) (dOrd 3 w (X.2 (wr ((i : Int) + 1)).toNat) (X.2 (wr ((i : Int) + 2)).toNat) (X.2 (wr ((i : Int) + 3)).toNat) W) := ct_ord (by decide) o lW hn (by omega) z1
    exact H h2 e _ _ _ (Or.inr ⟨_, rfl⟩) ⟨dOrd 3 w (X.2 (wr ((i : Int) + 1)).toNat) (X.2 (wr ((i : Int) + 2)).toNat) (X.2 (wr ((i : Int) + 3)).toNat) W, pC c, pU2 c U w, b, r, k1, k2, W, I, L, f, CI_f (fun z hz => f2 z (Or.inl hz)) l1, l2, ctB_le (by omega) zo, pU2_ct (ctB_le (by omega) z1) (fun j hj => ctB_le (by omega) (z2 j hj)) lm.2.1.2.1, fun hb => ctB_le (by omega) (z3 hb), z4, z5⟩ (by omega)
theorem ar_frog (hi : i + 4 ≤ X.1) (hX : X.1 ≤ 2048) (ht : t < 1000) (l : SI h t) (H : NX X Q i t e) (j7 j8 : eV) : eP X m_L_law 208 [vR 1000, vR 1, vR 577, vR 588, vR 589, vI (i : Int), vJ, j7, j8] [] (eNT, e, ewP, h) Q := by
  obtain ⟨w, c, U, b, r, k1, k2, W, I, L, f, lc, lm, z1, z2, z3, z4, z5⟩ := l
  obtain ⟨N, R, T, o, -⟩ := id lc.1
  refine bk_L_law_208 X 1000 1 577 588 589 i j7 j8 eNT e ewP h Q ?_
  have g1 := sx1 (i := i) X hi hX
  have g2 := sx2 (i := i) X hi hX
  have g3 := sx3 (i := i) X hi hX
  simp only [g1, g2, g3, true_and, and_true, ite_true]
  refine wl_frog lc (fun x y hn hx h1 f1 l1 => ?_) (fun hn h1 f1 o1 l1 => ?_)
  · simp only [g1, g2, g3, true_and, and_true, mk577, ite_true]
    refine m_frog o (MI_c (fun z h2 _ => f1 z h2) lm) (fun x' y' hn' hx' h2 f2 t2 l2 => ?_) (fun hn' => absurd (congrArg Prod.fst (hn.symm.trans hn')) hx)
    have e1 := hn.symm.trans hn'
    have e2 : x = x' := congrArg Prod.fst e1
    have e3 : y = y' := congrArg Prod.snd e1
    subst e2
    subst e3
    rw [if_pos mk577, m_thrown, t2, if_pos rfl]
    try rw [if_neg (by decide)]
    exact H h2 (e + 1) _ _ _ (Or.inr ⟨_, rfl⟩) ⟨w, c, U, b, r, (x, y), (0, 0), W, I, L, f, CI_f (fun z hz => f2 z (Or.inl hz)) l1, l2, ctB_le (by omega) z1, fun j hj => ctB_le (by omega) (z2 j hj), fun hb => ctB_le (by omega) (z3 hb), z4, fun _ => rfl⟩ (by omega)
  · simp only [g1, g2, g3, true_and, and_true, mk577, ite_true]
    refine m_frog o (MI_c f1 lm) (fun x' y' hn' hx' h2 f2 t2 l2 => absurd (congrArg Prod.fst (hn.symm.trans hn')).symm hx') (fun hn' h2 f2 t2 l2 => ?_)
    rw [if_pos mk577, m_thrown, t2, if_pos rfl]
    try rw [if_pos rfl]
    rw [if_pos ⟨ok588, by decide, by rw [on588]; decide⟩, show (0 : Int).toNat = 0 from rfl, f2 588 (Or.inr (by omega)), o1, if_pos (by rw [if_pos rfl])]
    have lW := lc.2.2.2.2.2.1
    have zo : ctB (61 * t + 1) (dOrd 4 w (X.2 (wr ((i : Int) + 1)).toNat) (X.2 (wr ((i : Int) + 2)).toNat) (X.2 (wr ((i : Int) + 3)).toNat % 65536) W) := ct_ord (by decide) o lW hn (by omega) z1
    exact H h2 e _ _ _ (Or.inr ⟨_, rfl⟩) ⟨dOrd 4 w (X.2 (wr ((i : Int) + 1)).toNat) (X.2 (wr ((i : Int) + 2)).toNat) (X.2 (wr ((i : Int) + 3)).toNat % 65536) W, pC c, pU2 c U w, b, r, k1, k2, W, I, L, f, CI_f (fun z hz => f2 z (Or.inl hz)) l1, l2, ctB_le (by omega) zo, pU2_ct (ctB_le (by omega) z1) (fun j hj => ctB_le (by omega) (z2 j hj)) lm.2.1.2.1, fun hb => ctB_le (by omega) (z3 hb), z4, z5⟩ (by omega)
theorem ar_frogb (hi : i + 4 ≤ X.1) (hX : X.1 ≤ 2048) (ht : t < 1000) (l : SI h t) (H : NX X Q i t e) (j6 : Int) (j7 j8 : eV) : eP X m_L_law 208 [vR 1000, vR 1, vR 577, vR 588, vR 589, vI (i : Int), vI j6, j7, j8] [] (eNT, e, ewP, h) Q := by
  obtain ⟨w, c, U, b, r, k1, k2, W, I, L, f, lc, lm, z1, z2, z3, z4, z5⟩ := l
  obtain ⟨N, R, T, o, -⟩ := id lc.1
  refine bk_L_law_208b X 1000 1 577 588 589 i j6 j7 j8 eNT e ewP h Q ?_
  have g1 := sx1 (i := i) X hi hX
  have g2 := sx2 (i := i) X hi hX
  have g3 := sx3 (i := i) X hi hX
  simp only [g1, g2, g3, true_and, and_true, ite_true]
  refine wl_frog lc (fun x y hn hx h1 f1 l1 => ?_) (fun hn h1 f1 o1 l1 => ?_)
  · simp only [g1, g2, g3, true_and, and_true, mk577, ite_true]
    refine m_frog o (MI_c (fun z h2 _ => f1 z h2) lm) (fun x' y' hn' hx' h2 f2 t2 l2 => ?_) (fun hn' => absurd (congrArg Prod.fst (hn.symm.trans hn')) hx)
    have e1 := hn.symm.trans hn'
    have e2 : x = x' := congrArg Prod.fst e1
    have e3 : y = y' := congrArg Prod.snd e1
    subst e2
    subst e3
    rw [if_pos mk577, m_thrown, t2, if_pos rfl]
    try rw [if_neg (by decide)]
    exact H h2 (e + 1) _ _ _ (Or.inr ⟨_, rfl⟩) ⟨w, c, U, b, r, (x, y), (0, 0), W, I, L, f, CI_f (fun z hz => f2 z (Or.inl hz)) l1, l2, ctB_le (by omega) z1, fun j hj => ctB_le (by omega) (z2 j hj), fun hb => ctB_le (by omega) (z3 hb), z4, fun _ => rfl⟩ (by omega)
  · simp only [g1, g2, g3, true_and, and_true, mk577, ite_true]
    refine m_frog o (MI_c f1 lm) (fun x' y' hn' hx' h2 f2 t2 l2 => absurd (congrArg Prod.fst (hn.symm.trans hn')).symm hx') (fun hn' h2 f2 t2 l2 => ?_)
    rw [if_pos mk577, m_thrown, t2, if_pos rfl]
    try rw [if_pos rfl]
    rw [if_pos ⟨ok588, by decide, by rw [on588]; decide⟩, show (0 : Int).toNat = 0 from rfl, f2 588 (Or.inr (by omega)), o1, if_pos (by rw [if_pos rfl])]
    have lW := lc.2.2.2.2.2.1
    have zo : ctB (61 * t + 1) (dOrd 4 w (X.2 (wr ((i : Int) + 1)).toNat) (X.2 (wr ((i : Int) + 2)).toNat) (X.2 (wr ((i : Int) + 3)).toNat % 65536) W) := ct_ord (by decide) o lW hn (by omega) z1
    exact H h2 e _ _ _ (Or.inr ⟨_, rfl⟩) ⟨dOrd 4 w (X.2 (wr ((i : Int) + 1)).toNat) (X.2 (wr ((i : Int) + 2)).toNat) (X.2 (wr ((i : Int) + 3)).toNat % 65536) W, pC c, pU2 c U w, b, r, k1, k2, W, I, L, f, CI_f (fun z hz => f2 z (Or.inl hz)) l1, l2, ctB_le (by omega) zo, pU2_ct (ctB_le (by omega) z1) (fun j hj => ctB_le (by omega) (z2 j hj)) lm.2.1.2.1, fun hb => ctB_le (by omega) (z3 hb), z4, z5⟩ (by omega)
theorem ar_moss (hi : i + 4 ≤ X.1) (hX : X.1 ≤ 2048) (ht : t < 1000) (l : SI h t) (H : NX X Q i t e) (j7 j8 : eV) : eP X m_L_law 265 [vR 1000, vR 1, vR 577, vR 588, vR 589, vI (i : Int), vJ, j7, j8] [] (eNT, e, ewP, h) Q := by
  obtain ⟨w, c, U, b, r, k1, k2, W, I, L, f, lc, lm, z1, z2, z3, z4, z5⟩ := l
  obtain ⟨N, R, T, o, -⟩ := id lc.1
  refine bk_L_law_265 X 1000 1 577 588 589 i j7 j8 eNT e ewP h Q ?_
  have g1 := sx1 (i := i) X hi hX
  have g2 := sx2 (i := i) X hi hX
  have g3 := sx3 (i := i) X hi hX
  simp only [g1, g2, g3, true_and, and_true, ite_true]
  refine wl_moss lc (fun x y hn hx h1 f1 l1 => ?_) (fun hn h1 f1 o1 l1 => ?_)
  · simp only [g1, g2, g3, true_and, and_true, mk577, ite_true]
    refine m_moss o (MI_c (fun z h2 _ => f1 z h2) lm) (fun x' y' hn' hx' h2 f2 t2 l2 => ?_) (fun hn' => absurd (congrArg Prod.fst (hn.symm.trans hn')) hx)
    have e1 := hn.symm.trans hn'
    have e2 : x = x' := congrArg Prod.fst e1
    have e3 : y = y' := congrArg Prod.snd e1
    subst e2
    subst e3
    rw [if_pos mk577, m_thrown, t2, if_pos rfl]
    try rw [if_neg (by decide)]
    exact H h2 (e + 1) _ _ _ (Or.inr ⟨_, rfl⟩) ⟨w, c, U, b, r, (x, y), (0, 0), W, I, L, f, CI_f (fun z hz => f2 z (Or.inl hz)) l1, l2, ctB_le (by omega) z1, fun j hj => ctB_le (by omega) (z2 j hj), fun hb => ctB_le (by omega) (z3 hb), z4, fun _ => rfl⟩ (by omega)
  · simp only [g1, g2, g3, true_and, and_true, mk577, ite_true]
    refine m_moss o (MI_c f1 lm) (fun x' y' hn' hx' h2 f2 t2 l2 => absurd (congrArg Prod.fst (hn.symm.trans hn')).symm hx') (fun hn' h2 f2 t2 l2 => ?_)
    rw [if_pos mk577, m_thrown, t2, if_pos rfl]
    try rw [if_pos rfl]
    rw [if_pos ⟨ok588, by decide, by rw [on588]; decide⟩, show (0 : Int).toNat = 0 from rfl, f2 588 (Or.inr (by omega)), o1, if_pos (by rw [if_pos rfl])]
    have lW := lc.2.2.2.2.2.1
    have zo : ctB (61 * t + 1) (dOrd 5 w (X.2 (wr ((i : Int) + 1)).toNat) (X.2 (wr ((i : Int) + 2)).toNat) (X.2 (wr ((i : Int) + 3)).toNat) W) := ct_ord (by decide) o lW hn (by omega) z1
    exact H h2 e _ _ _ (Or.inr ⟨_, rfl⟩) ⟨dOrd 5 w (X.2 (wr ((i : Int) + 1)).toNat) (X.2 (wr ((i : Int) + 2)).toNat) (X.2 (wr ((i : Int) + 3)).toNat) W, pC c, pU2 c U w, b, r, k1, k2, W, I, L, f, CI_f (fun z hz => f2 z (Or.inl hz)) l1, l2, ctB_le (by omega) zo, pU2_ct (ctB_le (by omega) z1) (fun j hj => ctB_le (by omega) (z2 j hj)) lm.2.1.2.1, fun hb => ctB_le (by omega) (z3 hb), z4, z5⟩ (by omega)
theorem ar_mossb (hi : i + 4 ≤ X.1) (hX : X.1 ≤ 2048) (ht : t < 1000) (l : SI h t) (H : NX X Q i t e) (j6 : Int) (j7 j8 : eV) : eP X m_L_law 265 [vR 1000, vR 1, vR 577, vR 588, vR 589, vI (i : Int), vI j6, j7, j8] [] (eNT, e, ewP, h) Q := by
  obtain ⟨w, c, U, b, r, k1, k2, W, I, L, f, lc, lm, z1, z2, z3, z4, z5⟩ := l
  obtain ⟨N, R, T, o, -⟩ := id lc.1
  refine bk_L_law_265b X 1000 1 577 588 589 i j6 j7 j8 eNT e ewP h Q ?_
  have g1 := sx1 (i := i) X hi hX
  have g2 := sx2 (i := i) X hi hX
  have g3 := sx3 (i := i) X hi hX
  simp only [g1, g2, g3, true_and, and_true, ite_true]
  refine wl_moss lc (fun x y hn hx h1 f1 l1 => ?_) (fun hn h1 f1 o1 l1 => ?_)
  · simp only [g1, g2, g3, true_and, and_true, mk577, ite_true]
    refine m_moss o (MI_c (fun z h2 _ => f1 z h2) lm) (fun x' y' hn' hx' h2 f2 t2 l2 => ?_) (fun hn' => absurd (congrArg Prod.fst (hn.symm.trans hn')) hx)
    have e1 := hn.symm.trans hn'
    have e2 : x = x' := congrArg Prod.fst e1
    have e3 : y = y' := congrArg Prod.snd e1
    subst e2
    subst e3
    rw [if_pos mk577, m_thrown, t2, if_pos rfl]
    try rw [if_neg (by decide)]
    exact H h2 (e + 1) _ _ _ (Or.inr ⟨_, rfl⟩) ⟨w, c, U, b, r, (x, y), (0, 0), W, I, L, f, CI_f (fun z hz => f2 z (Or.inl hz)) l1, l2, ctB_le (by omega) z1, fun j hj => ctB_le (by omega) (z2 j hj), fun hb => ctB_le (by omega) (z3 hb), z4, fun _ => rfl⟩ (by omega)
  · simp only [g1, g2, g3, true_and, and_true, mk577, ite_true]
    refine m_moss o (MI_c f1 lm) (fun x' y' hn' hx' h2 f2 t2 l2 => absurd (congrArg Prod.fst (hn.symm.trans hn')).symm hx') (fun hn' h2 f2 t2 l2 => ?_)
    rw [if_pos mk577, m_thrown, t2, if_pos rfl]
    try rw [if_pos rfl]
    rw [if_pos ⟨ok588, by decide, by rw [on588]; decide⟩, show (0 : Int).toNat = 0 from rfl, f2 588 (Or.inr (by omega)), o1, if_pos (by rw [if_pos rfl])]
    have lW := lc.2.2.2.2.2.1
    have zo : ctB (61 * t + 1) (dOrd 5 w (X.2 (wr ((i : Int) + 1)).toNat) (X.2 (wr ((i : Int) + 2)).toNat) (X.2 (wr ((i : Int) + 3)).toNat) W) := ct_ord (by decide) o lW hn (by omega) z1
    exact H h2 e _ _ _ (Or.inr ⟨_, rfl⟩) ⟨dOrd 5 w (X.2 (wr ((i : Int) + 1)).toNat) (X.2 (wr ((i : Int) + 2)).toNat) (X.2 (wr ((i : Int) + 3)).toNat) W, pC c, pU2 c U w, b, r, k1, k2, W, I, L, f, CI_f (fun z hz => f2 z (Or.inl hz)) l1, l2, ctB_le (by omega) zo, pU2_ct (ctB_le (by omega) z1) (fun j hj => ctB_le (by omega) (z2 j hj)) lm.2.1.2.1, fun hb => ctB_le (by omega) (z3 hb), z4, z5⟩ (by omega)
theorem ar_take (hi : i + 4 ≤ X.1) (hX : X.1 ≤ 2048) (ht : t < 1000) (l : SI h t) (H : NX X Q i t e) (j7 j8 : eV) : eP X m_L_law 320 [vR 1000, vR 1, vR 577, vR 588, vR 589, vI (i : Int), vJ, j7, j8] [] (eNT, e, ewP, h) Q := by
  obtain ⟨w, c, U, b, r, k1, k2, W, I, L, f, lc, lm, z1, z2, z3, z4, z5⟩ := l
  obtain ⟨N, R, T, o, -⟩ := id lc.1
  refine bk_L_law_320 X 1000 1 577 588 589 i j7 j8 eNT e ewP h Q ?_
  have g1 := sx1 (i := i) X hi hX
  have g2 := sx2 (i := i) X hi hX
  have g3 := sx3 (i := i) X hi hX
  simp only [g1, g2, g3, true_and, and_true, ite_true]
  refine wl_take lc (fun x y hn hx h1 f1 l1 => ?_) (fun hn h1 f1 o1 l1 => ?_)
  · simp only [g1, g2, g3, true_and, and_true, mk577, ite_true]
    refine m_take o (MI_c (fun z h2 _ => f1 z h2) lm) (fun x' y' hn' hx' h2 f2 t2 l2 => ?_) (fun hn' => absurd (congrArg Prod.fst (hn.symm.trans hn')) hx)
    have e1 := hn.symm.trans hn'
    have e2 : x = x' := congrArg Prod.fst e1
    have e3 : y = y' := congrArg Prod.snd e1
    subst e2
    subst e3
    rw [if_pos mk577, m_thrown, t2, if_pos rfl]
    try rw [if_neg (by decide)]
    exact H h2 (e + 1) _ _ _ (Or.inr ⟨_, rfl⟩) ⟨w, c, U, b, r, (x, y), (0, 0), W, I, L, f, CI_f (fun z hz => f2 z (Or.inl hz)) l1, l2, ctB_le (by omega) z1, fun j hj => ctB_le (by omega) (z2 j hj), fun hb => ctB_le (by omega) (z3 hb), z4, fun _ => rfl⟩ (by omega)
  · simp only [g1, g2, g3, true_and, and_true, mk577, ite_true]
    refine m_take o (MI_c f1 lm) (fun x' y' hn' hx' h2 f2 t2 l2 => absurd (congrArg Prod.fst (hn.symm.trans hn')).symm hx') (fun hn' h2 f2 t2 l2 => ?_)
    rw [if_pos mk577, m_thrown, t2, if_pos rfl]
    try rw [if_pos rfl]
    rw [if_pos ⟨ok588, by decide, by rw [on588]; decide⟩, show (0 : Int).toNat = 0 from rfl, f2 588 (Or.inr (by omega)), o1, if_pos (by rw [if_pos rfl])]
    have lW := lc.2.2.2.2.2.1
    have zo : ctB (61 * t + 1) (dOrd 6 w (X.2 (wr ((i : Int) + 1)).toNat) (X.2 (wr ((i : Int) + 2)).toNat) 0 W) := ct_ord (by decide) o lW hn (by omega) z1
    exact H h2 e _ _ _ (Or.inr ⟨_, rfl⟩) ⟨dOrd 6 w (X.2 (wr ((i : Int) + 1)).toNat) (X.2 (wr ((i : Int) + 2)).toNat) 0 W, pC c, pU2 c U w, b, r, k1, k2, W, I, L, f, CI_f (fun z hz => f2 z (Or.inl hz)) l1, l2, ctB_le (by omega) zo, pU2_ct (ctB_le (by omega) z1) (fun j hj => ctB_le (by omega) (z2 j hj)) lm.2.1.2.1, fun hb => ctB_le (by omega) (z3 hb), z4, z5⟩ (by omega)
theorem ar_takeb (hi : i + 4 ≤ X.1) (hX : X.1 ≤ 2048) (ht : t < 1000) (l : SI h t) (H : NX X Q i t e) (j6 : Int) (j7 j8 : eV) : eP X m_L_law 320 [vR 1000, vR 1, vR 577, vR 588, vR 589, vI (i : Int), vI j6, j7, j8] [] (eNT, e, ewP, h) Q := by
  obtain ⟨w, c, U, b, r, k1, k2, W, I, L, f, lc, lm, z1, z2, z3, z4, z5⟩ := l
  obtain ⟨N, R, T, o, -⟩ := id lc.1
  refine bk_L_law_320b X 1000 1 577 588 589 i j6 j7 j8 eNT e ewP h Q ?_
  have g1 := sx1 (i := i) X hi hX
  have g2 := sx2 (i := i) X hi hX
  have g3 := sx3 (i := i) X hi hX
  simp only [g1, g2, g3, true_and, and_true, ite_true]
  refine wl_take lc (fun x y hn hx h1 f1 l1 => ?_) (fun hn h1 f1 o1 l1 => ?_)
  · simp only [g1, g2, g3, true_and, and_true, mk577, ite_true]
    refine m_take o (MI_c (fun z h2 _ => f1 z h2) lm) (fun x' y' hn' hx' h2 f2 t2 l2 => ?_) (fun hn' => absurd (congrArg Prod.fst (hn.symm.trans hn')) hx)
    have e1 := hn.symm.trans hn'
    have e2 : x = x' := congrArg Prod.fst e1
    have e3 : y = y' := congrArg Prod.snd e1
    subst e2
    subst e3
    rw [if_pos mk577, m_thrown, t2, if_pos rfl]
    try rw [if_neg (by decide)]
    exact H h2 (e + 1) _ _ _ (Or.inr ⟨_, rfl⟩) ⟨w, c, U, b, r, (x, y), (0, 0), W, I, L, f, CI_f (fun z hz => f2 z (Or.inl hz)) l1, l2, ctB_le (by omega) z1, fun j hj => ctB_le (by omega) (z2 j hj), fun hb => ctB_le (by omega) (z3 hb), z4, fun _ => rfl⟩ (by omega)
  · simp only [g1, g2, g3, true_and, and_true, mk577, ite_true]
    refine m_take o (MI_c f1 lm) (fun x' y' hn' hx' h2 f2 t2 l2 => absurd (congrArg Prod.fst (hn.symm.trans hn')).symm hx') (fun hn' h2 f2 t2 l2 => ?_)
    rw [if_pos mk577, m_thrown, t2, if_pos rfl]
    try rw [if_pos rfl]
    rw [if_pos ⟨ok588, by decide, by rw [on588]; decide⟩, show (0 : Int).toNat = 0 from rfl, f2 588 (Or.inr (by omega)), o1, if_pos (by rw [if_pos rfl])]
    have lW := lc.2.2.2.2.2.1
    have zo : ctB (61 * t + 1) (dOrd 6 w (X.2 (wr ((i : Int) + 1)).toNat) (X.2 (wr ((i : Int) + 2)).toNat) 0 W) := ct_ord (by decide) o lW hn (by omega) z1
    exact H h2 e _ _ _ (Or.inr ⟨_, rfl⟩) ⟨dOrd 6 w (X.2 (wr ((i : Int) + 1)).toNat) (X.2 (wr ((i : Int) + 2)).toNat) 0 W, pC c, pU2 c U w, b, r, k1, k2, W, I, L, f, CI_f (fun z hz => f2 z (Or.inl hz)) l1, l2, ctB_le (by omega) zo, pU2_ct (ctB_le (by omega) z1) (fun j hj => ctB_le (by omega) (z2 j hj)) lm.2.1.2.1, fun hb => ctB_le (by omega) (z3 hb), z4, z5⟩ (by omega)
theorem ar_rope (hi : i + 4 ≤ X.1) (hX : X.1 ≤ 2048) (ht : t < 1000) (l : SI h t) (H : NX X Q i t e) (j7 j8 : eV) : eP X m_L_law 372 [vR 1000, vR 1, vR 577, vR 588, vR 589, vI (i : Int), vJ, j7, j8] [] (eNT, e, ewP, h) Q := by
  obtain ⟨w, c, U, b, r, k1, k2, W, I, L, f, lc, lm, z1, z2, z3, z4, z5⟩ := l
  obtain ⟨N, R, T, o, -⟩ := id lc.1
  refine bk_L_law_372 X 1000 1 577 588 589 i j7 j8 eNT e ewP h Q ?_
  have g1 := sx1 (i := i) X hi hX
  have g2 := sx2 (i := i) X hi hX
  have g3 := sx3 (i := i) X hi hX
  simp only [g1, g2, g3, true_and, and_true, ite_true]
  refine wl_rope lc (fun x y hn hx h1 f1 l1 => ?_) (fun hn h1 f1 o1 l1 => ?_)
  · simp only [g1, g2, g3, true_and, and_true, mk577, ite_true]
    refine m_rope o (MI_c (fun z h2 _ => f1 z h2) lm) (fun x' y' hn' hx' h2 f2 t2 l2 => ?_) (fun hn' => absurd (congrArg Prod.fst (hn.symm.trans hn')) hx)
    have e1 := hn.symm.trans hn'
    have e2 : x = x' := congrArg Prod.fst e1
    have e3 : y = y' := congrArg Prod.snd e1
    subst e2
    subst e3
    rw [if_pos mk577, m_thrown, t2, if_pos rfl]
    try rw [if_neg (by decide)]
    exact H h2 (e + 1) _ _ _ (Or.inr ⟨_, rfl⟩) ⟨w, c, U, b, r, (x, y), (0, 0), W, I, L, f, CI_f (fun z hz => f2 z (Or.inl hz)) l1, l2, ctB_le (by omega) z1, fun j hj => ctB_le (by omega) (z2 j hj), fun hb => ctB_le (by omega) (z3 hb), z4, fun _ => rfl⟩ (by omega)
  · simp only [g1, g2, g3, true_and, and_true, mk577, ite_true]
    refine m_rope o (MI_c f1 lm) (fun x' y' hn' hx' h2 f2 t2 l2 => absurd (congrArg Prod.fst (hn.symm.trans hn')).symm hx') (fun hn' h2 f2 t2 l2 => ?_)
    rw [if_pos mk577, m_thrown, t2, if_pos rfl]
    try rw [if_pos rfl]
    rw [if_pos ⟨ok588, by decide, by rw [on588]; decide⟩, show (0 : Int).toNat = 0 from rfl, f2 588 (Or.inr (by omega)), o1, if_pos (by rw [if_pos rfl])]
    have lW := lc.2.2.2.2.2.1
    have zo : ctB (61 * t + 1) (dOrd 8 w (X.2 (wr ((i : Int) + 1)).toNat) 0 0 W) := ct_ord (by decide) o lW hn (by omega) z1
    exact H h2 e _ _ _ (Or.inr ⟨_, rfl⟩) ⟨dOrd 8 w (X.2 (wr ((i : Int) + 1)).toNat) 0 0 W, pC c, pU2 c U w, b, r, k1, k2, W, I, L, f, CI_f (fun z hz => f2 z (Or.inl hz)) l1, l2, ctB_le (by omega) zo, pU2_ct (ctB_le (by omega) z1) (fun j hj => ctB_le (by omega) (z2 j hj)) lm.2.1.2.1, fun hb => ctB_le (by omega) (z3 hb), z4, z5⟩ (by omega)
theorem ar_ropeb (hi : i + 4 ≤ X.1) (hX : X.1 ≤ 2048) (ht : t < 1000) (l : SI h t) (H : NX X Q i t e) (j6 : Int) (j7 j8 : eV) : eP X m_L_law 372 [vR 1000, vR 1, vR 577, vR 588, vR 589, vI (i : Int), vI j6, j7, j8] [] (eNT, e, ewP, h) Q := by
  obtain ⟨w, c, U, b, r, k1, k2, W, I, L, f, lc, lm, z1, z2, z3, z4, z5⟩ := l
  obtain ⟨N, R, T, o, -⟩ := id lc.1
  refine bk_L_law_372b X 1000 1 577 588 589 i j6 j7 j8 eNT e ewP h Q ?_
  have g1 := sx1 (i := i) X hi hX
  have g2 := sx2 (i := i) X hi hX
  have g3 := sx3 (i := i) X hi hX
  simp only [g1, g2, g3, true_and, and_true, ite_true]
  refine wl_rope lc (fun x y hn hx h1 f1 l1 => ?_) (fun hn h1 f1 o1 l1 => ?_)
  · simp only [g1, g2, g3, true_and, and_true, mk577, ite_true]
    refine m_rope o (MI_c (fun z h2 _ => f1 z h2) lm) (fun x' y' hn' hx' h2 f2 t2 l2 => ?_) (fun hn' => absurd (congrArg Prod.fst (hn.symm.trans hn')) hx)
    have e1 := hn.symm.trans hn'
    have e2 : x = x' := congrArg Prod.fst e1
    have e3 : y = y' := congrArg Prod.snd e1
    subst e2
    subst e3
    rw [if_pos mk577, m_thrown, t2, if_pos rfl]
    try rw [if_neg (by decide)]
    exact H h2 (e + 1) _ _ _ (Or.inr ⟨_, rfl⟩) ⟨w, c, U, b, r, (x, y), (0, 0), W, I, L, f, CI_f (fun z hz => f2 z (Or.inl hz)) l1, l2, ctB_le (by omega) z1, fun j hj => ctB_le (by omega) (z2 j hj), fun hb => ctB_le (by omega) (z3 hb), z4, fun _ => rfl⟩ (by omega)
  · simp only [g1, g2, g3, true_and, and_true, mk577, ite_true]
    refine m_rope o (MI_c f1 lm) (fun x' y' hn' hx' h2 f2 t2 l2 => absurd (congrArg Prod.fst (hn.symm.trans hn')).symm hx') (fun hn' h2 f2 t2 l2 => ?_)
    rw [if_pos mk577, m_thrown, t2, if_pos rfl]
    try rw [if_pos rfl]
    rw [if_pos ⟨ok588, by decide, by rw [on588]; decide⟩, show (0 : Int).toNat = 0 from rfl, f2 588 (Or.inr (by omega)), o1, if_pos (by rw [if_pos rfl])]
    have lW := lc.2.2.2.2.2.1
    have zo : ctB (61 * t + 1) (dOrd 8 w (X.2 (wr ((i : Int) + 1)).toNat) 0 0 W) := ct_ord (by decide) o lW hn (by omega) z1
    exact H h2 e _ _ _ (Or.inr ⟨_, rfl⟩) ⟨dOrd 8 w (X.2 (wr ((i : Int) + 1)).toNat) 0 0 W, pC c, pU2 c U w, b, r, k1, k2, W, I, L, f, CI_f (fun z hz => f2 z (Or.inl hz)) l1, l2, ctB_le (by omega) zo, pU2_ct (ctB_le (by omega) z1) (fun j hj => ctB_le (by omega) (z2 j hj)) lm.2.1.2.1, fun hb => ctB_le (by omega) (z3 hb), z4, z5⟩ (by omega)
theorem ar_bind (hi : i + 4 ≤ X.1) (hX : X.1 ≤ 2048) (ht : t < 1000) (l : SI h t) (H : NX X Q i t e) (j7 j8 : eV) : eP X m_L_law 407 [vR 1000, vR 1, vR 577, vR 588, vR 589, vI (i : Int), vJ, j7, j8] [] (eNT, e, ewP, h) Q := by
  obtain ⟨w, c, U, b, r, k1, k2, W, I, L, f, lc, lm, z1, z2, z3, z4, z5⟩ := l
  obtain ⟨N, R, T, o, -⟩ := id lc.1
  refine bk_L_law_407 X 1000 1 577 588 589 i j7 j8 eNT e ewP h Q ?_
  have g1 := sx1 (i := i) X hi hX
  have g2 := sx2 (i := i) X hi hX
  have g3 := sx3 (i := i) X hi hX
  simp only [g1, g2, g3, true_and, and_true, ite_true]
  refine wl_bind lc (fun x y hn hx h1 f1 l1 => ?_) (fun hn h1 f1 o1 l1 => ?_)
  · simp only [g1, g2, g3, true_and, and_true, mk577, ite_true]
    refine m_bind o (MI_c (fun z h2 _ => f1 z h2) lm) (fun x' y' hn' hx' h2 f2 t2 l2 => ?_) (fun hn' => absurd (congrArg Prod.fst (hn.symm.trans hn')) hx)
    have e1 := hn.symm.trans hn'
    have e2 : x = x' := congrArg Prod.fst e1
    have e3 : y = y' := congrArg Prod.snd e1
    subst e2
    subst e3
    rw [if_pos mk577, m_thrown, t2, if_pos rfl]
    try rw [if_neg (by decide)]
    exact H h2 (e + 1) _ _ _ (Or.inr ⟨_, rfl⟩) ⟨w, c, U, b, r, (x, y), (0, 0), W, I, L, f, CI_f (fun z hz => f2 z (Or.inl hz)) l1, l2, ctB_le (by omega) z1, fun j hj => ctB_le (by omega) (z2 j hj), fun hb => ctB_le (by omega) (z3 hb), z4, fun _ => rfl⟩ (by omega)
  · simp only [g1, g2, g3, true_and, and_true, mk577, ite_true]
    refine m_bind o (MI_c f1 lm) (fun x' y' hn' hx' h2 f2 t2 l2 => absurd (congrArg Prod.fst (hn.symm.trans hn')).symm hx') (fun hn' h2 f2 t2 l2 => ?_)
    rw [if_pos mk577, m_thrown, t2, if_pos rfl]
    try rw [if_pos rfl]
    rw [if_pos ⟨ok588, by decide, by rw [on588]; decide⟩, show (0 : Int).toNat = 0 from rfl, f2 588 (Or.inr (by omega)), o1, if_pos (by rw [if_pos rfl])]
    have lW := lc.2.2.2.2.2.1
    have zo : ctB (61 * t + 1) (dOrd 9 w (X.2 (wr ((i : Int) + 1)).toNat) (X.2 (wr ((i : Int) + 2)).toNat) 0 W) := ct_ord (by decide) o lW hn (by omega) z1
    exact H h2 e _ _ _ (Or.inr ⟨_, rfl⟩) ⟨dOrd 9 w (X.2 (wr ((i : Int) + 1)).toNat) (X.2 (wr ((i : Int) + 2)).toNat) 0 W, pC c, pU2 c U w, b, r, k1, k2, W, I, L, f, CI_f (fun z hz => f2 z (Or.inl hz)) l1, l2, ctB_le (by omega) zo, pU2_ct (ctB_le (by omega) z1) (fun j hj => ctB_le (by omega) (z2 j hj)) lm.2.1.2.1, fun hb => ctB_le (by omega) (z3 hb), z4, z5⟩ (by omega)
theorem ar_bindb (hi : i + 4 ≤ X.1) (hX : X.1 ≤ 2048) (ht : t < 1000) (l : SI h t) (H : NX X Q i t e) (j6 : Int) (j7 j8 : eV) : eP X m_L_law 407 [vR 1000, vR 1, vR 577, vR 588, vR 589, vI (i : Int), vI j6, j7, j8] [] (eNT, e, ewP, h) Q := by
  obtain ⟨w, c, U, b, r, k1, k2, W, I, L, f, lc, lm, z1, z2, z3, z4, z5⟩ := l
  obtain ⟨N, R, T, o, -⟩ := id lc.1
  refine bk_L_law_407b X 1000 1 577 588 589 i j6 j7 j8 eNT e ewP h Q ?_
  have g1 := sx1 (i := i) X hi hX
  have g2 := sx2 (i := i) X hi hX
  have g3 := sx3 (i := i) X hi hX
  simp only [g1, g2, g3, true_and, and_true, ite_true]
  refine wl_bind lc (fun x y hn hx h1 f1 l1 => ?_) (fun hn h1 f1 o1 l1 => ?_)
  · simp only [g1, g2, g3, true_and, and_true, mk577, ite_true]
    refine m_bind o (MI_c (fun z h2 _ => f1 z h2) lm) (fun x' y' hn' hx' h2 f2 t2 l2 => ?_) (fun hn' => absurd (congrArg Prod.fst (hn.symm.trans hn')) hx)
    have e1 := hn.symm.trans hn'
    have e2 : x = x' := congrArg Prod.fst e1
    have e3 : y = y' := congrArg Prod.snd e1
    subst e2
    subst e3
    rw [if_pos mk577, m_thrown, t2, if_pos rfl]
    try rw [if_neg (by decide)]
    exact H h2 (e + 1) _ _ _ (Or.inr ⟨_, rfl⟩) ⟨w, c, U, b, r, (x, y), (0, 0), W, I, L, f, CI_f (fun z hz => f2 z (Or.inl hz)) l1, l2, ctB_le (by omega) z1, fun j hj => ctB_le (by omega) (z2 j hj), fun hb => ctB_le (by omega) (z3 hb), z4, fun _ => rfl⟩ (by omega)
  · simp only [g1, g2, g3, true_and, and_true, mk577, ite_true]
    refine m_bind o (MI_c f1 lm) (fun x' y' hn' hx' h2 f2 t2 l2 => absurd (congrArg Prod.fst (hn.symm.trans hn')).symm hx') (fun hn' h2 f2 t2 l2 => ?_)
    rw [if_pos mk577, m_thrown, t2, if_pos rfl]
    try rw [if_pos rfl]
    rw [if_pos ⟨ok588, by decide, by rw [on588]; decide⟩, show (0 : Int).toNat = 0 from rfl, f2 588 (Or.inr (by omega)), o1, if_pos (by rw [if_pos rfl])]
    have lW := lc.2.2.2.2.2.1
    have zo : ctB (61 * t + 1) (dOrd 9 w (X.2 (wr ((i : Int) + 1)).toNat) (X.2 (wr ((i : Int) + 2)).toNat) 0 W) := ct_ord (by decide) o lW hn (by omega) z1
    exact H h2 e _ _ _ (Or.inr ⟨_, rfl⟩) ⟨dOrd 9 w (X.2 (wr ((i : Int) + 1)).toNat) (X.2 (wr ((i : Int) + 2)).toNat) 0 W, pC c, pU2 c U w, b, r, k1, k2, W, I, L, f, CI_f (fun z hz => f2 z (Or.inl hz)) l1, l2, ctB_le (by omega) zo, pU2_ct (ctB_le (by omega) z1) (fun j hj => ctB_le (by omega) (z2 j hj)) lm.2.1.2.1, fun hb => ctB_le (by omega) (z3 hb), z4, z5⟩ (by omega)
theorem ar_fish (hi : i + 4 ≤ X.1) (hX : X.1 ≤ 2048) (ht : t < 1000) (l : SI h t) (H : NX X Q i t e) (j7 j8 : eV) : eP X m_L_law 452 [vR 1000, vR 1, vR 577, vR 588, vR 589, vI (i : Int), vJ, j7, j8] [] (eNT, e, ewP, h) Q := by
  obtain ⟨w, c, U, b, r, k1, k2, W, I, L, f, lc, lm, z1, z2, z3, z4, z5⟩ := l
  obtain ⟨N, R, T, o, -⟩ := id lc.1
  refine bk_L_law_452 X 1000 1 577 588 589 i j7 j8 eNT e ewP h Q ?_
  have g1 := sx1 (i := i) X hi hX
  have g2 := sx2 (i := i) X hi hX
  have g3 := sx3 (i := i) X hi hX
  simp only [g1, g2, g3, true_and, and_true, ite_true]
  refine wl_fish lc (fun x y hn hx h1 f1 l1 => ?_) (fun hn h1 f1 o1 l1 => ?_)
  · simp only [g1, g2, g3, true_and, and_true, mk577, ite_true]
    refine m_fish o (MI_c (fun z h2 _ => f1 z h2) lm) (fun x' y' hn' hx' h2 f2 t2 l2 => ?_) (fun hn' => absurd (congrArg Prod.fst (hn.symm.trans hn')) hx)
    have e1 := hn.symm.trans hn'
    have e2 : x = x' := congrArg Prod.fst e1
    have e3 : y = y' := congrArg Prod.snd e1
    subst e2
    subst e3
    rw [if_pos mk577, m_thrown, t2, if_pos rfl]
    try rw [if_neg (by decide)]
    exact H h2 (e + 1) _ _ _ (Or.inr ⟨_, rfl⟩) ⟨w, c, U, b, r, (x, y), (0, 0), W, I, L, f, CI_f (fun z hz => f2 z (Or.inl hz)) l1, l2, ctB_le (by omega) z1, fun j hj => ctB_le (by omega) (z2 j hj), fun hb => ctB_le (by omega) (z3 hb), z4, fun _ => rfl⟩ (by omega)
  · simp only [g1, g2, g3, true_and, and_true, mk577, ite_true]
    refine m_fish o (MI_c f1 lm) (fun x' y' hn' hx' h2 f2 t2 l2 => absurd (congrArg Prod.fst (hn.symm.trans hn')).symm hx') (fun hn' h2 f2 t2 l2 => ?_)
    rw [if_pos mk577, m_thrown, t2, if_pos rfl]
    try rw [if_pos rfl]
    rw [if_pos ⟨ok588, by decide, by rw [on588]; decide⟩, show (0 : Int).toNat = 0 from rfl, f2 588 (Or.inr (by omega)), o1, if_pos (by rw [if_pos rfl])]
    have lW := lc.2.2.2.2.2.1
    have zo : ctB (61 * t + 1) (dOrd 10 w (X.2 (wr ((i : Int) + 1)).toNat) 0 0 W) := ct_ord (by decide) o lW hn (by omega) z1
    exact H h2 e _ _ _ (Or.inr ⟨_, rfl⟩) ⟨dOrd 10 w (X.2 (wr ((i : Int) + 1)).toNat) 0 0 W, pC c, pU2 c U w, b, r, k1, k2, W, I, L, f, CI_f (fun z hz => f2 z (Or.inl hz)) l1, l2, ctB_le (by omega) zo, pU2_ct (ctB_le (by omega) z1) (fun j hj => ctB_le (by omega) (z2 j hj)) lm.2.1.2.1, fun hb => ctB_le (by omega) (z3 hb), z4, z5⟩ (by omega)
theorem ar_fishb (hi : i + 4 ≤ X.1) (hX : X.1 ≤ 2048) (ht : t < 1000) (l : SI h t) (H : NX X Q i t e) (j6 : Int) (j7 j8 : eV) : eP X m_L_law 452 [vR 1000, vR 1, vR 577, vR 588, vR 589, vI (i : Int), vI j6, j7, j8] [] (eNT, e, ewP, h) Q := by
  obtain ⟨w, c, U, b, r, k1, k2, W, I, L, f, lc, lm, z1, z2, z3, z4, z5⟩ := l
  obtain ⟨N, R, T, o, -⟩ := id lc.1
  refine bk_L_law_452b X 1000 1 577 588 589 i j6 j7 j8 eNT e ewP h Q ?_
  have g1 := sx1 (i := i) X hi hX
  have g2 := sx2 (i := i) X hi hX
  have g3 := sx3 (i := i) X hi hX
  simp only [g1, g2, g3, true_and, and_true, ite_true]
  refine wl_fish lc (fun x y hn hx h1 f1 l1 => ?_) (fun hn h1 f1 o1 l1 => ?_)
  · simp only [g1, g2, g3, true_and, and_true, mk577, ite_true]
    refine m_fish o (MI_c (fun z h2 _ => f1 z h2) lm) (fun x' y' hn' hx' h2 f2 t2 l2 => ?_) (fun hn' => absurd (congrArg Prod.fst (hn.symm.trans hn')) hx)
    have e1 := hn.symm.trans hn'
    have e2 : x = x' := congrArg Prod.fst e1
    have e3 : y = y' := congrArg Prod.snd e1
    subst e2
    subst e3
    rw [if_pos mk577, m_thrown, t2, if_pos rfl]
    try rw [if_neg (by decide)]
    exact H h2 (e + 1) _ _ _ (Or.inr ⟨_, rfl⟩) ⟨w, c, U, b, r, (x, y), (0, 0), W, I, L, f, CI_f (fun z hz => f2 z (Or.inl hz)) l1, l2, ctB_le (by omega) z1, fun j hj => ctB_le (by omega) (z2 j hj), fun hb => ctB_le (by omega) (z3 hb), z4, fun _ => rfl⟩ (by omega)
  · simp only [g1, g2, g3, true_and, and_true, mk577, ite_true]
    refine m_fish o (MI_c f1 lm) (fun x' y' hn' hx' h2 f2 t2 l2 => absurd (congrArg Prod.fst (hn.symm.trans hn')).symm hx') (fun hn' h2 f2 t2 l2 => ?_)
    rw [if_pos mk577, m_thrown, t2, if_pos rfl]
    try rw [if_pos rfl]
    rw [if_pos ⟨ok588, by decide, by rw [on588]; decide⟩, show (0 : Int).toNat = 0 from rfl, f2 588 (Or.inr (by omega)), o1, if_pos (by rw [if_pos rfl])]
    have lW := lc.2.2.2.2.2.1
    have zo : ctB (61 * t + 1) (dOrd 10 w (X.2 (wr ((i : Int) + 1)).toNat) 0 0 W) := ct_ord (by decide) o lW hn (by omega) z1
    exact H h2 e _ _ _ (Or.inr ⟨_, rfl⟩) ⟨dOrd 10 w (X.2 (wr ((i : Int) + 1)).toNat) 0 0 W, pC c, pU2 c U w, b, r, k1, k2, W, I, L, f, CI_f (fun z hz => f2 z (Or.inl hz)) l1, l2, ctB_le (by omega) zo, pU2_ct (ctB_le (by omega) z1) (fun j hj => ctB_le (by omega) (z2 j hj)) lm.2.1.2.1, fun hb => ctB_le (by omega) (z3 hb), z4, z5⟩ (by omega)
theorem ar_shout (hi : i + 4 ≤ X.1) (hX : X.1 ≤ 2048) (ht : t < 1000) (l : SI h t) (H : NX X Q i t e) (j7 j8 : eV) : eP X m_L_law 524 [vR 1000, vR 1, vR 577, vR 588, vR 589, vI (i : Int), vJ, j7, j8] [] (eNT, e, ewP, h) Q := by
  obtain ⟨w, c, U, b, r, k1, k2, W, I, L, f, lc, lm, z1, z2, z3, z4, z5⟩ := l
  obtain ⟨N, R, T, o, -⟩ := id lc.1
  refine bk_L_law_524 X 1000 1 577 588 589 i j7 j8 eNT e ewP h Q ?_
  have g1 := sx1 (i := i) X hi hX
  have g2 := sx2 (i := i) X hi hX
  have g3 := sx3 (i := i) X hi hX
  simp only [g1, g2, g3, true_and, and_true, ite_true]
  refine wl_shout lc (fun x y hn hx h1 f1 l1 => ?_) (fun hn h1 f1 o1 l1 => ?_)
  · simp only [g1, g2, g3, true_and, and_true, mk577, ite_true]
    refine m_shout o (MI_c (fun z h2 _ => f1 z h2) lm) (fun x' y' hn' hx' h2 f2 t2 l2 => ?_) (fun hn' => absurd (congrArg Prod.fst (hn.symm.trans hn')) hx)
    have e1 := hn.symm.trans hn'
    have e2 : x = x' := congrArg Prod.fst e1
    have e3 : y = y' := congrArg Prod.snd e1
    subst e2
    subst e3
    rw [if_pos mk577, m_thrown, t2, if_pos rfl]
    try rw [if_neg (by decide)]
    exact H h2 (e + 1) _ _ _ (Or.inr ⟨_, rfl⟩) ⟨w, c, U, b, r, (x, y), (0, 0), W, I, L, f, CI_f (fun z hz => f2 z (Or.inl hz)) l1, l2, ctB_le (by omega) z1, fun j hj => ctB_le (by omega) (z2 j hj), fun hb => ctB_le (by omega) (z3 hb), z4, fun _ => rfl⟩ (by omega)
  · simp only [g1, g2, g3, true_and, and_true, mk577, ite_true]
    refine m_shout o (MI_c f1 lm) (fun x' y' hn' hx' h2 f2 t2 l2 => absurd (congrArg Prod.fst (hn.symm.trans hn')).symm hx') (fun hn' h2 f2 t2 l2 => ?_)
    rw [if_pos mk577, m_thrown, t2, if_pos rfl]
    try rw [if_pos rfl]
    rw [if_pos ⟨ok588, by decide, by rw [on588]; decide⟩, show (0 : Int).toNat = 0 from rfl, f2 588 (Or.inr (by omega)), o1, if_pos (by rw [if_pos rfl])]
    have lW := lc.2.2.2.2.2.1
    have zo : ctB (61 * t + 1) (dOrd 11 w (X.2 (wr ((i : Int) + 1)).toNat) 0 0 W) := ct_ord (by decide) o lW hn (by omega) z1
    exact H h2 e _ _ _ (Or.inr ⟨_, rfl⟩) ⟨dOrd 11 w (X.2 (wr ((i : Int) + 1)).toNat) 0 0 W, pC c, pU2 c U w, b, r, k1, k2, [], I, L, f, CI_f (fun z hz => f2 z (Or.inl hz)) l1, l2, ctB_le (by omega) zo, pU2_ct (ctB_le (by omega) z1) (fun j hj => ctB_le (by omega) (z2 j hj)) lm.2.1.2.1, fun hb => ctB_le (by omega) (z3 hb), z4, z5⟩ (by omega)
theorem ar_shoutb (hi : i + 4 ≤ X.1) (hX : X.1 ≤ 2048) (ht : t < 1000) (l : SI h t) (H : NX X Q i t e) (j6 : Int) (j7 j8 : eV) : eP X m_L_law 524 [vR 1000, vR 1, vR 577, vR 588, vR 589, vI (i : Int), vI j6, j7, j8] [] (eNT, e, ewP, h) Q := by
  obtain ⟨w, c, U, b, r, k1, k2, W, I, L, f, lc, lm, z1, z2, z3, z4, z5⟩ := l
  obtain ⟨N, R, T, o, -⟩ := id lc.1
  refine bk_L_law_524b X 1000 1 577 588 589 i j6 j7 j8 eNT e ewP h Q ?_
  have g1 := sx1 (i := i) X hi hX
  have g2 := sx2 (i := i) X hi hX
  have g3 := sx3 (i := i) X hi hX
  simp only [g1, g2, g3, true_and, and_true, ite_true]
  refine wl_shout lc (fun x y hn hx h1 f1 l1 => ?_) (fun hn h1 f1 o1 l1 => ?_)
  · simp only [g1, g2, g3, true_and, and_true, mk577, ite_true]
    refine m_shout o (MI_c (fun z h2 _ => f1 z h2) lm) (fun x' y' hn' hx' h2 f2 t2 l2 => ?_) (fun hn' => absurd (congrArg Prod.fst (hn.symm.trans hn')) hx)
    have e1 := hn.symm.trans hn'
    have e2 : x = x' := congrArg Prod.fst e1
    have e3 : y = y' := congrArg Prod.snd e1
    subst e2
    subst e3
    rw [if_pos mk577, m_thrown, t2, if_pos rfl]
    try rw [if_neg (by decide)]
    exact H h2 (e + 1) _ _ _ (Or.inr ⟨_, rfl⟩) ⟨w, c, U, b, r, (x, y), (0, 0), W, I, L, f, CI_f (fun z hz => f2 z (Or.inl hz)) l1, l2, ctB_le (by omega) z1, fun j hj => ctB_le (by omega) (z2 j hj), fun hb => ctB_le (by omega) (z3 hb), z4, fun _ => rfl⟩ (by omega)
  · simp only [g1, g2, g3, true_and, and_true, mk577, ite_true]
    refine m_shout o (MI_c f1 lm) (fun x' y' hn' hx' h2 f2 t2 l2 => absurd (congrArg Prod.fst (hn.symm.trans hn')).symm hx') (fun hn' h2 f2 t2 l2 => ?_)
    rw [if_pos mk577, m_thrown, t2, if_pos rfl]
    try rw [if_pos rfl]
    rw [if_pos ⟨ok588, by decide, by rw [on588]; decide⟩, show (0 : Int).toNat = 0 from rfl, f2 588 (Or.inr (by omega)), o1, if_pos (by rw [if_pos rfl])]
    have lW := lc.2.2.2.2.2.1
    have zo : ctB (61 * t + 1) (dOrd 11 w (X.2 (wr ((i : Int) + 1)).toNat) 0 0 W) := ct_ord (by decide) o lW hn (by omega) z1
    exact H h2 e _ _ _ (Or.inr ⟨_, rfl⟩) ⟨dOrd 11 w (X.2 (wr ((i : Int) + 1)).toNat) 0 0 W, pC c, pU2 c U w, b, r, k1, k2, [], I, L, f, CI_f (fun z hz => f2 z (Or.inl hz)) l1, l2, ctB_le (by omega) zo, pU2_ct (ctB_le (by omega) z1) (fun j hj => ctB_le (by omega) (z2 j hj)) lm.2.1.2.1, fun hb => ctB_le (by omega) (z3 hb), z4, z5⟩ (by omega)
theorem ar_wake (hi : i + 4 ≤ X.1) (hX : X.1 ≤ 2048) (ht : t < 1000) (l : SI h t) (H : NX X Q i t e) (j7 j8 : eV) : eP X m_L_law 365 [vR 1000, vR 1, vR 577, vR 588, vR 589, vI (i : Int), vJ, j7, j8] [] (eNT, e, ewP, h) Q := by
  obtain ⟨w, c, U, b, r, k1, k2, W, I, L, f, lc, lm, z1, z2, z3, z4, z5⟩ := l
  obtain ⟨N, R, T, o, -⟩ := id lc.1
  refine bk_L_law_365 X 1000 1 577 588 589 i j7 j8 eNT e ewP h Q ?_
  rw [if_pos ck1]
  refine wl_wake lc (fun h1 f1 l1 => ?_)
  rw [if_pos mk577]
  refine m_wake o (MI_c (fun z h2 _ => f1 z h2) lm) (fun h2 f2 t2 l2 => ?_)
  rw [if_pos rfl]
  have zo : ctB (61 * t + 1) (dOrd 7 w 0 0 0 W) := ct_ord (by decide) o lc.2.2.2.2.2.1 rfl (by omega) z1
  exact H h2 e _ _ _ (Or.inl rfl) ⟨dOrd 7 w 0 0 0 W, pC c, pU2 c U w, b, r, k1, k2, W, I, L, f, CI_f (fun z hz => f2 z (Or.inl hz)) l1, l2, ctB_le (by omega) zo, pU2_ct (ctB_le (by omega) z1) (fun j hj => ctB_le (by omega) (z2 j hj)) lm.2.1.2.1, fun hb => ctB_le (by omega) (z3 hb), z4, z5⟩ (by omega)
theorem ar_wakeb (hi : i + 4 ≤ X.1) (hX : X.1 ≤ 2048) (ht : t < 1000) (l : SI h t) (H : NX X Q i t e) (j6 : Int) (j7 j8 : eV) : eP X m_L_law 365 [vR 1000, vR 1, vR 577, vR 588, vR 589, vI (i : Int), vI j6, j7, j8] [] (eNT, e, ewP, h) Q := by
  obtain ⟨w, c, U, b, r, k1, k2, W, I, L, f, lc, lm, z1, z2, z3, z4, z5⟩ := l
  obtain ⟨N, R, T, o, -⟩ := id lc.1
  refine bk_L_law_365b X 1000 1 577 588 589 i j6 j7 j8 eNT e ewP h Q ?_
  rw [if_pos ck1]
  refine wl_wake lc (fun h1 f1 l1 => ?_)
  rw [if_pos mk577]
  refine m_wake o (MI_c (fun z h2 _ => f1 z h2) lm) (fun h2 f2 t2 l2 => ?_)
  rw [if_pos rfl]
  have zo : ctB (61 * t + 1) (dOrd 7 w 0 0 0 W) := ct_ord (by decide) o lc.2.2.2.2.2.1 rfl (by omega) z1
  exact H h2 e _ _ _ (Or.inr ⟨_, rfl⟩) ⟨dOrd 7 w 0 0 0 W, pC c, pU2 c U w, b, r, k1, k2, W, I, L, f, CI_f (fun z hz => f2 z (Or.inl hz)) l1, l2, ctB_le (by omega) zo, pU2_ct (ctB_le (by omega) z1) (fun j hj => ctB_le (by omega) (z2 j hj)) lm.2.1.2.1, fun hb => ctB_le (by omega) (z3 hb), z4, z5⟩ (by omega)
end
