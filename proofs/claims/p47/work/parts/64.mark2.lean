/-! the mark's outer loops, and the mark -/
theorem gW2 {w : Nat → Int} {i : Nat} (hi : (i : Int) < w 0) : gJ (gW w (i : Int) 2) = wW w i 2 := by
  unfold gJ gW
  rw [if_pos (show (0 : Int) ≤ (i : Int) ∧ (i : Int) < w 0 from ⟨by omega, hi⟩)]
  rfl
theorem lat_eq {w : Nat → Int} {E : List Int} (a : latE w E) : lat w = E := by
  obtain ⟨a1, a2, a3, a4⟩ := a
  unfold lat
  apply List.ext_getElem?
  intro k
  by_cases hk : k < E.length
  · rw [a3 k hk, List.getElem?_map, List.getElem?_range (by omega)]
    rfl
  · rw [List.getElem?_eq_none (by simp; omega), List.getElem?_eq_none (by omega)]
section
variable {X : eX} {w : Nat → Int} {c : Nat} {U : Nat → Nat → Int} {b : Bool} {r : Nat → Int} {k1 k2 : Int × Int} {W I L : List Int} {f : Int} {Q : eO → eM → Prop}
theorem j_character {e : Nat} {h : Nat → Nat → Int} {x : Int} (l : CI h w c U b r k1 k2 W I L f) {KJ KX} (H : ∀ h' e', e ≤ e' → e' ≤ e + 1 → CI h' w c U b r k1 k2 W I L f → KJ (gJ (gCh L x)) eNT e' ewP h') : eCj X m_L_character [vR 1, vI x] eNT e ewP h KJ KX := by
  refine bk_L_character_0 X 1 x eNT e ewP h _ ?_
  rw [if_pos ck1]
  refine cg_character l (fun h' _ l' => ?_)
  unfold gC
  by_cases g0 : (gCh L x).1 = 0
  · rw [if_pos g0]
    have H1 := H h' e (Nat.le_refl _) (Nat.le_succ _) l'
    rw [gJ_0 g0] at H1
    exact H1
  have g1 : (gCh L x).1 = 1 := by
    unfold gCh at g0 ⊢
    split
    next q => rw [if_pos q] at g0; exact absurd rfl g0
    next q => rfl
  rw [if_neg g0, if_pos g1]
  have H1 := H h' (e + 1) (Nat.le_succ _) (Nat.le_refl _) l'
  rw [gJ_1 g0 g1] at H1
  refine eBk_h (t := 6) (k := 2) (by decide +kernel) ?_
  exact bk_L_character_6 X 1 x _ eNT (e + 1) ewP h' _ H1
theorem lp_mk49 (i : Nat) (hi : (i : Int) < w 0) (hT : 0 ≤ wW w i 2 ∧ wW w i 2 ≤ 5) : ∀ (j t : Nat) (v : Int) (e : Nat) (h : Nat → Nat → Int) (j5 : eV), t + j = (wW w i 2).toNat → LI h w c U b r W I → (∀ h' e' j4 j5', e ≤ e' → e' ≤ e + (7 * j + 1) → LI h' w c U b r W I → eP X m_L_mark 24 [vR 1, vL (mTh w i j t v), vJ, vI (wr ((i : Int) + 1)), j4, j5'] [] (eNT, e', ewP, h') Q) → eP X m_L_mark 49 [vR 1, vL v, vJ, vI (i : Int), vI (t : Int), j5] [] (eNT, e, ewP, h) Q := by
  intro j
  induction j with
  | zero =>
    intro t v e h j5 ht l H
    refine bk_L_mark_49 X 1 v i t j5 eNT e ewP h Q ?_
    refine j_wellOf l (fun h' e' h1 h2 l' => ?_)
    rw [gW2 hi, if_neg (cmp_ge (by omega))]
    exact H h' e' _ _ h1 (by omega) l'
  | succ j ih =>
    intro t v e h j5 ht l H
    refine bk_L_mark_49 X 1 v i t j5 eNT e ewP h Q ?_
    refine j_wellOf l (fun h' e' h1 h2 l' => ?_)
    rw [gW2 hi, if_pos (cmp_lt (by omega))]
    refine lp_mk59 i t 5 0 v e' h' (by omega) l' (fun h2' e2 a1 a2 l2 => ?_)
    rw [wr1 (by omega)]
    exact ih (t + 1) _ e2 h2' _ (by omega) l2 (fun h3 e3 j4 j5' b1 b2 l3 => H h3 e3 j4 j5' (by omega) (by omega) l3)
theorem lp_mk24 : ∀ (j i : Nat) (v : Int) (e : Nat) (h : Nat → Nat → Int) (j4 j5 : eV), i + j = (w 0).toNat → LI h w c U b r W I → (∀ h' e' j5', e ≤ e' → e' ≤ e + (50 * j + 1) → LI h' w c U b r W I → eP X m_L_mark 80 [vR 1, vL (mWl w j i v), vJ, vI 0, vJ, j5'] [] (eNT, e', ewP, h') Q) → eP X m_L_mark 24 [vR 1, vL v, vJ, vI (i : Int), j4, j5] [] (eNT, e, ewP, h) Q := by
  intro j
  induction j with
  | zero =>
    intro i v e h j4 j5 hi l H
    obtain ⟨N, R, T, ok⟩ := LI_0 l
    have hN := ok.1
    refine eP_j X (jle_of (a := [vR 1, vL v, vJ, vI (i : Int), vJ, j5]) ⟨Or.inr rfl, Or.inr rfl, Or.inr rfl, Or.inr rfl, Or.inl rfl, Or.inr rfl, trivial⟩) ?_
    refine bk_L_mark_24 X 1 v i j5 eNT e ewP h Q ?_
    refine j_account l (by omega) (fun h' e' h1 h2 l' => ?_)
    rw [show gJ (gAc w W I c 0) = w 0 from rfl, if_neg (cmp_ge (by omega))]
    exact H h' e' _ h1 (by omega) l'
  | succ j ih =>
    intro i v e h j4 j5 hi l H
    obtain ⟨N, R, T, ok⟩ := LI_0 l
    have hN := ok.1
    have hN8 := ok.2.1
    have hw := ok.2.2.2.2.1 i (by omega)
    have hw2 := hw.2.1
    have hw1 := hw.1
    have hw3 : wW w i 2 = (T i : Int) := hw2
    refine eP_j X (jle_of (a := [vR 1, vL v, vJ, vI (i : Int), vJ, j5]) ⟨Or.inr rfl, Or.inr rfl, Or.inr rfl, Or.inr rfl, Or.inl rfl, Or.inr rfl, trivial⟩) ?_
    refine bk_L_mark_24 X 1 v i j5 eNT e ewP h Q ?_
    refine j_account l (by omega) (fun h' e' h1 h2 l' => ?_)
    rw [show gJ (gAc w W I c 0) = w 0 from rfl, if_pos (cmp_lt (by omega))]
    refine lp_mk33 i j5 8 0 v e' h' (by omega) l' (fun h2' e2 a1 a2 l2 => ?_)
    refine lp_mk49 i (by omega) (by omega) (wW w i 2).toNat 0 _ e2 h2' j5 (by omega) l2 (fun h3 e3 j4' j5' b1 b2 l3 => ?_)
    rw [wr1 (by omega)]
    exact ih (i + 1) _ e3 h3 _ _ (by omega) l3 (fun h4 e4 j6 c1 c2 l4 => H h4 e4 j6 (by omega) (by omega) l4)
theorem lp_mk80 : ∀ (j i : Nat) (v : Int) (e : Nat) (h : Nat → Nat → Int) (j4 j5 : eV), i + j = (w 1).toNat → LI h w c U b r W I → (∀ h' e' j5', e ≤ e' → e' ≤ e + (4 * j + 1) → LI h' w c U b r W I → eP X m_L_mark 107 [vR 1, vL (mRp w j i v), vJ, vI 0, vJ, j5'] [] (eNT, e', ewP, h') Q) → eP X m_L_mark 80 [vR 1, vL v, vJ, vI (i : Int), j4, j5] [] (eNT, e, ewP, h) Q := by
  intro j
  induction j with
  | zero =>
    intro i v e h j4 j5 hi l H
    obtain ⟨N, R, T, ok⟩ := LI_0 l
    have hR := ok.2.2.1
    refine eP_j X (jle_of (a := [vR 1, vL v, vJ, vI (i : Int), vJ, j5]) ⟨Or.inr rfl, Or.inr rfl, Or.inr rfl, Or.inr rfl, Or.inl rfl, Or.inr rfl, trivial⟩) ?_
    refine bk_L_mark_80 X 1 v i j5 eNT e ewP h Q ?_
    refine j_account l (by omega) (fun h' e' h1 h2 l' => ?_)
    rw [show gJ (gAc w W I c 3) = w 1 from rfl, if_neg (cmp_ge (by omega))]
    exact H h' e' _ h1 (by omega) l'
  | succ j ih =>
    intro i v e h j4 j5 hi l H
    obtain ⟨N, R, T, ok⟩ := LI_0 l
    have hR := ok.2.2.1
    have hR3 := ok.2.2.2.1
    refine eP_j X (jle_of (a := [vR 1, vL v, vJ, vI (i : Int), vJ, j5]) ⟨Or.inr rfl, Or.inr rfl, Or.inr rfl, Or.inr rfl, Or.inl rfl, Or.inr rfl, trivial⟩) ?_
    refine bk_L_mark_80 X 1 v i j5 eNT e ewP h Q ?_
    refine j_account l (by omega) (fun h' e' h1 h2 l' => ?_)
    rw [show gJ (gAc w W I c 3) = w 1 from rfl, if_pos (cmp_lt (by omega))]
    refine lp_mk89 i (by omega) j5 3 0 v e' h' (by omega) l' (fun h2' e2 a1 a2 l2 => ?_)
    rw [wr1 (by omega)]
    exact ih (i + 1) _ e2 h2' _ _ (by omega) l2 (fun h4 e4 j6 c1 c2 l4 => H h4 e4 j6 (by omega) (by omega) l4)
theorem lp_mk107 : ∀ (j i : Nat) (v : Int) (e : Nat) (h : Nat → Nat → Int) (j4 j5 : eV), i + j = 6 → LI h w c U b r W I → (∀ h' e' k1 k2 f, e ≤ e' → e' ≤ e + 5 * j → CI h' w c U b r k1 k2 W I (lat w) f → eP X m_L_mark 134 [vR 1, vL (mBk w j i v), vJ, vL ((lat w).length : Int), vJ, vI 0] [] (eNT, e', ewP, h') Q) → eP X m_L_mark 107 [vR 1, vL v, vJ, vI (i : Int), j4, j5] [] (eNT, e, ewP, h) Q := by
  intro j
  induction j with
  | zero =>
    intro i v e h j4 j5 hi l H
    refine eP_j X (jle_of (a := [vR 1, vL v, vJ, vI (i : Int), vJ, j5]) ⟨Or.inr rfl, Or.inr rfl, Or.inr rfl, Or.inr rfl, Or.inl rfl, Or.inr rfl, trivial⟩) ?_
    refine bk_L_mark_107 X 1 v i j5 eNT e ewP h Q ?_
    rw [if_neg (by omega), if_pos ck1]
    obtain ⟨k1, k2, L, f, l⟩ := l
    obtain ⟨E, hE, -⟩ := wR_lat l.1
    refine c_tellEcho hE l (fun h' _ l' => ?_)
    rw [← lat_eq hE] at l' ⊢
    exact H h' e k1 k2 f (Nat.le_refl _) (by omega) l'
  | succ j ih =>
    intro i v e h j4 j5 hi l H
    refine eP_j X (jle_of (a := [vR 1, vL v, vJ, vI (i : Int), vJ, j5]) ⟨Or.inr rfl, Or.inr rfl, Or.inr rfl, Or.inr rfl, Or.inl rfl, Or.inr rfl, trivial⟩) ?_
    refine bk_L_mark_107 X 1 v i j5 eNT e ewP h Q ?_
    rw [if_pos (by omega)]
    refine lp_mk112 i (by omega) j5 5 0 v e h (by omega) l (fun h2' e2 a1 a2 l2 => ?_)
    rw [wr1 (by omega)]
    exact ih (i + 1) _ e2 h2' _ _ (by omega) l2 (fun h4 e4 k1 k2 f c1 c2 l4 => H h4 e4 k1 k2 f (by omega) (by omega) l4)
theorem lp_mk134 : ∀ (j k : Nat) (v : Int) (e : Nat) (h : Nat → Nat → Int), k + j = L.length → L.length ≤ 13 → CI h w c U b r k1 k2 W I L f → (∀ h' e', e ≤ e' → e' ≤ e + j → CI h' w c U b r k1 k2 W I L f → Q (.inl (some (vL (mFo (fun k => gJ (gCh L (k : Int))) j k v)))) (eNT, e', ewP, h')) → eP X m_L_mark 134 [vR 1, vL v, vJ, vL (L.length : Int), vJ, vI (k : Int)] [] (eNT, e, ewP, h) Q := by
  intro j
  induction j with
  | zero =>
    intro k v e h hk h13 l H
    refine bk_L_mark_134 X 1 v L.length k eNT e ewP h Q ?_
    rw [if_neg (cmp_ge (by omega))]
    exact H h e (Nat.le_refl _) (Nat.le_refl _) l
  | succ j ih =>
    intro k v e h hk h13 l H
    refine bk_L_mark_134 X 1 v L.length k eNT e ewP h Q ?_
    rw [if_pos (cmp_lt (by omega))]
    refine j_character l (fun h' e' h1 h2 l' => ?_)
    rw [wr1 (by omega)]
    exact ih (k + 1) _ e' h' (by omega) h13 l' (fun h2' e2 h3 h4 l2 => H h2' e2 (by omega) (by omega) l2)
/-- the mark: a number of the row -/
theorem j_mark {e : Nat} {h : Nat → Nat → Int} (l : LI h w c U b r W I) {KJ KX} (H : ∀ h' e', e ≤ e' → e' ≤ e + 500 → LI h' w c U b r W I → KJ (mkV w) eNT e' ewP h') : eCj X m_L_mark [vR 1] eNT e ewP h KJ KX := by
  obtain ⟨N, R, T, ok⟩ := LI_0 l
  have hN := ok.1
  have hN8 := ok.2.1
  have hR := ok.2.2.1
  have hR3 := ok.2.2.2.1
  refine bk_L_mark_0 X 1 eNT e ewP h _ ?_
  refine lp_mk4 _ 12 0 17 e h (by omega) l (fun h1 e1 a1 a2 l1 => ?_)
  refine lp_mk24 (w 0).toNat 0 _ e1 h1 _ _ (by omega) l1 (fun h2 e2 j5 b1 b2 l2 => ?_)
  refine lp_mk80 (w 1).toNat 0 _ e2 h2 _ _ (by omega) l2 (fun h3 e3 j6 c1 c2 l3 => ?_)
  refine lp_mk107 6 0 _ e3 h3 _ _ (by omega) l3 (fun h4 e4 k1 k2 f d1 d2 l4 => ?_)
  obtain ⟨E, hE, -⟩ := wR_lat l4.1
  have h13 : (lat w).length ≤ 13 := by rw [lat_eq hE]; exact hE.2.1
  refine lp_mk134 (lat w).length 0 _ e4 h4 (by omega) h13 l4 (fun h5 e5 f1 f2 l5 => ?_)
  exact H h5 e5 (by omega) (by omega) ⟨_, _, _, _, l5⟩
end
