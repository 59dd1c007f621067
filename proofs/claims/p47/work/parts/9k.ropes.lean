/-! what the law asks of the ropes -/
theorem pU2_ct {N c : Nat} {U : Nat → Nat → Int} {w : Nat → Int} (hw : ctB N w) (hU : ∀ j, j < c → ctB N (U j)) (c8 : c ≤ 8) : ∀ j, j < pC c → ctB N (pU2 c U w j) := by
  intro j hj
  unfold pU2
  unfold pC at hj
  by_cases q : c < 8
  · rw [if_pos q] at hj ⊢
    by_cases e : j = c
    · rw [if_pos e]; exact hw
    · rw [if_neg e]; exact hU j (by omega)
  · rw [if_neg q] at hj ⊢
    by_cases e : j = 7
    · rw [if_pos e]; exact hw
    · rw [if_neg e]; exact hU (j + 1) (by omega)
theorem cmp_eq {x y : Int} (q : x = y) : (if x = y then (0 : Int) else if x < y then -1 else 1) = 0 := if_pos q
theorem cmp_ne {x y : Int} (q : ¬ x = y) : ¬ (if x = y then (0 : Int) else if x < y then -1 else 1) = 0 := by
  rw [if_neg q]
  split <;> decide
theorem cmp_le {x y : Int} (q : x ≤ y) : (if x = y then (0 : Int) else if x < y then -1 else 1) ≤ 0 := by
  by_cases h : x = y
  · rw [if_pos h]; decide
  · rw [if_neg h, if_pos (by omega)]; decide
def HI (N c : Nat) (U : Nat → Nat → Int) : Prop := ∀ j, j < c → ctB N (U j)
theorem HI_p {N c : Nat} {U : Nat → Nat → Int} {w : Nat → Int} (hw : ctB N w) (hU : HI N c U) (c8 : c ≤ 8) : HI N (pC c) (pU2 c U w) := pU2_ct hw hU c8
theorem pC_b {c : Nat} (c8 : c ≤ 8) : 0 < pC c ∧ pC c ≤ 8 ∧ pC c - 1 = min c 7 := by
  unfold pC
  split <;> omega
theorem pU2_l {c : Nat} {U : Nat → Nat → Int} {w : Nat → Int} (c8 : c ≤ 8) : pU2 c U w (pC c - 1) = w := by
  by_cases q : c < 8
  · rw [show pC c - 1 = c by unfold pC; rw [if_pos q]; omega]
    unfold pU2
    rw [if_pos q, if_pos rfl]
  · rw [show pC c - 1 = 7 by unfold pC; rw [if_neg q]]
    unfold pU2
    rw [if_neg q, if_pos rfl]
theorem rope_c {w : Nat → Int} {N R : Nat} {T : Nat → Nat} (ok : rOk w N R T) {y : Int} (q : 0 ≤ y ∧ y < w 1) :
    (gJ (gRe w y) < 0 ∧ nFish w y ≠ (0, 0)) ∨ ∃ t : Nat, gJ (gRe w y) = (t : Int) ∧ t < 5 ∧ nFish w y = (0, 0) ∧ (0 ≤ w (56 + 3 * y.toNat) - 1 ∧ w (56 + 3 * y.toNat) - 1 < w 0) ∧ (t : Int) < wW w (w (56 + 3 * y.toNat) - 1).toNat 2 ∧ wW w (w (56 + 3 * y.toNat) - 1).toNat (5 + 4 * t) = 0 ∧ wW w (w (56 + 3 * y.toNat) - 1).toNat (6 + 4 * t) ≤ w (55 + 3 * y.toNat) ∧ 1 ≤ aOrd 10 w y 0 0 [] := by
  unfold gJ gRe nFish
  rw [if_pos q, if_pos q]
  by_cases q1 : w (56 + 3 * y.toNat) - 1 < 0
  · rw [if_pos q1, if_pos q1]
    exact Or.inl ⟨by decide, fun z => by have := congrArg Prod.fst z; simp at this⟩
  rw [if_neg q1, if_neg q1]
  have qw := rp_well ok q (by omega)
  obtain ⟨v1, v2, v3, -⟩ := wl_i ok qw
  rcases rch_c (f := wW w (w (56 + 3 * y.toNat) - 1).toNat) (n := (wW w (w (56 + 3 * y.toNat) - 1).toNat 2).toNat) (len := w (55 + 3 * y.toNat)) with q4 | ⟨t, q4, q5, q6⟩
  · have q7 : wRch w y.toNat = -1 := q4
    rw [if_pos q7, if_pos q7]
    exact Or.inl ⟨by decide, fun z => by have := congrArg Prod.fst z; simp at this⟩
  · have q7 : wRch w y.toNat = (t : Int) := q4
    have q8 : ¬ wRch w y.toNat = -1 := by rw [q7]; omega
    rw [if_neg q8, if_neg q8]
    have n5 := v3.1
    have h5 := (v3.2.2.2.2 t q5).2.2.2
    have h6 := h5.1 (by have := q6.1; omega)
    refine Or.inr ⟨t, q7, by omega, rfl, qw, by omega, q6.1, q6.2, ?_⟩
    show 1 ≤ wW w (w (56 + 3 * y.toNat) - 1).toNat (7 + 4 * (wRch w y.toNat).toNat)
    rw [q7, Int.toNat_natCast]
    omega
section
variable {X : eX} {w : Nat → Int} {b : Bool} {r : Nat → Int} {W I : List Int} {Q : eO → eM → Prop} {N : Nat}
theorem gR1 {y : Int} (q : 0 ≤ y ∧ y < w 1) : gJ (gR w y 1) = w (56 + 3 * y.toNat) - 1 := by
  unfold gJ gR
  rw [if_pos q]
  rfl
theorem gR0 {y : Int} (q : 0 ≤ y ∧ y < w 1) : gJ (gR w y 0) = w (55 + 3 * y.toNat) := by
  unfold gJ gR
  rw [if_pos q]
  rfl
theorem gT0 {x : Int} {t : Nat} (q : 0 ≤ x ∧ x < w 0) (ht : (t : Int) < wW w x.toNat 2) : gJ (gT w x (t : Int) 0) = wW w x.toNat (5 + 4 * t) := by
  have e : gT w x (t : Int) 0 = (0, wW w x.toNat (5 + 4 * t)) := by
    unfold gT
    rw [if_pos q, if_pos (show (0 : Int) ≤ (t : Int) ∧ (t : Int) < wW w x.toNat 2 from ⟨by omega, ht⟩)]
    rfl
  rw [e]
  rfl
theorem gT1 {x : Int} {t : Nat} (q : 0 ≤ x ∧ x < w 0) (ht : (t : Int) < wW w x.toNat 2) : gJ (gT w x (t : Int) 1) = wW w x.toNat (6 + 4 * t) := by
  have e : gT w x (t : Int) 1 = (0, wW w x.toNat (6 + 4 * t)) := by
    unfold gT
    rw [if_pos q, if_pos (show (0 : Int) ≤ (t : Int) ∧ (t : Int) < wW w x.toNat 2 from ⟨by omega, ht⟩)]
    rfl
  rw [e]
  rfl
theorem lp_ropes (ct : ctB N w) : ∀ (j i : Nat) (e : Nat) (h : Nat → Nat → Int) (c : Nat) (U : Nat → Nat → Int) (j2 j3 j4 j5 j6 : eV), i + j = (w 1).toNat → LI h w c U b r W [] → HI N c U → (∀ h' e' c' U', e ≤ e' → e' ≤ e + (1100 * j + 1) → LI h' w c' U' b r W [] → HI N c' U' → Q (.inl (some (vI 1))) (eNT, e', ewP, h')) → eP X m_L_ropes 2 [vR 1, vI (i : Int), j2, j3, j4, j5, j6] [] (eNT, e, ewP, h) Q := by
  intro j
  induction j with
  | zero =>
    intro i e h c U j2 j3 j4 j5 j6 hi l hU H
    obtain ⟨N', R, T, ok⟩ := LI_0 l
    have hR := ok.2.2.1
    refine eP_j X (jle_of (a := [vR 1, vI (i : Int), vJ, vJ, vJ, vJ, j6]) ⟨Or.inr rfl, Or.inr rfl, Or.inl rfl, Or.inl rfl, Or.inl rfl, Or.inl rfl, Or.inr rfl, trivial⟩) ?_
    refine bk_L_ropes_2 X 1 i j6 eNT e ewP h Q ?_
    refine j_account l (by omega) (fun h1 e1 a1 a2 l1 => ?_)
    rw [show gJ (gAc w W [] c 3) = w 1 from rfl, if_neg (cmp_ge (by omega)), if_pos (Or.inr rfl)]
    exact H h1 e1 c U a1 (by omega) l1 hU
  | succ j ih =>
    intro i e h c U j2 j3 j4 j5 j6 hi l hU H
    obtain ⟨N', R, T, ok⟩ := LI_0 l
    have hR := ok.2.2.1
    have hR3 := ok.2.2.2.1
    have h0 := ok.1
    have h08 := ok.2.1
    have hq : 0 ≤ (i : Int) ∧ (i : Int) < w 1 := by omega
    have hc8 := LI_c l
    refine eP_j X (jle_of (a := [vR 1, vI (i : Int), vJ, vJ, vJ, vJ, j6]) ⟨Or.inr rfl, Or.inr rfl, Or.inl rfl, Or.inl rfl, Or.inl rfl, Or.inl rfl, Or.inr rfl, trivial⟩) ?_
    refine bk_L_ropes_2 X 1 i j6 eNT e ewP h Q ?_
    refine j_account l (by omega) (fun h1 e1 a1 a2 l1 => ?_)
    rw [show gJ (gAc w W [] c 3) = w 1 from rfl, if_pos (cmp_lt (by omega))]
    refine j_mark l1 (fun h2 e2 b1 b2 l2 => ?_)
    refine j_reach l2 (fun h3 e3 c1 c2 l3 => ?_)
    refine j_ropeOf l3 (fun h4 e4 d1 d2 l4 => ?_)
    rcases rope_c ok hq with ⟨g1, g2⟩ | ⟨t, g1, g2, g3, g4, g5, g6, g7, g8⟩
    · rw [if_pos (cmp_lt g1)]
      refine j_fish l4 (fun _ h5 l5 => ?_) (fun hn => absurd hn g2)
      rw [if_pos (cmp_eq rfl)]
      refine j_mark l5 (fun h6 e6 f1 f2 l6 => ?_)
      rw [if_pos (cmp_eq rfl), wr1 (by omega)]
      exact ih (i + 1) e6 h6 c U _ _ _ _ _ (by omega) l6 hU (fun h' e' c' U' k1 k2 k3 k4 => H h' e' c' U' (by omega) (by omega) k3 k4)
    · rw [g1, if_neg (cmp_ge (by omega)), gR1 hq, wrn (x := w (56 + 3 * (i : Int).toNat) - 1) (by omega) (by omega), wrn (x := (t : Int)) (by omega) (by omega)]
      refine j_thingOf l4 (fun h5 e5 f1 f2 l5 => ?_)
      rw [gT0 g4 g5, if_pos (cmp_eq g6)]
      refine j_thingOf l5 (fun h6 e6 k1 k2 l6 => ?_)
      refine j_ropeOf l6 (fun h7 e7 m1 m2 l7 => ?_)
      rw [gT1 g4 g5, gR0 hq, if_pos (cmp_le g7)]
      refine j_fish l7 (fun hr => absurd (congrArg Prod.fst g3) hr) (fun hn h8 l8 => ?_)
      rw [if_neg (cmp_ne (show ¬ aOrd 10 w (i : Int) 0 0 W = 0 from fun z => by have z2 : aOrd 10 w (i : Int) 0 0 [] = 0 := z; omega))]
      obtain ⟨p1, p2, p3⟩ := pC_b hc8
      refine j_undo l8 (fun z => by omega) (fun _ h9 l9 => ?_)
      rw [pU2_l hc8] at l9
      rw [if_neg (cmp_ge (by omega))]
      refine j_mark l9 (fun h10 e10 n1 n2 l10 => ?_)
      rw [if_pos (cmp_eq rfl), wr1 (by omega)]
      exact ih (i + 1) e10 h10 _ _ _ _ _ _ _ (by omega) l10 (fun k hk => HI_p ct hU hc8 k (by omega)) (fun h' e' c' U' k1 k2 k3 k4 => H h' e' c' U' (by omega) (by omega) k3 k4)
/-- the ropes fish what they reach -/
theorem j_ropes {e : Nat} {h : Nat → Nat → Int} {c : Nat} {U : Nat → Nat → Int} (ct : ctB N w) (l : LI h w c U b r W []) (hU : HI N c U) {KI KX} (H : ∀ h' e' c' U', e ≤ e' → e' ≤ e + 4000 → LI h' w c' U' b r W [] → HI N c' U' → KI 1 eNT e' ewP h') : eCi X m_L_ropes [vR 1] eNT e ewP h KI KX := by
  obtain ⟨N', R, T, ok⟩ := LI_0 l
  have hR := ok.2.2.1
  have hR3 := ok.2.2.2.1
  refine bk_L_ropes_0 X 1 eNT e ewP h _ ?_
  exact lp_ropes ct (w 1).toNat 0 e h c U _ _ _ _ _ (by omega) l hU (fun h' e' c' U' a1 a2 l' hU' => H h' e' c' U' a1 (by omega) l' hU')
end
