/-! the loop -/
def RunA (X : eX) : Prop := ∀ (e i t : Nat) (h : Nat → Nat → Int) (Q : eO → eM → Prop) (s6 j7 j8 : eV), (s6 = vJ ∨ ∃ x, s6 = vI x) → i + 4 ≤ X.1 → X.1 ≤ 2048 → t < 1000 → SI h t → NX X Q i t e → eP X m_L_law 1211 [vR 1000, vR 1, vR 577, vR 588, vR 589, vI (i : Int), s6, j7, j8] [] (eNT, e, ewP, h) Q
theorem SI_le {h : Nat → Nat → Int} {t : Nat} (l : SI h t) : SI h (t + 1) := by
  obtain ⟨w, c, U, b, r, k1, k2, W, I, L, f, lc, lm, z1, z2, z3, z4, z5⟩ := l
  exact ⟨w, c, U, b, r, k1, k2, W, I, L, f, lc, lm, ctB_le (by omega) z1, fun j hj => ctB_le (by omega) (z2 j hj), fun hb => ctB_le (by omega) (z3 hb), z4, z5⟩
theorem lp_law {X : eX} (hR : RunA X) (hX : X.1 ≤ 2048) {Q : eO → eM → Prop} (HQ : ∀ h' e', e' ≤ 512 → Q (.inl (some (vI 1))) (eNT, e', ewP, h')) : ∀ (k i t e : Nat) (h : Nat → Nat → Int) (s6 s7 s8 : eV), i = 4 * t → i ≤ 2048 → X.1 < i + 4 + 4 * k → (s6 = vJ ∨ ∃ x, s6 = vI x) → SI h t → e ≤ t → eP X m_L_law 16 [vR 1000, vR 1, vR 577, vR 588, vR 589, vI (i : Int), s6, s7, s8] [] (eNT, e, ewP, h) Q := by
  intro k
  induction k with
  | zero =>
    intro i t e h s6 s7 s8 hi hi2 hk hs l he
    have e1 : wr ((X.1 : Int) - 4) = (X.1 : Int) - 4 := wrn (by omega) (by omega)
    rcases hs with rfl | ⟨j6, rfl⟩
    · refine bk_L_law_16 X 1000 1 577 588 589 i s7 s8 eNT e ewP h Q ?_
      rw [if_pos rfl, e1, if_neg (by omega), if_pos (Or.inr rfl)]
      exact HQ h e (by omega)
    · refine bk_L_law_16b X 1000 1 577 588 589 i j6 s7 s8 eNT e ewP h Q ?_
      rw [if_pos rfl, e1, if_neg (by omega), if_pos (Or.inr rfl)]
      exact HQ h e (by omega)
  | succ k ih =>
    intro i t e h s6 s7 s8 hi hi2 hk hs l he
    have e1 : wr ((X.1 : Int) - 4) = (X.1 : Int) - 4 := wrn (by omega) (by omega)
    by_cases q : (i : Int) ≤ (X.1 : Int) - 4
    · have hI : i + 4 ≤ X.1 := by omega
      have H : NX X Q i t e := fun h' e' r6 r7 r8 hr l' he' => by
        have e2 : wr ((i : Int) + 4) = ((i + 4 : Nat) : Int) := by rw [wrn (by omega) (by omega)]; omega
        rcases hr with rfl | ⟨x, rfl⟩
        · refine bk_L_law_1545 X 1000 1 577 588 589 i r7 r8 eNT e' ewP h' Q ?_
          rw [e2]
          exact ih (i + 4) (t + 1) e' h' _ _ _ (by omega) (by omega) (by omega) (Or.inl rfl) l' (by omega)
        · refine bk_L_law_1545b X 1000 1 577 588 589 i x r7 r8 eNT e' ewP h' Q ?_
          rw [e2]
          exact ih (i + 4) (t + 1) e' h' _ _ _ (by omega) (by omega) (by omega) (Or.inr ⟨_, rfl⟩) l' (by omega)
      have g : 1000 = 1000 ∧ 0 ≤ (i : Int) ∧ (i : Int) < (X.1 : Int) := ⟨rfl, by omega, by omega⟩
      rcases hs with rfl | ⟨j6, rfl⟩
      · refine bk_L_law_16 X 1000 1 577 588 589 i s7 s8 eNT e ewP h Q ?_
        rw [if_pos rfl, e1, if_pos q, if_pos g, if_pos rfl]
        generalize X.2 (i : Int).toNat % 64 = v
        by_cases q0 : v = ((0 : Nat) : Int)
        · rw [if_pos q0]; exact ar_dig hI hX (by omega) l H _ _
        rw [if_neg q0]
        by_cases q1 : v = ((1 : Nat) : Int)
        · rw [if_pos q1]; exact ar_deepen hI hX (by omega) l H _ _
        rw [if_neg q1]
        by_cases q2 : v = ((2 : Nat) : Int)
        · rw [if_pos q2]; exact ar_fill hI hX (by omega) l H _ _
        rw [if_neg q2]
        by_cases q3 : v = ((3 : Nat) : Int)
        · rw [if_pos q3]; exact ar_coin hI hX (by omega) l H _ _
        rw [if_neg q3]
        by_cases q4 : v = ((4 : Nat) : Int)
        · rw [if_pos q4]; exact ar_frog hI hX (by omega) l H _ _
        rw [if_neg q4]
        by_cases q5 : v = ((5 : Nat) : Int)
        · rw [if_pos q5]; exact ar_moss hI hX (by omega) l H _ _
        rw [if_neg q5]
        by_cases q6 : v = ((6 : Nat) : Int)
        · rw [if_pos q6]; exact ar_take hI hX (by omega) l H _ _
        rw [if_neg q6]
        by_cases q7 : v = ((7 : Nat) : Int)
        · rw [if_pos q7]; exact ar_wake hI hX (by omega) l H _ _
        rw [if_neg q7]
        by_cases q8 : v = ((8 : Nat) : Int)
        · rw [if_pos q8]; exact ar_rope hI hX (by omega) l H _ _
        rw [if_neg q8]
        by_cases q9 : v = ((9 : Nat) : Int)
        · rw [if_pos q9]; exact ar_bind hI hX (by omega) l H _ _
        rw [if_neg q9]
        by_cases q10 : v = ((10 : Nat) : Int)
        · rw [if_pos q10]; exact ar_fish hI hX (by omega) l H _ _
        rw [if_neg q10]
        by_cases q11 : v = ((11 : Nat) : Int)
        · rw [if_pos q11]; exact ar_letter hI hX l H _ _
        rw [if_neg q11]
        by_cases q12 : v = ((12 : Nat) : Int)
        · rw [if_pos q12]; exact ar_shout hI hX (by omega) l H _ _
        rw [if_neg q12]
        by_cases q13 : v = ((13 : Nat) : Int)
        · rw [if_pos q13]; exact ar_wellOf hI hX l H _ _
        rw [if_neg q13]
        by_cases q14 : v = ((14 : Nat) : Int)
        · rw [if_pos q14]; exact ar_thingOf hI hX l H _ _
        rw [if_neg q14]
        by_cases q15 : v = ((15 : Nat) : Int)
        · rw [if_pos q15]; exact ar_ropeOf hI hX l H _ _
        rw [if_neg q15]
        by_cases q16 : v = ((16 : Nat) : Int)
        · rw [if_pos q16]; exact ar_bookOf hI hX l H _ _
        rw [if_neg q16]
        by_cases q17 : v = ((17 : Nat) : Int)
        · rw [if_pos q17]; exact ar_time hI hX l H _ _
        rw [if_neg q17]
        by_cases q18 : v = ((18 : Nat) : Int)
        · rw [if_pos q18]; exact ar_timeAgain hI hX l H _ _
        rw [if_neg q18]
        by_cases q19 : v = ((19 : Nat) : Int)
        · rw [if_pos q19]; exact ar_isLater hI hX l H _ _
        rw [if_neg q19]
        by_cases q20 : v = ((20 : Nat) : Int)
        · rw [if_pos q20]; exact ar_echoLength hI hX l H _ _
        rw [if_neg q20]
        by_cases q21 : v = ((21 : Nat) : Int)
        · rw [if_pos q21]; exact ar_echoLetter hI hX l H _ _
        rw [if_neg q21]
        by_cases q22 : v = ((22 : Nat) : Int)
        · rw [if_pos q22]; exact ar_losses hI hX l H _ _
        rw [if_neg q22]
        by_cases q23 : v = ((23 : Nat) : Int)
        · rw [if_pos q23]; exact ar_wouldGrade hI hX l H _ _
        rw [if_neg q23]
        by_cases q24 : v = ((24 : Nat) : Int)
        · rw [if_pos q24]; exact ar_bestWell hI hX l H _ _
        rw [if_neg q24]
        by_cases q25 : v = ((25 : Nat) : Int)
        · rw [if_pos q25]; exact ar_isWhole hI hX l H _ _
        rw [if_neg q25]
        by_cases q26 : v = ((26 : Nat) : Int)
        · rw [if_pos q26]; exact ar_vowels l H _ _
        rw [if_neg q26]
        by_cases q27 : v = ((27 : Nat) : Int)
        · rw [if_pos q27]; exact ar_reach hI hX l H _ _
        rw [if_neg q27]
        by_cases q28 : v = ((28 : Nat) : Int)
        · rw [if_pos q28]; exact ar_ranked hI hX l H _ _
        rw [if_neg q28]
        by_cases q29 : v = ((29 : Nat) : Int)
        · rw [if_pos q29]; exact ar_isTold l H _ _
        rw [if_neg q29]
        by_cases q30 : v = ((30 : Nat) : Int)
        · rw [if_pos q30]; exact ar_append hI hX l H _ _
        rw [if_neg q30]
        by_cases q31 : v = ((31 : Nat) : Int)
        · rw [if_pos q31]; exact hR e i t h Q _ _ _ (Or.inl rfl) hI hX (by omega) l H
        rw [if_neg q31]
        by_cases q32 : v = ((32 : Nat) : Int)
        · rw [if_pos q32]; exact ar_faultPosition l H _ _
        rw [if_neg q32]
        by_cases q33 : v = ((33 : Nat) : Int)
        · rw [if_pos q33]; exact ar_reason hI hX l H _ _
        rw [if_neg q33]
        by_cases q34 : v = ((34 : Nat) : Int)
        · rw [if_pos q34]; exact ar_tellWord l H _ _
        rw [if_neg q34]
        by_cases q35 : v = ((35 : Nat) : Int)
        · rw [if_pos q35]; exact ar_tellEcho l H _ _
        rw [if_neg q35]
        by_cases q36 : v = ((36 : Nat) : Int)
        · rw [if_pos q36]; exact ar_tellWell hI hX l H _ _
        rw [if_neg q36]
        by_cases q37 : v = ((37 : Nat) : Int)
        · rw [if_pos q37]; exact ar_character hI hX l H _ _
        rw [if_neg q37]
        by_cases q38 : v = ((38 : Nat) : Int)
        · rw [if_pos q38]; exact ar_account hI hX l H _ _
        rw [if_neg q38]
        by_cases q39 : v = ((39 : Nat) : Int)
        · rw [if_pos q39]; exact ar_meanGrade (by omega) l H _ _
        rw [if_neg q39]
        by_cases q40 : v = ((40 : Nat) : Int)
        · rw [if_pos q40]; exact ar_lostShare (by omega) l H _ _
        rw [if_neg q40]
        by_cases q41 : v = ((41 : Nat) : Int)
        · rw [if_pos q41]; exact ar_undo hI hX l H _ _
        rw [if_neg q41]
        by_cases q42 : v = ((42 : Nat) : Int)
        · rw [if_pos q42]; exact ar_save hI hX l H _ _
        rw [if_neg q42]
        by_cases q43 : v = ((43 : Nat) : Int)
        · rw [if_pos q43]; exact ar_restore hI hX l H _ _
        rw [if_neg q43]
        exact H _ _ _ _ _ (Or.inl rfl) (SI_le l) (by omega)
      · refine bk_L_law_16b X 1000 1 577 588 589 i j6 s7 s8 eNT e ewP h Q ?_
        rw [if_pos rfl, e1, if_pos q, if_pos g, if_pos rfl]
        generalize X.2 (i : Int).toNat % 64 = v
        by_cases q0 : v = ((0 : Nat) : Int)
        · rw [if_pos q0]; exact ar_digb hI hX (by omega) l H _ _ _
        rw [if_neg q0]
        by_cases q1 : v = ((1 : Nat) : Int)
        · rw [if_pos q1]; exact ar_deepenb hI hX (by omega) l H _ _ _
        rw [if_neg q1]
        by_cases q2 : v = ((2 : Nat) : Int)
        · rw [if_pos q2]; exact ar_fillb hI hX (by omega) l H _ _ _
        rw [if_neg q2]
        by_cases q3 : v = ((3 : Nat) : Int)
        · rw [if_pos q3]; exact ar_coinb hI hX (by omega) l H _ _ _
        rw [if_neg q3]
        by_cases q4 : v = ((4 : Nat) : Int)
        · rw [if_pos q4]; exact ar_frogb hI hX (by omega) l H _ _ _
        rw [if_neg q4]
        by_cases q5 : v = ((5 : Nat) : Int)
        · rw [if_pos q5]; exact ar_mossb hI hX (by omega) l H _ _ _
        rw [if_neg q5]
        by_cases q6 : v = ((6 : Nat) : Int)
        · rw [if_pos q6]; exact ar_takeb hI hX (by omega) l H _ _ _
        rw [if_neg q6]
        by_cases q7 : v = ((7 : Nat) : Int)
        · rw [if_pos q7]; exact ar_wakeb hI hX (by omega) l H _ _ _
        rw [if_neg q7]
        by_cases q8 : v = ((8 : Nat) : Int)
        · rw [if_pos q8]; exact ar_ropeb hI hX (by omega) l H _ _ _
        rw [if_neg q8]
        by_cases q9 : v = ((9 : Nat) : Int)
        · rw [if_pos q9]; exact ar_bindb hI hX (by omega) l H _ _ _
        rw [if_neg q9]
        by_cases q10 : v = ((10 : Nat) : Int)
        · rw [if_pos q10]; exact ar_fishb hI hX (by omega) l H _ _ _
        rw [if_neg q10]
        by_cases q11 : v = ((11 : Nat) : Int)
        · rw [if_pos q11]; exact ar_letterb hI hX l H _ _ _
        rw [if_neg q11]
        by_cases q12 : v = ((12 : Nat) : Int)
        · rw [if_pos q12]; exact ar_shoutb hI hX (by omega) l H _ _ _
        rw [if_neg q12]
        by_cases q13 : v = ((13 : Nat) : Int)
        · rw [if_pos q13]; exact ar_wellOfb hI hX l H _ _ _
        rw [if_neg q13]
        by_cases q14 : v = ((14 : Nat) : Int)
        · rw [if_pos q14]; exact ar_thingOfb hI hX l H _ _ _
        rw [if_neg q14]
        by_cases q15 : v = ((15 : Nat) : Int)
        · rw [if_pos q15]; exact ar_ropeOfb hI hX l H _ _ _
        rw [if_neg q15]
        by_cases q16 : v = ((16 : Nat) : Int)
        · rw [if_pos q16]; exact ar_bookOfb hI hX l H _ _ _
        rw [if_neg q16]
        by_cases q17 : v = ((17 : Nat) : Int)
        · rw [if_pos q17]; exact ar_timeb hI hX l H _ _ _
        rw [if_neg q17]
        by_cases q18 : v = ((18 : Nat) : Int)
        · rw [if_pos q18]; exact ar_timeAgainb hI hX l H _ _ _
        rw [if_neg q18]
        by_cases q19 : v = ((19 : Nat) : Int)
        · rw [if_pos q19]; exact ar_isLaterb hI hX l H _ _ _
        rw [if_neg q19]
        by_cases q20 : v = ((20 : Nat) : Int)
        · rw [if_pos q20]; exact ar_echoLengthb hI hX l H _ _ _
        rw [if_neg q20]
        by_cases q21 : v = ((21 : Nat) : Int)
        · rw [if_pos q21]; exact ar_echoLetterb hI hX l H _ _ _
        rw [if_neg q21]
        by_cases q22 : v = ((22 : Nat) : Int)
        · rw [if_pos q22]; exact ar_lossesb hI hX l H _ _ _
        rw [if_neg q22]
        by_cases q23 : v = ((23 : Nat) : Int)
        · rw [if_pos q23]; exact ar_wouldGradeb hI hX l H _ _ _
        rw [if_neg q23]
        by_cases q24 : v = ((24 : Nat) : Int)
        · rw [if_pos q24]; exact ar_bestWellb hI hX l H _ _ _
        rw [if_neg q24]
        by_cases q25 : v = ((25 : Nat) : Int)
        · rw [if_pos q25]; exact ar_isWholeb hI hX l H _ _ _
        rw [if_neg q25]
        by_cases q26 : v = ((26 : Nat) : Int)
        · rw [if_pos q26]; exact ar_vowelsb l H _ _ _
        rw [if_neg q26]
        by_cases q27 : v = ((27 : Nat) : Int)
        · rw [if_pos q27]; exact ar_reachb hI hX l H _ _ _
        rw [if_neg q27]
        by_cases q28 : v = ((28 : Nat) : Int)
        · rw [if_pos q28]; exact ar_rankedb hI hX l H _ _ _
        rw [if_neg q28]
        by_cases q29 : v = ((29 : Nat) : Int)
        · rw [if_pos q29]; exact ar_isToldb l H _ _ _
        rw [if_neg q29]
        by_cases q30 : v = ((30 : Nat) : Int)
        · rw [if_pos q30]; exact ar_appendb hI hX l H _ _ _
        rw [if_neg q30]
        by_cases q31 : v = ((31 : Nat) : Int)
        · rw [if_pos q31]; exact hR e i t h Q _ _ _ (Or.inr ⟨_, rfl⟩) hI hX (by omega) l H
        rw [if_neg q31]
        by_cases q32 : v = ((32 : Nat) : Int)
        · rw [if_pos q32]; exact ar_faultPositionb l H _ _ _
        rw [if_neg q32]
        by_cases q33 : v = ((33 : Nat) : Int)
        · rw [if_pos q33]; exact ar_reasonb hI hX l H _ _ _
        rw [if_neg q33]
        by_cases q34 : v = ((34 : Nat) : Int)
        · rw [if_pos q34]; exact ar_tellWordb l H _ _ _
        rw [if_neg q34]
        by_cases q35 : v = ((35 : Nat) : Int)
        · rw [if_pos q35]; exact ar_tellEchob l H _ _ _
        rw [if_neg q35]
        by_cases q36 : v = ((36 : Nat) : Int)
        · rw [if_pos q36]; exact ar_tellWellb hI hX l H _ _ _
        rw [if_neg q36]
        by_cases q37 : v = ((37 : Nat) : Int)
        · rw [if_pos q37]; exact ar_characterb hI hX l H _ _ _
        rw [if_neg q37]
        by_cases q38 : v = ((38 : Nat) : Int)
        · rw [if_pos q38]; exact ar_accountb hI hX l H _ _ _
        rw [if_neg q38]
        by_cases q39 : v = ((39 : Nat) : Int)
        · rw [if_pos q39]; exact ar_meanGradeb (by omega) l H _ _ _
        rw [if_neg q39]
        by_cases q40 : v = ((40 : Nat) : Int)
        · rw [if_pos q40]; exact ar_lostShareb (by omega) l H _ _ _
        rw [if_neg q40]
        by_cases q41 : v = ((41 : Nat) : Int)
        · rw [if_pos q41]; exact ar_undob hI hX l H _ _ _
        rw [if_neg q41]
        by_cases q42 : v = ((42 : Nat) : Int)
        · rw [if_pos q42]; exact ar_saveb hI hX l H _ _ _
        rw [if_neg q42]
        by_cases q43 : v = ((43 : Nat) : Int)
        · rw [if_pos q43]; exact ar_restoreb hI hX l H _ _ _
        rw [if_neg q43]
        exact H _ _ _ _ _ (Or.inr ⟨_, rfl⟩) (SI_le l) (by omega)
    · rcases hs with rfl | ⟨j6, rfl⟩
      · refine bk_L_law_16 X 1000 1 577 588 589 i s7 s8 eNT e ewP h Q ?_
        rw [if_pos rfl, e1, if_neg q, if_pos (Or.inr rfl)]
        exact HQ h e (by omega)
      · refine bk_L_law_16b X 1000 1 577 588 589 i j6 s7 s8 eNT e ewP h Q ?_
        rw [if_pos rfl, e1, if_neg q, if_pos (Or.inr rfl)]
        exact HQ h e (by omega)
