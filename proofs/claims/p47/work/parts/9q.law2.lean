/-! the law: the loop and the start -/
section
variable {X : eX} {Q : eO → eM → Prop}
theorem lp_49 : ∀ (j k : Nat) (e : Nat) (h : Nat → Nat → Int) (N : Nat) (j3 j4 j5 j6 j7 j8 j9 j10 j11 : eV), k + j = 24 → 1 ≤ k → N + 200 * j < 80000 → LWS h N → (∀ h' e', e ≤ e' → e' ≤ e + 9600 * j → Q (.inl (some (vI 1))) (eNT, e', ewP, h')) → eP X m_L_law 49 [vR 1000, vR 1, vI (k : Int), j3, j4, j5, j6, j7, j8, j9, j10, j11] [] (eNT, e, ewP, h) Q := by
  intro j
  induction j with
  | zero =>
    intro k e h N j3 j4 j5 j6 j7 j8 j9 j10 j11 hk h1 hN ls H
    refine eP_j X (jle_of (a := [vR 1000, vR 1, vI (k : Int), vJ, vJ, vJ, vJ, vJ, vJ, vJ, vJ, j11]) ⟨Or.inr rfl, Or.inr rfl, Or.inr rfl, Or.inl rfl, Or.inl rfl, Or.inl rfl, Or.inl rfl, Or.inl rfl, Or.inl rfl, Or.inl rfl, Or.inl rfl, Or.inr rfl, trivial⟩) ?_
    refine bk_L_law_49 X 1000 1 k j11 eNT e ewP h Q ?_
    rw [if_neg (by omega), if_pos (Or.inr rfl)]
    exact H h e (Nat.le_refl _) (by omega)
  | succ j ih =>
    intro k e h N j3 j4 j5 j6 j7 j8 j9 j10 j11 hk hk1 hN ls H
    refine eP_j X (jle_of (a := [vR 1000, vR 1, vI (k : Int), vJ, vJ, vJ, vJ, vJ, vJ, vJ, vJ, j11]) ⟨Or.inr rfl, Or.inr rfl, Or.inr rfl, Or.inl rfl, Or.inl rfl, Or.inl rfl, Or.inl rfl, Or.inl rfl, Or.inl rfl, Or.inl rfl, Or.inl rfl, Or.inr rfl, trivial⟩) ?_
    refine bk_L_law_49 X 1000 1 k j11 eNT e ewP h Q ?_
    rw [if_pos (by omega)]
    obtain ⟨w, c, U, b, r, W, l, ct, hU, hz⟩ := ls
    have hc8 := LI_c l
    obtain ⟨p1, p2, p3⟩ := pC_b hc8
    refine c_cell (by omega) (fun v1 => ?_)
    refine j_mark l (fun h1 e1 a1 a2 l1 => ?_)
    refine j_account l1 (by omega) (fun h2 e2 b1 b2 l2 => ?_)
    rw [show gJ (gAc w W [] c 13) = (c : Int) from rfl]
    refine j_acts (e1 := e2) (e2 := e2 + 4) ⟨fun v h4 e4 W4 hv c1 c2 hz4 l4 => ?_, fun v h4 e4 w4 W4 hv c1 c2 ct4 hz4 l4 => ?_⟩ (Nat.le_refl _) (Nat.le_refl _) ct (by omega) hz l2
    · dsimp only
      rw [if_pos (cmp_lt hv)]
      refine j_mark l4 (fun h5 e5 d1 d2 l5 => ?_)
      rw [if_pos (cmp_eq rfl)]
      refine j_account l5 (by omega) (fun h6 e6 f1 f2 l6 => ?_)
      rw [if_pos (cmp_eq (show gJ (gAc w W4 [] c 12) = 0 from rfl))]
      refine bk_L_law_84 X 1000 1 k v1 (mkV w) c v j11 eNT e6 ewP h6 Q ?_
      rw [if_pos (cmp_lt hv)]
      have ls6 : LWS h6 (N + 120) := ⟨w, c, U, b, r, W4, l6, ctB_le (by omega) ct, HI_le (by omega) hU, hz4⟩
      refine s110 (N := N + 120) ls6 (by omega) (fun h9 e9 j10' j11' y1 y2 ls9 => ?_)
      refine s152 ls9 (by omega) (fun hA eA z1 z2 lsA => ?_)
      rw [wr1 (by omega)]
      exact ih (k + 1) eA hA (N + 200) _ _ _ _ _ _ _ _ _ (by omega) (by omega) (by omega) (LWS_le (by omega) lsA) (fun hB eB x1 x2 => H hB eB (by omega) (by omega))
    · dsimp only
      rw [if_neg (cmp_ge hv)]
      refine j_account l4 (by omega) (fun h6 e6 f1 f2 l6 => ?_)
      rw [if_pos (cmp_eq (show gJ (gAc w4 W4 [] (pC c) 12) = 0 from rfl))]
      refine bk_L_law_84 X 1000 1 k v1 (mkV w) c v j11 eNT e6 ewP h6 Q ?_
      rw [if_neg (cmp_ge hv), if_neg (by decide)]
      have hU6 := HI_p (ctB_le (M := N + 60) (by omega) ct) (HI_le (by omega) hU) hc8
      by_cases q3 : ((k : Nat) : Int).tmod 3 = 0
      · rw [if_pos q3]
        refine j_undo l6 (fun z => by omega) (fun _ h7 l7 => ?_)
        rw [pU2_l hc8] at l7
        have hm : ((pC c - 1 : Nat) : Int) = if (c : Int) ≤ (7 : Int) then (c : Int) else (7 : Int) := by
          rw [p3]
          split <;> omega
        rw [if_pos (cmp_eq hm)]
        refine j_mark l7 (fun h8 e8 g1 g2 l8 => ?_)
        rw [if_pos (cmp_eq rfl)]
        have hU8 : HI (N + 60) (pC c - 1) (pU2 c U w) := fun j hj => hU6 j (by omega)
        refine j_acts (e1 := e8) (e2 := e8 + 4) (LWS_AR l8 (ctB_le (M := N + 60) (by omega) ct) hU8 (fun v5 hC eC m1 m2 lsC => ?_)) (Nat.le_refl _) (Nat.le_refl _) (ctB_le (M := N + 60) (by omega) ct) (by omega) hz4 l8
        refine s110 (N := N + 120) lsC (by omega) (fun h9 e9 j10' j11' y1 y2 ls9 => ?_)
        refine s152 ls9 (by omega) (fun hA eA z1 z2 lsA => ?_)
        rw [wr1 (by omega)]
        exact ih (k + 1) eA hA (N + 200) _ _ _ _ _ _ _ _ _ (by omega) (by omega) (by omega) (LWS_le (by omega) lsA) (fun hB eB x1 x2 => H hB eB (by omega) (by omega))
      · rw [if_neg q3]
        have ls6 : LWS h6 (N + 120) := ⟨w4, _, _, b, r, W4, l6, ctB_le (by omega) ct4, HI_le (by omega) hU6, hz4⟩
        refine s110 (N := N + 120) ls6 (by omega) (fun h9 e9 j10' j11' y1 y2 ls9 => ?_)
        refine s152 ls9 (by omega) (fun hA eA z1 z2 lsA => ?_)
        rw [wr1 (by omega)]
        exact ih (k + 1) eA hA (N + 200) _ _ _ _ _ _ _ _ _ (by omega) (by omega) (by omega) (LWS_le (by omega) lsA) (fun hB eB x1 x2 => H hB eB (by omega) (by omega))
theorem ctB_0 : ctB 0 (fun _ => 0) := by
  unfold ctB
  decide
theorem p0_ew : seg 1 576 (zr (fun _ _ => 0) 1 0) = ewP := by
  funext z
  by_cases q : 1 ≤ z ∧ z ≤ 576
  · exact seg_in q.1 q.2
  · rw [seg_out (by omega), zrP_ne (by omega)]
    exact ewP_out (by omega)
theorem law_run (H : ∀ h' e', e' ≤ 230000 → Q (.inl (some (vI 1))) (eNT, e', ewP, h')) : eP X m_L_law 0 [vR 1000, vJ, vJ, vJ, vJ, vJ, vJ, vJ, vJ, vJ, vJ, vJ] [] (0, 0, fun _ _ => 0, fun _ _ => 0) Q := by
  refine bk_L_law_0 X 1000 0 0 (fun _ _ => 0) (fun _ _ => 0) Q ?_
  rw [if_pos ⟨by decide +kernel, rfl⟩, if_pos (by decide +kernel)]
  have e0 : zr (fun _ _ => (0 : Int)) (0 + 1) 0 = fun _ _ => 0 := by
    funext a k
    unfold zr
    split <;> rfl
  rw [e0]
  show eCv X m_X12_init [vR 1] 1 0 (zr (fun _ _ => 0) 1 0) (fun _ _ => 0) _ _
  rw [st_12 (fun _ _ => rfl) zrP_eq, p0_ew]
  have l0 : LI (up (fun _ _ => 0) 1 11 (-1)) (fun _ => 0) 0 (fun _ _ => 0) false (fun _ => 0) [] [] := ⟨_, _, _, _, CI_0 (fun z z1 _ => by funext k; unfold up; rw [if_neg (fun y => z1 y.1)]) (fun k hk => by unfold up; rw [if_neg (fun y => hk y.2)]) (by unfold up; rw [if_pos ⟨rfl, rfl⟩])⟩
  refine lp_l6 (X := X) 3 0 0 _ 0 vJ rfl (by decide) ⟨_, _, _, _, _, _, l0, ctB_0, fun j hj => absurd hj (Nat.not_lt_zero _), wz_0⟩ (fun h1 e1 a1 a2 ls1 => ?_)
  exact lp_49 23 1 e1 h1 (0 + 120 * 3) _ _ _ _ _ _ _ _ _ rfl (by decide) (by decide) ls1 (fun h2 e2 b1 b2 => H h2 e2 (by omega))
end
