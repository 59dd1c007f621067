/-! the start: the law -/
section
variable {X : eX}
theorem wR_0 {h : Nat → Nat → Int} {b : Nat} (q : ∀ z, b ≤ z → z < b + 50 → h z = fun _ => 0) : wR h b (fun _ => 0) := by
  refine ⟨0, 0, fun _ => 0, ⟨rfl, by decide, rfl, by decide, fun i hi => absurd hi (Nat.not_lt_zero _), fun i hi => absurd hi (Nat.not_lt_zero _), by decide, by decide⟩, ?_⟩
  refine ⟨by rw [q b (by omega) (by omega)]; rfl, by rw [q b (by omega) (by omega)]; rfl, fun i hi => absurd hi (Nat.not_lt_zero _), fun i hi => absurd hi (Nat.not_lt_zero _), ⟨by rw [q _ (by omega) (by omega)], fun k _ => by rw [q _ (by omega) (by omega)], [], ?_, by decide, rfl, fun k hk => absurd hk (Nat.not_lt_zero _)⟩, ?_⟩
  · refine ⟨by rw [q _ (by omega) (by omega)]; rfl, by decide, fun k hk => absurd hk (Nat.not_lt_zero _), fun k => ?_⟩
    rw [q _ (by omega) (by omega)]
    exact ⟨Int.le_refl 0, (by decide : (0 : Int) < 65536)⟩
  · unfold scR
    rw [q b (by omega) (by omega)]
    exact ⟨rfl, rfl, rfl, rfl, rfl, rfl, rfl, rfl⟩
theorem lCh_0 {h : Nat → Nat → Int} {c : Nat} (q : h (c + 1) = fun _ => 0) : lCh h c := fun k => by
  rw [q]
  exact ⟨Int.le_refl 0, (by decide : (0 : Int) < 65536)⟩
theorem lR_0 {h : Nat → Nat → Int} {c : Nat} (q0 : h c = fun _ => 0) (q : h (c + 1) = fun _ => 0) : lR h c [] :=
  ⟨by rw [q0]; rfl, by decide, fun k hk => absurd hk (Nat.not_lt_zero _), lCh_0 q⟩
theorem SI_0 {h : Nat → Nat → Int} (q : ∀ z, z ≠ 1 → z ≠ 577 → h z = fun _ => 0) (q1 : ∀ k, k ≠ 11 → h 1 k = 0) (q2 : h 1 11 = -1) (q3 : ∀ k, k ≠ 26 → h 577 k = 0) (q4 : h 577 26 = -1) : SI h 0 := by
  refine ⟨fun _ => 0, 0, fun _ _ => 0, false, fun _ => 0, (0, 0), (0, 0), [], [], [], -1, ?_, ?_, by unfold ctB; decide, fun j hj => absurd hj (Nat.not_lt_zero _), fun hb => absurd hb (by decide), fun x hx => absurd hx List.not_mem_nil, fun _ => rfl⟩
  · refine ⟨wR_0 (fun z h1 h2 => q z (by omega) (by omega)), ⟨by decide, by rw [q _ (by omega) (by omega)]; rfl, ⟨0, by decide, by rw [q _ (by omega) (by omega)]; rfl, fun j hj => absurd hj (Nat.not_lt_zero _)⟩, fun j hj => lCh_0 (q _ (by omega) (by omega))⟩, ⟨by rw [q1 _ (by omega)]; rfl, lCh_0 (q _ (by omega) (by omega)), fun hb => absurd hb (by decide)⟩, ⟨by rw [q _ (by omega) (by omega)], fun hk => absurd rfl hk, by rw [q _ (by omega) (by omega)], fun hk => absurd rfl hk, lCh_0 (q _ (by omega) (by omega))⟩, ?_⟩
    exact ⟨lR_0 (q _ (by omega) (by omega)) (q _ (by omega) (by omega)), by decide, lR_0 (q _ (by omega) (by omega)) (q _ (by omega) (by omega)), lR_0 (q _ (by omega) (by omega)) (q _ (by omega) (by omega)), lR_0 (q _ (by omega) (by omega)) (q _ (by omega) (by omega)), q2, lCh_0 (q _ (by omega) (by omega)), lCh_0 (q _ (by omega) (by omega)), lCh_0 (q _ (by omega) (by omega))⟩
  · refine ⟨q _ (by omega) (by omega), ⟨q3 _ (by omega), by decide, 0, by decide, q3 _ (by omega), fun j hj => absurd hj (Nat.not_lt_zero _)⟩, ⟨by rw [q3 _ (by omega)]; rfl, fun hb => absurd hb (by decide)⟩, ⟨q3 _ (by omega), fun hk => absurd rfl hk, q3 _ (by omega), fun hk => absurd rfl hk⟩, ?_⟩
    exact ⟨q3 _ (by omega), by decide, fun k hk => absurd hk (Nat.not_lt_zero _), q3 _ (by omega), by decide, fun k hk => absurd hk (Nat.not_lt_zero _), q3 _ (by omega), by decide, fun k hk => absurd hk (Nat.not_lt_zero _), q4⟩
theorem cx6 : ewK 588 = 23 ∧ ewL 588 = 1 ∧ ewK 589 = 24 ∧ ewL 589 = 1 := by decide +kernel
theorem cx7 : ptTbl.length ≤ 19 ∧ (ptTbl.getD 0 []).getD 0 [] = [] := by decide +kernel
theorem cx8 : ∀ a, a < 640 → 588 ≤ a → (ptTbl.getD (a / 32) []).getD (a % 32) [] = [] := by decide +kernel
theorem ewP_out {z : Nat} (q : z = 0 ∨ 588 ≤ z) : (fun _ => 0) = ewP z := by
  funext k
  refine (ewP_row z k ?_).symm
  have e : (ptTbl.getD (z / 32) []).getD (z % 32) [] = [] := by
    rcases q with q | q
    · subst q; exact cx7.2
    · by_cases q2 : z < 640
      · exact cx8 z q2 q
      · rw [show ptTbl.getD (z / 32) [] = [] by rw [List.getD_eq_getElem?_getD, List.getElem?_eq_none (by have := cx7.1; omega)]; rfl]
        rfl
  rw [e]
  exact Nat.zero_le _
theorem law_start {Q : eO → eM → Prop} (H : ∀ h, SI h 0 → eP X m_L_law 16 [vR 1000, vR 1, vR 577, vR 588, vR 589, vI ((0 : Nat) : Int), vJ, vJ, vJ] [] (eNT, 0, ewP, h) Q) : eP X m_L_law 0 [vR 1000, vJ, vJ, vJ, vJ, vJ, vJ, vJ, vJ] [] (0, 0, fun _ _ => 0, fun _ _ => 0) Q := by
  refine bk_L_law_0 X 1000 0 0 _ _ Q ?_
  obtain ⟨c0, -⟩ := cx4
  obtain ⟨k88, l88, k89, l89⟩ := cx6
  have z0 : hZ 1 (fun _ _ => (0 : Int)) := fun z _ => rfl
  have z1 : hZ 577 (up (fun _ _ => (0 : Int)) 1 11 (-1)) := fun z hz => by rw [up_ne (by omega)]
  rw [show 0 + 1 = 1 from rfl, if_pos ⟨cl1, rfl⟩, if_pos (kn_lt (Nat.le_refl _) cl1), zr_h z0 (by omega), st_12 z0 zrP_eq]
  rw [show 576 + 1 = 577 from rfl, if_pos ⟨c0, rfl⟩, if_pos (kn_lt (Nat.le_refl _) c0), zr_h z1 (by omega), st_13 z1 zrP_eq]
  rw [show 587 + 1 = 588 from rfl, if_pos ⟨k88, by rw [l88]; rfl, rfl⟩, show 588 + 1 = 589 from rfl, if_pos ⟨k89, by rw [l89]; rfl, rfl⟩]
  have z2 : ∀ z, 588 ≤ z → zr (up (up (fun _ _ => (0 : Int)) 1 11 (-1)) 577 26 (-1)) z 0 = up (up (fun _ _ => (0 : Int)) 1 11 (-1)) 577 26 (-1) := fun z hz => zr_h (a := 588) (fun y hy => by rw [up_ne (by omega), up_ne (by omega)]) hz
  rw [z2 588 (by omega), z2 589 (by omega)]
  have e2 : zr (zr (seg 577 587 (zr (seg 1 576 (zr (fun _ _ => 0) 1 0)) 577 0)) 588 0) 589 0 = ewP := by
    funext z
    by_cases y9 : z = 589
    · rw [y9, zrP_eq]; exact ewP_out (by omega)
    rw [zrP_ne y9]
    by_cases y8 : z = 588
    · rw [y8, zrP_eq]; exact ewP_out (by omega)
    rw [zrP_ne y8]
    by_cases y7 : 577 ≤ z ∧ z ≤ 587
    · rw [seg_in y7.1 y7.2]
    rw [seg_out (by omega), zrP_ne (by omega)]
    by_cases y6 : 1 ≤ z ∧ z ≤ 576
    · rw [seg_in y6.1 y6.2]
    rw [seg_out (by omega), zrP_ne (by omega)]
    exact ewP_out (by omega)
  rw [e2]
  refine H _ (SI_0 (fun z h1 h2 => ?_) (fun k hk => ?_) ?_ (fun k hk => ?_) up_eq)
  · rw [up_ne h2, up_ne h1]
  · rw [up_ne (by omega), up_nk hk]
  · rw [up_ne (by omega), up_eq]
  · rw [up_nk hk, up_ne (by omega)]
end
