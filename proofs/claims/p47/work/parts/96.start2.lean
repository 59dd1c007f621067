/-! the start: keeper and reader -/
theorem ky554 : ewK 554 = 3 ∧ ewK 555 = 7 ∧ ewK 556 = 7 ∧ ewK 557 = 9 ∧ ewK 558 = 4 ∧ ewK 559 = 21 ∧ ewL 559 = 60 ∧ ewP 554 0 = 555 ∧ ewP 554 1 = 556 ∧ ewP 554 2 = 557 ∧ ewP 557 0 = 558 ∧ ewP 558 0 = 559 := by decide +kernel
theorem ky560 : ewK 560 = 6 ∧ ewK 561 = 4 ∧ ewK 562 = 21 ∧ ewL 562 = 60 ∧ ewK 563 = 4 ∧ ewK 564 = 21 ∧ ewL 564 = 60 ∧ ewK 565 = 20 ∧ ewL 565 = 3 ∧ ewP 560 0 = 561 ∧ ewP 560 1 = 563 ∧ ewP 560 2 = 565 ∧ ewP 561 0 = 562 ∧ ewP 563 0 = 564 := by decide +kernel
section
variable {X : eX} {p : Nat → Nat → Nat} {h : Nat → Nat → Int}
theorem st_3 (q : hZ 554 h) (p0 : p 554 = fun _ => 0) (KV KX) : eCv X m_X3_init [vR 554] 554 0 p h KV KX = KV 559 0 (seg 554 559 p) h := by
  refine eCv_eq X (fun Q H => ?_) KV KX
  refine bk_X3_init_0 X 554 554 0 p h Q ?_
  obtain ⟨y1, y2, y3, y4, y5, y6, y7, y8, y9, y10, y11, y12⟩ := ky554
  rw [if_neg (by decide), if_pos ⟨y2, rfl⟩, if_pos (kn_lt (Nat.le_refl _) y2), zr_h q (by omega), st_7 (by omega), if_pos ⟨kn_lt (by omega) y1, Nat.le_refl _⟩, if_pos ⟨y3, rfl⟩, if_pos (kn_lt (Nat.le_refl _) y3), zr_h q (by omega), st_7 (by omega), if_pos ⟨kn_lt (by omega) y1, Nat.le_refl _⟩, if_pos ⟨y4, rfl⟩, if_pos (kn_lt (Nat.le_refl _) y4), zr_h q (by omega), st_9 y4 y5 y6 y7 (fun z hz => q z (by omega)) zrP_eq (by omega) y11 y12, if_pos ⟨kn_lt (by omega) y1, by omega⟩]
  have e2 : up (seg (554 + 1 + 1 + 1) (554 + 1 + 1 + 1 + 2) (zr (up (zr (up (zr p (554 + 1) 0) 554 0 (554 + 1)) (554 + 1 + 1) 0) 554 1 (554 + 1 + 1)) (554 + 1 + 1 + 1) 0)) 554 2 (554 + 1 + 1 + 1) = seg 554 559 p := by
    refine seg_of (fun z z1 z2 => ?_) (fun z hz => ?_)
    · by_cases y : z = 554
      · subst y
        funext k
        by_cases k2 : k = 2
        · rw [k2, upP_eq, y10]
        · rw [upP_nk k2, seg_out (by omega), zrP_ne (by omega)]
          by_cases k1 : k = 1
          · rw [k1, upP_eq, y9]
          · rw [upP_nk k1, zrP_ne (by omega)]
            by_cases k0 : k = 0
            · rw [k0, upP_eq, y8]
            · rw [upP_nk k0, zrP_ne (by omega), p0, ewP_row _ k (Nat.le_trans (pl_ok _ (by omega)) (by rw [y1]; simp; omega))]
      · rw [upP_ne y]
        by_cases z3 : 557 ≤ z
        · rw [seg_in z3 (by omega)]
        · rw [seg_out (by omega), zrP_ne (by omega), upP_ne y]
          by_cases z4 : z = 556
          · rw [z4, show 554 + 1 + 1 = 556 from rfl, zrP_eq]
            exact row0 (by omega) (Nat.le_trans (pl_ok 556 (by omega)) (by rw [y3]; decide))
          · rw [zrP_ne z4, upP_ne y, show z = 555 by omega, show 554 + 1 = 555 from rfl, zrP_eq]
            exact row0 (by omega) (Nat.le_trans (pl_ok 555 (by omega)) (by rw [y2]; decide))
    · rw [upP_ne (by omega), seg_out (by omega), zrP_ne (by omega), upP_ne (by omega), zrP_ne (by omega), upP_ne (by omega), zrP_ne (by omega)]
  rw [e2]
  exact H
theorem st_6 (q : hZ 560 h) (p0 : p 560 = fun _ => 0) (KV KX) : eCv X m_X6_init [vR 560] 560 0 p h KV KX = KV 565 0 (seg 560 565 p) h := by
  refine eCv_eq X (fun Q H => ?_) KV KX
  refine bk_X6_init_0 X 560 560 0 p h Q ?_
  obtain ⟨y1, y2, y3, y4, y5, y6, y7, y8, y9, y10, y11, y12, y13, y14⟩ := ky560
  rw [if_neg (by decide), if_pos ⟨y2, rfl⟩, if_pos (kn_lt (Nat.le_refl _) y2), zr_h q (by omega), st_4 y2 y3 y4 zrP_eq (fun z hz => q z (by omega)) (by omega) y13, if_pos ⟨kn_lt (by omega) y1, by omega⟩, if_pos ⟨y5, rfl⟩, if_pos (kn_lt (Nat.le_refl _) y5), zr_h q (by omega), st_4 y5 y6 y7 zrP_eq (fun z hz => q z (by omega)) (by omega) y14, if_pos ⟨kn_lt (by omega) y1, by omega⟩, if_pos ⟨y8, by rw [y9]; rfl, rfl⟩, if_pos ⟨kn_lt (by omega) y1, Nat.le_refl _⟩, zr_h q (by omega)]
  have e2 : up (zr (up (seg (560 + 1 + 1 + 1) (560 + 1 + 1 + 1 + 1) (zr (up (seg (560 + 1) (560 + 1 + 1) (zr p (560 + 1) 0)) 560 0 (560 + 1)) (560 + 1 + 1 + 1) 0)) 560 1 (560 + 1 + 1 + 1)) (560 + 1 + 1 + 1 + 1 + 1) 0) 560 2 (560 + 1 + 1 + 1 + 1 + 1) = seg 560 565 p := by
    refine seg_of (fun z z1 z2 => ?_) (fun z hz => ?_)
    · by_cases y : z = 560
      · subst y
        funext k
        by_cases k2 : k = 2
        · rw [k2, upP_eq, y12]
        · rw [upP_nk k2, zrP_ne (by omega)]
          by_cases k1 : k = 1
          · rw [k1, upP_eq, y11]
          · rw [upP_nk k1, seg_out (by omega), zrP_ne (by omega)]
            by_cases k0 : k = 0
            · rw [k0, upP_eq, y10]
            · rw [upP_nk k0, seg_out (by omega), zrP_ne (by omega), p0, ewP_row _ k (Nat.le_trans (pl_ok _ (by omega)) (by rw [y1]; simp; omega))]
      · rw [upP_ne y]
        by_cases z3 : z = 565
        · rw [z3, show 560 + 1 + 1 + 1 + 1 + 1 = 565 from rfl, zrP_eq]
          exact row0 (by omega) (Nat.le_trans (pl_ok 565 (by omega)) (by rw [y8]; decide))
        · rw [zrP_ne z3, upP_ne y]
          by_cases z4 : 563 ≤ z
          · rw [seg_in z4 (by omega)]
          · rw [seg_out (by omega), zrP_ne (by omega), upP_ne y, seg_in (by omega) (by omega)]
    · rw [upP_ne (by omega), zrP_ne (by omega), upP_ne (by omega), seg_out (by omega), zrP_ne (by omega), upP_ne (by omega), seg_out (by omega), zrP_ne (by omega)]
  rw [e2]
  exact H
end
