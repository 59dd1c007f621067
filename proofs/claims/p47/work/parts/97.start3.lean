/-! the start: the class -/
theorem cx1 : ewP 566 0 = 567 ∧ ewP 567 0 = 568 ∧ ewK 568 = 21 ∧ ewL 568 = 60 := by decide +kernel
theorem cx2 : ewP 1 0 = 2 ∧ ewP 1 1 = 52 ∧ ewP 1 2 = 102 ∧ ewP 1 3 = 554 ∧ ewP 1 4 = 560 ∧ ewP 1 5 = 566 ∧ ewP 1 6 = 569 ∧ ewP 1 7 = 571 ∧ ewP 1 8 = 573 ∧ ewP 1 9 = 575 := by decide +kernel
section
variable {X : eX} {p : Nat → Nat → Nat} {h : Nat → Nat → Int}
theorem st_12 (q : hZ 1 h) (p0 : p 1 = fun _ => 0) (KV KX) : eCv X m_X12_init [vR 1] 1 0 p h KV KX = KV 576 0 (seg 1 576 p) (up h 1 11 (-1)) := by
  refine eCv_eq X (fun Q H => ?_) KV KX
  refine bk_X12_init_0 X 1 1 0 p h Q ?_
  obtain ⟨x6, x7, x4, x5⟩ := cx1
  rw [if_neg (by decide)]
  rw [show 1 + 1 = 2 from rfl, if_pos ⟨cl2, rfl⟩, if_pos (kn_lt (Nat.le_refl _) cl2), zr_h q (by omega), st_11 cl2 (fun z hz => q z (by omega)) zrP_eq (by omega), if_pos ⟨kn_lt (by omega) cl1, by omega⟩]
  rw [show 51 + 1 = 52 from rfl, if_pos ⟨cl52, rfl⟩, if_pos (kn_lt (Nat.le_refl _) cl52), zr_h q (by omega), st_11 cl52 (fun z hz => q z (by omega)) zrP_eq (by omega), if_pos ⟨kn_lt (by omega) cl1, by omega⟩]
  rw [show 101 + 1 = 102 from rfl, if_pos ⟨cl102, rfl⟩, if_pos (kn_lt (Nat.le_refl _) cl102), zr_h q (by omega), st_2 (fun z hz => q z (by omega)) zrP_eq, if_pos ⟨kn_lt (by omega) cl1, by omega⟩]
  rw [show 553 + 1 = 554 from rfl, if_pos ⟨cl554, rfl⟩, if_pos (kn_lt (Nat.le_refl _) cl554), zr_h q (by omega), st_3 (fun z hz => q z (by omega)) zrP_eq, if_pos ⟨kn_lt (by omega) cl1, by omega⟩]
  rw [show 559 + 1 = 560 from rfl, if_pos ⟨cl560, rfl⟩, if_pos (kn_lt (Nat.le_refl _) cl560), zr_h q (by omega), st_6 (fun z hz => q z (by omega)) zrP_eq, if_pos ⟨kn_lt (by omega) cl1, by omega⟩]
  rw [show 565 + 1 = 566 from rfl, if_pos ⟨cl566, rfl⟩, if_pos (kn_lt (Nat.le_refl _) cl566), zr_h q (by omega), st_9 cl566 cl567 x4 x5 (fun z hz => q z (by omega)) zrP_eq (by omega) x6 x7, if_pos ⟨kn_lt (by omega) cl1, by omega⟩]
  rw [show 568 + 1 = 569 from rfl, if_pos ⟨cl569, rfl⟩, if_pos (kn_lt (Nat.le_refl _) cl569), zr_h q (by omega), st_4 cl569 (ly_4 569 (by omega) cl569).2.1 (ly_4 569 (by omega) cl569).2.2 zrP_eq (fun z hz => q z (by omega)) (by omega) (ly_4 569 (by omega) cl569).1, if_pos ⟨kn_lt (by omega) cl1, by omega⟩]
  rw [show 570 + 1 = 571 from rfl, if_pos ⟨cl571, rfl⟩, if_pos (kn_lt (Nat.le_refl _) cl571), zr_h q (by omega), st_4 cl571 (ly_4 571 (by omega) cl571).2.1 (ly_4 571 (by omega) cl571).2.2 zrP_eq (fun z hz => q z (by omega)) (by omega) (ly_4 571 (by omega) cl571).1, if_pos ⟨kn_lt (by omega) cl1, by omega⟩]
  rw [show 572 + 1 = 573 from rfl, if_pos ⟨cl573, rfl⟩, if_pos (kn_lt (Nat.le_refl _) cl573), zr_h q (by omega), st_4 cl573 (ly_4 573 (by omega) cl573).2.1 (ly_4 573 (by omega) cl573).2.2 zrP_eq (fun z hz => q z (by omega)) (by omega) (ly_4 573 (by omega) cl573).1, if_pos ⟨kn_lt (by omega) cl1, by omega⟩]
  rw [show 574 + 1 = 575 from rfl, if_pos ⟨cl575, rfl⟩, if_pos (kn_lt (Nat.le_refl _) cl575), zr_h q (by omega), st_4 cl575 (ly_4 575 (by omega) cl575).2.1 (ly_4 575 (by omega) cl575).2.2 zrP_eq (fun z hz => q z (by omega)) (by omega) (ly_4 575 (by omega) cl575).1, if_pos ⟨kn_lt (by omega) cl1, by omega⟩]
  rw [if_pos (kn_lt (by omega) cl1)]
  have e2 : (up (seg 575 576 (zr (up (seg 573 574 (zr (up (seg 571 572 (zr (up (seg 569 570 (zr (up (seg 566 568 (zr (up (seg 560 565 (zr (up (seg 554 559 (zr (up (seg 102 553 (zr (up (seg 52 101 (zr (up (seg 2 51 (zr p 2 0)) 1 0 2) 52 0)) 1 1 52) 102 0)) 1 2 102) 554 0)) 1 3 554) 560 0)) 1 4 560) 566 0)) 1 5 566) 569 0)) 1 6 569) 571 0)) 1 7 571) 573 0)) 1 8 573) 575 0)) 1 9 575) = seg 1 576 p := by
    refine seg_of (fun z z1 z2 => ?_) (fun z hz => ?_)
    · by_cases y : z = 1
      · subst y
        funext k
        obtain ⟨f0, f1, f2, f3, f4, f5, f6, f7, f8, f9⟩ := cx2
        by_cases k9 : k = 9
        · rw [k9, upP_eq, f9]
        rw [upP_nk k9, seg_out (by omega), zrP_ne (by omega)]
        by_cases k8 : k = 8
        · rw [k8, upP_eq, f8]
        rw [upP_nk k8, seg_out (by omega), zrP_ne (by omega)]
        by_cases k7 : k = 7
        · rw [k7, upP_eq, f7]
        rw [upP_nk k7, seg_out (by omega), zrP_ne (by omega)]
        by_cases k6 : k = 6
        · rw [k6, upP_eq, f6]
        rw [upP_nk k6, seg_out (by omega), zrP_ne (by omega)]
        by_cases k5 : k = 5
        · rw [k5, upP_eq, f5]
        rw [upP_nk k5, seg_out (by omega), zrP_ne (by omega)]
        by_cases k4 : k = 4
        · rw [k4, upP_eq, f4]
        rw [upP_nk k4, seg_out (by omega), zrP_ne (by omega)]
        by_cases k3 : k = 3
        · rw [k3, upP_eq, f3]
        rw [upP_nk k3, seg_out (by omega), zrP_ne (by omega)]
        by_cases k2 : k = 2
        · rw [k2, upP_eq, f2]
        rw [upP_nk k2, seg_out (by omega), zrP_ne (by omega)]
        by_cases k1 : k = 1
        · rw [k1, upP_eq, f1]
        rw [upP_nk k1, seg_out (by omega), zrP_ne (by omega)]
        by_cases k0 : k = 0
        · rw [k0, upP_eq, f0]
        rw [upP_nk k0, seg_out (by omega), zrP_ne (by omega)]
        rw [p0, ewP_row _ k (Nat.le_trans (pl_ok _ (by omega)) (by rw [cl1]; simp; omega))]
      · rw [upP_ne y]
        by_cases z575 : 575 ≤ z
        · rw [seg_in z575 (by omega)]
        rw [seg_out (by omega), zrP_ne (by omega), upP_ne y]
        by_cases z573 : 573 ≤ z
        · rw [seg_in z573 (by omega)]
        rw [seg_out (by omega), zrP_ne (by omega), upP_ne y]
        by_cases z571 : 571 ≤ z
        · rw [seg_in z571 (by omega)]
        rw [seg_out (by omega), zrP_ne (by omega), upP_ne y]
        by_cases z569 : 569 ≤ z
        · rw [seg_in z569 (by omega)]
        rw [seg_out (by omega), zrP_ne (by omega), upP_ne y]
        by_cases z566 : 566 ≤ z
        · rw [seg_in z566 (by omega)]
        rw [seg_out (by omega), zrP_ne (by omega), upP_ne y]
        by_cases z560 : 560 ≤ z
        · rw [seg_in z560 (by omega)]
        rw [seg_out (by omega), zrP_ne (by omega), upP_ne y]
        by_cases z554 : 554 ≤ z
        · rw [seg_in z554 (by omega)]
        rw [seg_out (by omega), zrP_ne (by omega), upP_ne y]
        by_cases z102 : 102 ≤ z
        · rw [seg_in z102 (by omega)]
        rw [seg_out (by omega), zrP_ne (by omega), upP_ne y]
        by_cases z52 : 52 ≤ z
        · rw [seg_in z52 (by omega)]
        rw [seg_out (by omega), zrP_ne (by omega), upP_ne y]
        rw [seg_in (by omega) (by omega)]
    · rw [upP_ne (by omega), seg_out (by omega), zrP_ne (by omega), upP_ne (by omega), seg_out (by omega), zrP_ne (by omega), upP_ne (by omega), seg_out (by omega), zrP_ne (by omega), upP_ne (by omega), seg_out (by omega), zrP_ne (by omega), upP_ne (by omega), seg_out (by omega), zrP_ne (by omega), upP_ne (by omega), seg_out (by omega), zrP_ne (by omega), upP_ne (by omega), seg_out (by omega), zrP_ne (by omega), upP_ne (by omega), seg_out (by omega), zrP_ne (by omega), upP_ne (by omega), seg_out (by omega), zrP_ne (by omega), upP_ne (by omega), seg_out (by omega), zrP_ne (by omega)]
  rw [e2]
  exact H
end
