/-! the start: the class -/
theorem cx1 : ewP 566 0 = 567 ∧ ewP 567 0 = 568 ∧ ewK 568 = 21 ∧ ewL 568 = 60 := by decide +kernel
theorem cx2 : ewP 1 0 = 2 ∧ ewP 1 1 = 52 ∧ ewP 1 2 = 102 ∧ ewP 1 3 = 554 ∧ ewP 1 4 = 560 ∧ ewP 1 5 = 566 ∧ ewP 1 6 = 569 ∧ ewP 1 7 = 571 ∧ ewP 1 8 = 573 ∧ ewP 1 9 = 575 := by decide +kernel
section
variable {X : eX} {p : Nat → Nat → Nat} {h : Nat → Nat → Int}
theorem st_12 (q : hZ 1 h) (p0 : p 1 = fun _ => 0) (KV KX) : eCv X m_X12_init [vR 1] 1 0 p h KV KX = KV 576 0 (seg 1 576 p) (up h 1 11 (-1)) := by
  refine eCv_eq X (fun Q H => ?_) KV KX
  refine bk_X12_init_0 X 1 1 0 p h Q ?_
  obtain ⟨x6, x7, x4, x5⟩ := cx1
  rw [if_neg (by decide)]
  rw [show 1 + 1 = 2 from rfl, if_pos ⟨cl2, rfl⟩, if_pos (kn_lt (Nat.le_refl _) cl2), zr_h q (by omega), st_11 cl2 (fun z hz => q z (by omega)) zrP_eq (by omega), if_pos ⟨kn_lt (by omega) cl1, by omega⟩]
  rw [show 51 + 1 = 52 from rfl, if_pos ⟨cl52, rfl⟩, if_pos (kn_lt (Nat.le_refl _) cl52), zr_h q (by omega), st_11 cl52 (fun z hz => q z (by omega)) zrP_eq (by omega), if_pos ⟨kn_lt (by omega) cl1, by omega⟩]
  rw [show 101 + 1 = 102 from rfl, if_pos ⟨cl102, rfl⟩, if_pos (kn_lt (Nat.le_refl _) cl102), zr_h q (by omega), st_2 (fun z hz => q z (by omega)) zrP_eq, if_pos ⟨kn_lt (by omega) cl1, by omega⟩]
  rw [show 553 + 1 = 554 from rfl, if_pos ⟨cl554, rfl⟩, if_pos (kn_lt (Nat.le_refl _) cl554), zr_h q (by omega), st_3 (fun z hz => q z (by omega)) zrP_eq, if_pos ⟨kn_lt (by omega) cl1, by omega⟩]
  rw [show 559 + 1 = 560 from rfl, if_pos ⟨cl560, rfl⟩, if_pos (kn_lt (Nat.le_refl _) cl560), zr_h q (by omega), st_6 (fun z hz => q z (by omega)) zrP_eq, if_pos ⟨kn_lt (by omega) cl1, by omega⟩]
  rw [show 565 + 1 = 566 from rfl, if_pos ⟨cl566, rfl⟩, if_pos (kn_lt (Nat.le_refl _) cl566), zr_h q (by omega), st_9 cl566 cl567 x4 x5 (fun z hz => q z (by omega)) zrP_eq (by omega) x6 x7, if_pos ⟨kn_lt (by omega) cl1, by omega⟩]
  rw [show 568 + 1 = 569 from rfl, if_pos ⟨cl569, rfl⟩, if_pos (kn_lt (Nat.le_refl _) cl569), zr_h q (by omega), st_4 cl569 (ly_4 569 (by omega) cl569).2.1 (ly_4 569 (by omega) cl569).2.2 zrP_eq (fun z hz => q z (by omega)) (by omega) (ly_4 569 (by omega) cl569).1, if_pos ⟨kn_lt (by omega) cl1, by omega⟩]
  rw [show 570 + 1 = 571 from rfl, if_pos ⟨cl571, rfl⟩, if_pos (kn_lt (Nat.le_refl _) cl571), zr_h q (by omega), st_4 cl571 (ly_4 571 (by omega) cl571).2.1 (ly_4 571 (by omega) cl571).2.2 zrP_eq (fun z hz => q z (by omega)) (by omega) (ly_4 571 (by omega) cl571).1, if_pos ⟨kn_lt (by omega) cl1, by omega⟩]
  rw [show 572 + 1 = 573 from rfl, if_pos ⟨cl573, rfl⟩, if_pos (kn_lt (Nat.le_refl _) cl573), zr_h q (by omega), st_4 cl573 (ly_4 573 (by omega) cl573).2.1 (ly_4 573 (by omega) cl573).2.2 zrP_eq (fun z hz => q z (by omega)) (by omega) (ly_4 573 (by omega) cl573).1, if_pos ⟨kn_lt (by omega) cl1, by omega⟩]
  rw [show 574 + 1 = 575 from rfl, if_pos ⟨cl575, rfl⟩, if_pos (kn_lt (Nat.le_refl _) cl575), zr_h q (by omega), st_4 cl575 (ly_4 575 (by omega) cl575).2.1 (ly_4 575 (by omega) cl575).2.2 zrP_eq (fun z hz => q z (by omega)) (by omega) (ly_4 575 (by omega) cl575).1, if_pos ⟨kn_lt (by omega) cl1, by omega⟩]
  rw [if_pos (kn_lt (by omega) cl1)]
  have e2 : (up (seg 575 576 (zr (up (seg 573 574 (zr (up (seg 571 572 (zr (up (seg 569 570 (zr (up (seg 566 568 (zr (up (seg 560 565 (zr (up (seg 554 559 (zr (up (seg 102 553 (zr (up (seg 52 101 (zr (up (seg 2 51 (zr p 2 0)) 1 0 2) 52 0)) 1 1 52) 102 0)) 1 2 102) 554 0)) 1 3 554) 560 0)) 1 4 560) 566 0)) 1 5 566) 569 0)) 1 6 569) 571 0)) 1 7 571) 573 0)) 1 8 573) 575 0)) 1 9 575) = seg 1 576 p := by
    refine seg_of (fun z z1 z2 => ?_) (fun z hz => ?_)
    · by_cases y : z = 1
      · subst y
        funext k
        obtain ⟨f0, f1, f2, f3, f4, f5, f6, f7, f8, f9⟩ := cx2
        by_cases k9 : k = 9
        · rw [k9, upP_eq, f9]
        rw [upP_nk k9, seg_out (by omega), zrP_ne (by omega)]
        by_cases k8 : k = 8
        · rw [k8, upP_eq, f8]
        rw [upP_nk k8, seg_out (by omega), zrP_ne (by omega)]
        by_cases k7 : k = 7
        · rw [k7, upP_eq, f7]
        rw [upP_nk k7, seg_out (by omega), zrP_ne (by omega)]
        by_cases k6 : k = 6
        · rw [k6, upP_eq, f6]
        rw [upP_nk k6, seg_out (by omega), zrP_ne (by omega)]
        by_cases k5 : k = 5
        · rw [k5, upP_eq, f5]
        rw [upP_nk k5, seg_out (by omega), zrP_ne (by omega)]
        by_cases k4 : k = 4
        · rw [k4, upP_eq, f4]
        rw [upP_nk k4, seg_out (by omega), zrP_ne (by omega)]
        by_cases k3 : k = 3
        · rw [k3, upP_eq, f3]
        rw [upP_nk k3, seg_out (by omega), zrP_ne (by omega)]
        by_cases k2 : k = 2
        · rw [k2, upP_eq, f2]
        rw [upP_nk k2, seg_out (by omega), zrP_ne (by omega)]
        by_cases k1 : k = 1
        · rw [k1, upP_eq, f1]
        rw [upP_nk k1, seg_out (by omega), zrP_ne (by omega)]
        by_cases k0 : k = 0
        · rw [k0, upP_eq, f0]
        rw [upP_nk k0, seg_out (by omega), zrP_ne (by omega)]
        rw [p0, ewP_row _ k (Nat.le_trans (pl_ok _ (by omega)) (by rw [cl1]; simp; omega))]
      · rw [upP_ne y]
        by_cases z575 : 575 ≤ z
        · rw [seg_in z575 (by omega)]
        rw [seg_out (by omega), zrP_ne (by omega), upP_ne y]
        by_cases z573 : 573 ≤ z
        · rw [seg_in z573 (by omega)]
        rw [seg_out (by omega), zrP_ne (by omega), upP_ne y]
        by_cases z571 : 571 ≤ z
        · rw [seg_in z571 (by omega)]
        rw [seg_out (by omega), zrP_ne (by omega), upP_ne y]
        by_cases z569 : 569 ≤ z
        · rw [seg_in z569 (by omega)]
        rw [seg_out (by omega), zrP_ne (by omega), upP_ne y]
        by_cases z566 : 566 ≤ z
        · rw [seg_in z566 (by omega)]
        rw [seg_out (by omega), zrP_ne (by omega), upP_ne y]
        by_cases z560 : 560 ≤ z
        · rw [seg_in z560 (by omega)]
        rw [seg_out (by omega), zrP_ne (by omega), upP_ne y]
        by_cases z554 : 554 ≤ z
        · rw [seg_in z554 (by omega)]
        rw [seg_out (by omega), zrP_ne (by omega), upP_ne y]
        by_cases z102 : 102 ≤ z
        · rw [seg_in z102 (by omega)]
        rw [seg_out (by omega), zrP_ne (by omega), upP_ne y]
        by_cases z52 : 52 ≤ z
        · rw [seg_in z52 (by omega)]
        rw [seg_out (by omega), zrP_ne (by omega), upP_ne y]
        rw [seg_in (by omega) (by omega)]
    · rw [upP_ne (by omega), seg_out (by omega), zrP_ne (by omega), upP_ne (by omega), seg_out (by omega), zrP_ne (by omega), upP_ne (by omega), seg_out (by omega), zrP_ne (by omega), upP_ne (by omega), seg_out (by omega), zrP_ne (by omega), upP_ne (by omega), seg_out (by omega), zrP_ne (by omega), upP_ne (by omega), seg_out (by omega), zrP_ne (by omega), upP_ne (by omega), seg_out (by omega), zrP_ne (by omega), upP_ne (by omega), seg_out (by omega), zrP_ne (by omega), upP_ne (by omega), seg_out (by omega), zrP_ne (by omega), upP_ne (by omega), seg_out (by omega), zrP_ne (by omega)]
  rw [e2]
  exact H
theorem cx3 : ewP 577 7 = 578 ∧ ewP 577 8 = 579 ∧ ewP 577 9 = 580 ∧ ewP 577 10 = 581 ∧ ewP 577 14 = 582 ∧ ewP 577 15 = 583 ∧ ewP 577 18 = 584 ∧ ewP 577 21 = 585 ∧ ewP 577 23 = 586 ∧ ewP 577 27 = 587 := by decide +kernel
theorem cx4 : ewK 577 = 13 ∧ ewK 578 = 20 ∧ ewL 578 = 264 ∧ ewK 579 = 20 ∧ ewL 579 = 2112 ∧ ewK 580 = 20 ∧ ewL 580 = 264 ∧ ewK 581 = 20 ∧ ewL 581 = 264 ∧ ewK 582 = 20 ∧ ewL 582 = 8 ∧ ewK 583 = 20 ∧ ewL 583 = 8 ∧ ewK 584 = 20 ∧ ewL 584 = 16 ∧ ewK 585 = 21 ∧ ewL 585 = 60 ∧ ewK 586 = 21 ∧ ewL 586 = 60 ∧ ewK 587 = 20 ∧ ewL 587 = 3 := by decide +kernel
theorem cx5 : ∀ k, k < 28 → (k ≠ 7 ∧ k ≠ 8 ∧ k ≠ 9 ∧ k ≠ 10 ∧ k ≠ 14 ∧ k ≠ 15 ∧ k ≠ 18 ∧ k ≠ 21 ∧ k ≠ 23 ∧ k ≠ 27) → ewP 577 k = 0 := by decide +kernel
theorem zr_up {z : Nat} {v : Int} (q : hZ 578 h) (hz : 578 ≤ z) : zr (up h 577 26 v) z 0 = up h 577 26 v := by
  funext y k
  unfold zr
  split
  · next e => rw [e, up_ne (by omega), q z hz]
  · rfl
theorem st_13 (q : hZ 577 h) (p0 : p 577 = fun _ => 0) (KV KX) : eCv X m_X13_init [vR 577] 577 0 p h KV KX = KV 587 0 (seg 577 587 p) (up h 577 26 (-1)) := by
  refine eCv_eq X (fun Q H => ?_) KV KX
  refine bk_X13_init_0 X 577 577 0 p h Q ?_
  obtain ⟨c0, a578, l578, a579, l579, a580, l580, a581, l581, a582, l582, a583, l583, a584, l584, a585, l585, a586, l586, a587, l587⟩ := cx4
  rw [if_neg (by decide)]
  rw [if_pos ⟨a578, by show (ewL 578 : Int) = _; rw [l578]; rfl, rfl⟩, if_pos ⟨kn_lt (by omega) c0, Nat.le_refl _⟩]
  rw [if_pos ⟨a579, by show (ewL 579 : Int) = _; rw [l579]; rfl, rfl⟩, if_pos ⟨kn_lt (by omega) c0, Nat.le_refl _⟩]
  rw [if_pos ⟨a580, by show (ewL 580 : Int) = _; rw [l580]; rfl, rfl⟩, if_pos ⟨kn_lt (by omega) c0, Nat.le_refl _⟩]
  rw [if_pos ⟨a581, by show (ewL 581 : Int) = _; rw [l581]; rfl, rfl⟩, if_pos ⟨kn_lt (by omega) c0, Nat.le_refl _⟩]
  rw [if_pos ⟨a582, by show (ewL 582 : Int) = _; rw [l582]; rfl, rfl⟩, if_pos ⟨kn_lt (by omega) c0, Nat.le_refl _⟩]
  rw [if_pos ⟨a583, by show (ewL 583 : Int) = _; rw [l583]; rfl, rfl⟩, if_pos ⟨kn_lt (by omega) c0, Nat.le_refl _⟩]
  rw [if_pos ⟨a584, by show (ewL 584 : Int) = _; rw [l584]; rfl, rfl⟩, if_pos ⟨kn_lt (by omega) c0, Nat.le_refl _⟩]
  rw [if_pos ⟨a585, by show (ewL 585 : Int) = _; rw [l585]; rfl, rfl⟩, if_pos ⟨kn_lt (by omega) c0, Nat.le_refl _⟩]
  rw [if_pos ⟨a586, by show (ewL 586 : Int) = _; rw [l586]; rfl, rfl⟩, if_pos ⟨kn_lt (by omega) c0, Nat.le_refl _⟩]
  rw [if_pos (kn_lt (by omega) c0)]
  rw [if_pos ⟨a587, by show (ewL 587 : Int) = _; rw [l587]; rfl, rfl⟩, if_pos ⟨kn_lt (by omega) c0, Nat.le_refl _⟩]
  rw [zr_h q (by omega), zr_h q (by omega), zr_h q (by omega), zr_h q (by omega), zr_h q (by omega), zr_h q (by omega), zr_h q (by omega), zr_h q (by omega), zr_h q (by omega), zr_up (fun z hz => q z (by omega)) (by omega)]
  have e2 : (up (zr (up (zr (up (zr (up (zr (up (zr (up (zr (up (zr (up (zr (up (zr (up (zr p 578 0) 577 7 578) 579 0) 577 8 579) 580 0) 577 9 580) 581 0) 577 10 581) 582 0) 577 14 582) 583 0) 577 15 583) 584 0) 577 18 584) 585 0) 577 21 585) 586 0) 577 23 586) 587 0) 577 27 587) = seg 577 587 p := by
    refine seg_of (fun z z1 z2 => ?_) (fun z hz => ?_)
    · by_cases y : z = 577
      · subst y
        funext k
        obtain ⟨f7, f8, f9, f10, f14, f15, f18, f21, f23, f27⟩ := cx3
        by_cases k27 : k = 27
        · rw [k27, upP_eq, f27]
        rw [upP_nk k27, zrP_ne (by omega)]
        by_cases k23 : k = 23
        · rw [k23, upP_eq, f23]
        rw [upP_nk k23, zrP_ne (by omega)]
        by_cases k21 : k = 21
        · rw [k21, upP_eq, f21]
        rw [upP_nk k21, zrP_ne (by omega)]
        by_cases k18 : k = 18
        · rw [k18, upP_eq, f18]
        rw [upP_nk k18, zrP_ne (by omega)]
        by_cases k15 : k = 15
        · rw [k15, upP_eq, f15]
        rw [upP_nk k15, zrP_ne (by omega)]
        by_cases k14 : k = 14
        · rw [k14, upP_eq, f14]
        rw [upP_nk k14, zrP_ne (by omega)]
        by_cases k10 : k = 10
        · rw [k10, upP_eq, f10]
        rw [upP_nk k10, zrP_ne (by omega)]
        by_cases k9 : k = 9
        · rw [k9, upP_eq, f9]
        rw [upP_nk k9, zrP_ne (by omega)]
        by_cases k8 : k = 8
        · rw [k8, upP_eq, f8]
        rw [upP_nk k8, zrP_ne (by omega)]
        by_cases k7 : k = 7
        · rw [k7, upP_eq, f7]
        rw [upP_nk k7, zrP_ne (by omega)]
        rw [p0]
        by_cases k28 : k < 28
        · rw [cx5 k k28 ⟨k7, k8, k9, k10, k14, k15, k18, k21, k23, k27⟩]
        · rw [ewP_row _ k (Nat.le_trans (pl_ok _ (by omega)) (by rw [c0]; simp; omega))]
      · rw [upP_ne y]
        by_cases z587 : z = 587
        · rw [z587, zrP_eq]; exact row0 (by omega) (Nat.le_trans (pl_ok 587 (by omega)) (by rw [a587]; decide))
        rw [zrP_ne z587, upP_ne y]
        by_cases z586 : z = 586
        · rw [z586, zrP_eq]; exact row0 (by omega) (Nat.le_trans (pl_ok 586 (by omega)) (by rw [a586]; decide))
        rw [zrP_ne z586, upP_ne y]
        by_cases z585 : z = 585
        · rw [z585, zrP_eq]; exact row0 (by omega) (Nat.le_trans (pl_ok 585 (by omega)) (by rw [a585]; decide))
        rw [zrP_ne z585, upP_ne y]
        by_cases z584 : z = 584
        · rw [z584, zrP_eq]; exact row0 (by omega) (Nat.le_trans (pl_ok 584 (by omega)) (by rw [a584]; decide))
        rw [zrP_ne z584, upP_ne y]
        by_cases z583 : z = 583
        · rw [z583, zrP_eq]; exact row0 (by omega) (Nat.le_trans (pl_ok 583 (by omega)) (by rw [a583]; decide))
        rw [zrP_ne z583, upP_ne y]
        by_cases z582 : z = 582
        · rw [z582, zrP_eq]; exact row0 (by omega) (Nat.le_trans (pl_ok 582 (by omega)) (by rw [a582]; decide))
        rw [zrP_ne z582, upP_ne y]
        by_cases z581 : z = 581
        · rw [z581, zrP_eq]; exact row0 (by omega) (Nat.le_trans (pl_ok 581 (by omega)) (by rw [a581]; decide))
        rw [zrP_ne z581, upP_ne y]
        by_cases z580 : z = 580
        · rw [z580, zrP_eq]; exact row0 (by omega) (Nat.le_trans (pl_ok 580 (by omega)) (by rw [a580]; decide))
        rw [zrP_ne z580, upP_ne y]
        by_cases z579 : z = 579
        · rw [z579, zrP_eq]; exact row0 (by omega) (Nat.le_trans (pl_ok 579 (by omega)) (by rw [a579]; decide))
        rw [zrP_ne z579, upP_ne y]
        by_cases z578 : z = 578
        · rw [z578, zrP_eq]; exact row0 (by omega) (Nat.le_trans (pl_ok 578 (by omega)) (by rw [a578]; decide))
        omega
    · rw [upP_ne (by omega), zrP_ne (by omega), upP_ne (by omega), zrP_ne (by omega), upP_ne (by omega), zrP_ne (by omega), upP_ne (by omega), zrP_ne (by omega), upP_ne (by omega), zrP_ne (by omega), upP_ne (by omega), zrP_ne (by omega), upP_ne (by omega), zrP_ne (by omega), upP_ne (by omega), zrP_ne (by omega), upP_ne (by omega), zrP_ne (by omega), upP_ne (by omega), zrP_ne (by omega)]
  show Q (.inl none) (587, 0, (up (zr (up (zr (up (zr (up (zr (up (zr (up (zr (up (zr (up (zr (up (zr (up (zr p 578 0) 577 7 578) 579 0) 577 8 579) 580 0) 577 9 580) 581 0) 577 10 581) 582 0) 577 14 582) 583 0) 577 15 583) 584 0) 577 18 584) 585 0) 577 21 585) 586 0) 577 23 586) 587 0) 577 27 587), up h 577 26 (-1))
  rw [e2]
  exact H
end
