/-! letters, signs, undoing, saving: the reference -/
section
variable {X : eX} {e : Nat} {h : Nat → Nat → Int} {w : Nat → Int} {c : Nat} {U : Nat → Nat → Int} {b : Bool} {r : Nat → Int} {k1 k2 : Int × Int} {W I L : List Int} {f : Int}
theorem MI_up {k : Nat} {v : Int} (l : MI h w c U b r k1 k2 W I L f) (hk : k = 0) : MI (up h 577 k v) w c U b r k1 k2 W I L f := by
  obtain ⟨l1, l2, l3, l4, l5⟩ := l
  subst hk
  exact ⟨by rw [up_ne (by omega)]; exact l1, mH_f (up_nk (by omega)) (up_nk (by omega)) (up_ne (by omega)) l2, mV_f (up_nk (by omega)) (up_ne (by omega)) l3, mK_f (fun k h1 h2 => up_nk (by omega)) l4, mL_f (up_nk (by omega)) (up_nk (by omega)) (up_nk (by omega)) (up_nk (by omega)) (up_ne (by omega)) (up_ne (by omega)) (up_ne (by omega)) l5⟩
theorem m_letter {x : Int} (l : MI h w c U b r k1 k2 W I L f) {KI KX} (H1 : ¬ (97 ≤ x ∧ x ≤ 122) → KI 0 eNT e ewP (up h 577 0 1)) (H2 : (97 ≤ x ∧ x ≤ 122) → W.length = 8 → KI 0 eNT e ewP (up h 577 0 2)) (H0 : (97 ≤ x ∧ x ≤ 122) → W.length < 8 → ∀ h', mB h h' → h' 577 0 = 0 → MI h' w c U b r k1 k2 (W ++ [x]) I L f → KI ((W.length : Int) + 1) eNT e ewP h') : eCi X m_X13_letter [vR 577, vI x] eNT e ewP h KI KX := by
  obtain ⟨l1, l2, l3, l4, l5⟩ := l
  obtain ⟨p1, p2, p3, p4, p5, p6, p7, p8, p9, p10⟩ := l5
  refine bk_X13_letter_0 X 577 x eNT e ewP h _ ?_
  have e0 : (582 : Nat) ≠ 577 := by decide
  have e1 : (577 : Nat) ≠ 582 := by decide
  simp only [mk577, mk578, mk579, mk580, mk581, mk582, mk583, mk584, mk585, mk586, mk587, mn578, mn579, mn580, mn581, mn582, mn583, mn584, mn585, mn586, mn587, mp578, mp579, mp580, mp581, mp582, mp583, mp584, mp585, mp586, mp587, ite_true, true_and, and_true, m_isLetter, m_fails, upup, up_nk (show 16 ≠ 0 by decide), p1, up_ne e1, up_eq]
  by_cases q : 97 ≤ x ∧ x ≤ 122
  · rw [if_pos q, if_neg (by decide)]
    by_cases q2 : W.length = 8
    · rw [if_pos (by omega)]
      exact H2 q q2
    · rw [if_neg (by omega), if_pos ⟨by omega, by omega⟩, wi1 (by omega), Int.toNat_natCast]
      have hk : ∀ k, k ≠ 0 → k ≠ 16 → up (up (up h 577 0 0) 582 W.length x) 577 16 ((W.length + 1 : Nat) : Int) 577 k = h 577 k := fun k h1 h2 => by rw [up_nk h2, up_ne e1, up_nk h1]
      have hc : ∀ z, z ≠ 577 → z ≠ 582 → up (up (up h 577 0 0) 582 W.length x) 577 16 ((W.length + 1 : Nat) : Int) z = h z := fun z h1 h2 => by rw [up_ne h1, up_ne h2, up_ne h1]
      have := H0 q (by omega) _ (fun z hz => hc z (by omega) (by omega)) (by rw [up_nk (by omega), up_ne e1, up_eq]) ⟨by rw [hc _ (by omega) (by omega)]; exact l1, mH_f (hk _ (by omega) (by omega)) (hk _ (by omega) (by omega)) (hc _ (by omega) (by omega)) l2, mV_f (hk _ (by omega) (by omega)) (hc _ (by omega) (by omega)) l3, mK_f (fun k h1 h2 => hk k (by omega) (by omega)) l4, ⟨by rw [up_eq]; simp, by simp; omega, ?_, by rw [hk _ (by omega) (by omega)]; exact p4, p5, aR_h (hc _ (by omega) (by omega)) p6, by rw [hk _ (by omega) (by omega)]; exact p7, p8, aR_h (hc _ (by omega) (by omega)) p9, by rw [hk _ (by omega) (by omega)]; exact p10⟩⟩
      · simpa using this
      · refine aR_h (up_ne e0) ?_
        exact aR_app (aR_h (up_ne e0) p3)
  · rw [if_neg q, if_pos rfl]
    exact H1 q
theorem m_append {x : Int} (l : MI h w c U b r k1 k2 W I L f) {KI KX} (H1 : ¬ (32 ≤ x ∧ x ≤ 126) → KI 0 eNT e ewP (up h 577 0 1)) (H2 : (32 ≤ x ∧ x ≤ 126) → I.length = 60 → KI 0 eNT e ewP (up h 577 0 2)) (H0 : (32 ≤ x ∧ x ≤ 126) → I.length < 60 → ∀ h', mB h h' → h' 577 0 = 0 → MI h' w c U b r k1 k2 W (I ++ [x]) L f → KI ((I.length : Int) + 1) eNT e ewP h') : eCi X m_X13_append [vR 577, vI x] eNT e ewP h KI KX := by
  obtain ⟨l1, l2, l3, l4, l5⟩ := l
  obtain ⟨p1, p2, p3, p4, p5, p6, p7, p8, p9, p10⟩ := l5
  refine bk_X13_append_0 X 577 x eNT e ewP h _ ?_
  have e0 : (586 : Nat) ≠ 577 := by decide
  have e1 : (577 : Nat) ≠ 586 := by decide
  simp only [mk577, mk578, mk579, mk580, mk581, mk582, mk583, mk584, mk585, mk586, mk587, mn578, mn579, mn580, mn581, mn582, mn583, mn584, mn585, mn586, mn587, mp578, mp579, mp580, mp581, mp582, mp583, mp584, mp585, mp586, mp587, ite_true, true_and, and_true, m_isBetween, m_fails, upup, up_nk (show 24 ≠ 0 by decide), p4, up_ne e1, up_eq]
  by_cases q : 32 ≤ x ∧ x ≤ 126
  · rw [if_pos q, if_neg (by decide)]
    by_cases q2 : I.length = 60
    · rw [if_pos (by omega)]
      exact H2 q q2
    · rw [if_neg (by omega), if_pos ⟨by omega, by omega⟩, wi1 (by omega), Int.toNat_natCast, Int.emod_eq_of_lt (by omega) (by omega)]
      have hk : ∀ k, k ≠ 0 → k ≠ 24 → up (up (up h 577 0 0) 586 I.length x) 577 24 ((I.length + 1 : Nat) : Int) 577 k = h 577 k := fun k h1 h2 => by rw [up_nk h2, up_ne e1, up_nk h1]
      have hc : ∀ z, z ≠ 577 → z ≠ 586 → up (up (up h 577 0 0) 586 I.length x) 577 24 ((I.length + 1 : Nat) : Int) z = h z := fun z h1 h2 => by rw [up_ne h1, up_ne h2, up_ne h1]
      have := H0 q (by omega) _ (fun z hz => hc z (by omega) (by omega)) (by rw [up_nk (by omega), up_ne e1, up_eq]) ⟨by rw [hc _ (by omega) (by omega)]; exact l1, mH_f (hk _ (by omega) (by omega)) (hk _ (by omega) (by omega)) (hc _ (by omega) (by omega)) l2, mV_f (hk _ (by omega) (by omega)) (hc _ (by omega) (by omega)) l3, mK_f (fun k h1 h2 => hk k (by omega) (by omega)) l4, ⟨by rw [hk _ (by omega) (by omega)]; exact p1, p2, aR_h (hc _ (by omega) (by omega)) p3, by rw [up_eq]; simp, by simp; omega, ?_, by rw [hk _ (by omega) (by omega)]; exact p7, p8, aR_h (hc _ (by omega) (by omega)) p9, by rw [hk _ (by omega) (by omega)]; exact p10⟩⟩
      · simpa using this
      · refine aR_h (up_ne e0) ?_
        exact aR_app (aR_h (up_ne e0) p6)
  · rw [if_neg q, if_pos rfl]
    exact H1 q
set_option maxRecDepth 8000 in
theorem lp_undo {to : Nat} (ht : to < 8) : ∀ (j i : Nat) (h : Nat → Nat → Int), i + j = 264 → (∀ k, k < i → h 578 k = h 579 (264 * to + k)) → ∀ Q, (∀ h', mfr [578] [] h h' → (∀ k, k < 264 → h' 578 k = h 579 (264 * to + k)) → Q (.inl (some (vI (h 577 11)))) (eNT, e, ewP, h')) → eP X m_X13_undo 26 [vR 577, vI (to : Int), vI (i : Int)] [] (eNT, e, ewP, h) Q := by
  intro j
  induction j with
  | zero =>
    intro i h hi hk Q H
    refine bk_X13_undo_26 X 577 to i eNT e ewP h Q ?_
    rw [if_neg (by omega), if_pos mk577]
    exact H h mfr_rfl (fun k hk' => hk k (by omega))
  | succ j ih =>
    intro i h hi hk Q H
    refine bk_X13_undo_26 X 577 to i eNT e ewP h Q ?_
    have e4 : wr (wr (264 * (to : Int)) + (i : Int)) = ((264 * to + i : Nat) : Int) := by rw [wrn (x := 264 * _) (by omega) (by omega), wrn (by omega) (by omega)]; omega
    have g1 : (0 : Int) ≤ ((264 * to + i : Nat) : Int) ∧ ((264 * to + i : Nat) : Int) < ((2112 : Nat) : Int) := ⟨by omega, by omega⟩
    rw [if_pos (by omega)]
    simp only [mk577, mk578, mk579, mk580, mk581, mk582, mk583, mk584, mk585, mk586, mk587, mn578, mn579, mn580, mn581, mn582, mn583, mn584, mn585, mn586, mn587, mp578, mp579, mp580, mp581, mp582, mp583, mp584, mp585, mp586, mp587, ite_true, true_and, and_true, e4, g1, Int.toNat_natCast]
    rw [if_pos ⟨by omega, by omega⟩, wi1 (by omega)]
    have e1 : up h 578 i (h 579 (264 * to + i)) 579 = h 579 := up_ne (by decide)
    have e2 : up h 578 i (h 579 (264 * to + i)) 577 = h 577 := up_ne (by decide)
    refine ih (i + 1) _ (by omega) ?_ Q (fun h' f g => ?_)
    · intro k hk'
      rw [e1, up_at]
      by_cases q : k = i
      · rw [if_pos q, q]
      · rw [if_neg q]; exact hk k (by omega)
    · rw [e2]
      exact H h' (mfr_tr (mfr_c mfr_rfl (by decide) (by decide)) f) (by rw [e1] at g; exact g)
theorem m_undo (l : MI h w c U b r k1 k2 W I L f) {KI KX} (H1 : c = 0 → KI 0 eNT e ewP (up h 577 0 1)) (H0 : 0 < c → ∀ h' w', mB h h' → h' 577 0 = 0 → (∀ k, k < 264 → w' k = U (c - 1) k) → MI h' w' (c - 1) U b r k1 k2 W I L f → KI ((c - 1 : Nat) : Int) eNT e ewP h') : eCi X m_X13_undo [vR 577] eNT e ewP h KI KX := by
  obtain ⟨l1, ⟨n1, c8, q, q8, n2, hq⟩, l3, l4, l5⟩ := l
  refine bk_X13_undo_0 X 577 eNT e ewP h _ ?_
  rw [if_pos mk577, if_pos mk577, up_nk (show 11 ≠ 0 by decide), n1]
  by_cases c0 : c = 0
  · rw [if_pos (by omega), if_pos mk577, m_fails, upup]
    exact H1 c0
  · rw [if_neg (by omega), if_pos mk577, if_pos mk577, if_pos mk577, if_pos mk577, if_neg (by decide)]
    rw [up_eq, up_nk (show 12 ≠ 11 by decide), up_nk (show 12 ≠ 0 by decide), n2, show wr ((c : Int) - 1) = ((c - 1 : Nat) : Int) by rw [wrn (by omega) (by omega)]; omega]
    have e3 : wr ((q : Int) + ((c - 1 : Nat) : Int)) = ((q + (c - 1) : Nat) : Int) := by rw [wrn (by omega) (by omega)]; omega
    have tm : ((q + (c - 1) : Nat) : Int).tmod 8 = (((q + (c - 1)) % 8 : Nat) : Int) := by
      rw [Int.tmod_eq_emod_of_nonneg (by omega)]
      omega
    rw [e3, tm]
    have hk : ∀ k, k ≠ 0 → k ≠ 11 → up (up h 577 0 0) 577 11 ((c - 1 : Nat) : Int) 577 k = h 577 k := fun k h1 h2 => by rw [up_nk h2, up_nk h1]
    have hc : ∀ z, z ≠ 577 → up (up h 577 0 0) 577 11 ((c - 1 : Nat) : Int) z = h z := fun z h1 => by rw [up_ne h1, up_ne h1]
    refine lp_undo (by omega) 264 0 _ (by omega) (fun k hk => absurd hk (Nat.not_lt_zero _)) _ (fun h' f g => ?_)
    rw [up_eq]
    have gk : ∀ k, k ≠ 0 → k ≠ 11 → h' 577 k = h 577 k := fun k h1 h2 => by rw [f.2 k List.not_mem_nil, hk k h1 h2]
    have gc : ∀ z, z ≠ 577 → z ≠ 578 → h' z = h z := fun z h1 h2 => by rw [f.1 z (by simp [h2]) h1, hc z h1]
    refine H0 (by omega) h' (h' 578) (fun z hz => gc z (by omega) (by omega)) (by rw [f.2 0 List.not_mem_nil, up_nk (by omega), up_eq]) (fun k hk' => ?_) ⟨rfl, ⟨by rw [f.2 11 List.not_mem_nil, up_eq], by omega, q, q8, by rw [gk _ (by omega) (by omega)]; exact n2, fun j hj k hk' => by rw [gc _ (by omega) (by omega)]; exact hq j (by omega) k hk'⟩, mV_f (gk _ (by omega) (by omega)) (gc _ (by omega) (by omega)) l3, mK_f (fun k h1 h2 => gk k (by omega) (by omega)) l4, mL_f (gk _ (by omega) (by omega)) (gk _ (by omega) (by omega)) (gk _ (by omega) (by omega)) (gk _ (by omega) (by omega)) (gc _ (by omega) (by omega)) (gc _ (by omega) (by omega)) (gc _ (by omega) (by omega)) l5⟩
    rw [g k hk', hc 579 (by omega)]
    exact hq (c - 1) (by omega) k hk'
set_option maxRecDepth 8000 in
theorem lp_save : ∀ (j i : Nat) (h : Nat → Nat → Int), i + j = 264 → (∀ k, k < i → h 580 k = h 578 k) → ∀ Q, (∀ h', mfr [580] [13] h h' → h' 577 13 = 1 → (∀ k, k < 264 → h' 580 k = h 578 k) → Q (.inl (some (vI (h 578 0)))) (eNT, e, ewP, h')) → eP X m_X13_save 5 [vR 577, vI (i : Int)] [] (eNT, e, ewP, h) Q := by
  intro j
  induction j with
  | zero =>
    intro i h hi hk Q H
    refine bk_X13_save_5 X 577 i eNT e ewP h Q ?_
    rw [if_neg (by omega), if_pos ⟨mk577, by decide⟩, if_pos mk577, mp578, if_pos ⟨mk578, by decide, by rw [mn578]; decide⟩, up_ne (show 578 ≠ 577 by decide), show (0 : Int).toNat = 0 from rfl]
    exact H _ (mfr_f mfr_rfl (by decide)) up_eq (fun k hk' => by rw [up_ne (by omega)]; exact hk k (by omega))
  | succ j ih =>
    intro i h hi hk Q H
    refine bk_X13_save_5 X 577 i eNT e ewP h Q ?_
    rw [if_pos (by omega)]
    simp only [mk577, mk578, mk579, mk580, mk581, mk582, mk583, mk584, mk585, mk586, mk587, mn578, mn579, mn580, mn581, mn582, mn583, mn584, mn585, mn586, mn587, mp578, mp579, mp580, mp581, mp582, mp583, mp584, mp585, mp586, mp587, ite_true, true_and, and_true, Int.toNat_natCast]
    rw [if_pos ⟨by omega, by omega⟩, if_pos ⟨by omega, by omega⟩, wi1 (by omega)]
    have e1 : up h 580 i (h 578 i) 578 = h 578 := up_ne (by decide)
    refine ih (i + 1) _ (by omega) ?_ Q (fun h' f g1 g => ?_)
    · intro k hk'
      rw [e1, up_at]
      by_cases q : k = i
      · rw [if_pos q, q]
      · rw [if_neg q]; exact hk k (by omega)
    · rw [e1]
      exact H h' (mfr_tr (mfr_c mfr_rfl (by decide) (by decide)) f) g1 (by rw [e1] at g; exact g)
theorem m_save (l : MI h w c U b r k1 k2 W I L f) {KI KX} (H : ∀ h', mB h h' → MI h' w c U true w k1 k2 W I L f → KI (w 0) eNT e ewP h') : eCi X m_X13_save [vR 577] eNT e ewP h KI KX := by
  obtain ⟨l1, l2, l3, l4, l5⟩ := l
  refine bk_X13_save_0 X 577 eNT e ewP h _ ?_
  rw [if_pos mk577]
  refine lp_save 264 0 _ (by omega) (fun k hk => absurd hk (Nat.not_lt_zero _)) _ (fun h' f g1 g => ?_)
  have e8 : up h 577 0 0 578 = w := by rw [up_ne (by omega)]; exact l1
  rw [e8] at g ⊢
  have gk : ∀ k, k ≠ 0 → k ≠ 13 → h' 577 k = h 577 k := fun k h1 h2 => by rw [f.2 k (by simp [h2]), up_nk h1]
  have gc : ∀ z, z ≠ 577 → z ≠ 580 → h' z = h z := fun z h1 h2 => by rw [f.1 z (by simp [h2]) h1, up_ne h1]
  exact H h' (fun z hz => gc z (by omega) (by omega)) ⟨by rw [gc _ (by omega) (by omega)]; exact l1, mH_f (gk _ (by omega) (by omega)) (gk _ (by omega) (by omega)) (gc _ (by omega) (by omega)) l2, ⟨g1, fun _ => g⟩, mK_f (fun k h1 h2 => gk k (by omega) (by omega)) l4, mL_f (gk _ (by omega) (by omega)) (gk _ (by omega) (by omega)) (gk _ (by omega) (by omega)) (gk _ (by omega) (by omega)) (gc _ (by omega) (by omega)) (gc _ (by omega) (by omega)) (gc _ (by omega) (by omega)) l5⟩
set_option maxRecDepth 8000 in
theorem lp_restore : ∀ (j i : Nat) (h : Nat → Nat → Int), i + j = 264 → (∀ k, k < i → h 578 k = h 580 k) → ∀ Q, (∀ h', mfr [578] [11, 12] h h' → h' 577 11 = 0 → h' 577 12 = 0 → (∀ k, k < 264 → h' 578 k = h 580 k) → Q (.inl (some (vI (h 580 0)))) (eNT, e, ewP, h')) → eP X m_X13_restore 12 [vR 577, vI (i : Int)] [] (eNT, e, ewP, h) Q := by
  intro j
  induction j with
  | zero =>
    intro i h hi hk Q H
    refine bk_X13_restore_12 X 577 i eNT e ewP h Q ?_
    rw [if_neg (by omega), if_pos mk577, if_pos mk577, if_pos mk577, mp578, if_pos ⟨mk578, by decide, by rw [mn578]; decide⟩, up_ne (show 578 ≠ 577 by decide), up_ne (show 578 ≠ 577 by decide), show (0 : Int).toNat = 0 from rfl, hk 0 (by omega)]
    exact H _ (mfr_f (mfr_f mfr_rfl (by decide)) (by decide)) (by rw [up_nk (by omega), up_eq]) up_eq (fun k hk' => by rw [up_ne (by omega), up_ne (by omega)]; exact hk k (by omega))
  | succ j ih =>
    intro i h hi hk Q H
    refine bk_X13_restore_12 X 577 i eNT e ewP h Q ?_
    rw [if_pos (by omega)]
    simp only [mk577, mk578, mk579, mk580, mk581, mk582, mk583, mk584, mk585, mk586, mk587, mn578, mn579, mn580, mn581, mn582, mn583, mn584, mn585, mn586, mn587, mp578, mp579, mp580, mp581, mp582, mp583, mp584, mp585, mp586, mp587, ite_true, true_and, and_true, Int.toNat_natCast]
    rw [if_pos ⟨by omega, by omega⟩, if_pos ⟨by omega, by omega⟩, wi1 (by omega)]
    have e1 : up h 578 i (h 580 i) 580 = h 580 := up_ne (by decide)
    refine ih (i + 1) _ (by omega) ?_ Q (fun h' f g1 g2 g => ?_)
    · intro k hk'
      rw [e1, up_at]
      by_cases q : k = i
      · rw [if_pos q, q]
      · rw [if_neg q]; exact hk k (by omega)
    · rw [e1]
      exact H h' (mfr_tr (mfr_c mfr_rfl (by decide) (by decide)) f) g1 g2 (by rw [e1] at g; exact g)
theorem m_restore (l : MI h w c U b r k1 k2 W I L f) {KI KX} (H1 : b = false → KI 0 eNT e ewP (up h 577 0 1)) (H0 : b = true → ∀ h' w', mB h h' → h' 577 0 = 0 → (∀ k, k < 264 → w' k = r k) → MI h' w' 0 U b r k1 k2 W I L f → KI (r 0) eNT e ewP h') : eCi X m_X13_restore [vR 577] eNT e ewP h KI KX := by
  obtain ⟨l1, l2, l3, l4, l5⟩ := l
  refine bk_X13_restore_0 X 577 eNT e ewP h _ ?_
  rw [if_pos mk577, if_pos mk577, up_nk (show 13 ≠ 0 by decide), l3.1]
  cases b with
  | false =>
    rw [if_pos (by decide), if_pos mk577, m_fails, upup]
    exact H1 rfl
  | true =>
    rw [if_neg (by decide)]
    have lr := l3.2 rfl
    refine lp_restore 264 0 _ (by omega) (fun k hk => absurd hk (Nat.not_lt_zero _)) _ (fun h' f g1 g2 g => ?_)
    have e8 : up h 577 0 0 580 = h 580 := up_ne (by omega)
    rw [e8] at g ⊢
    rw [lr 0 (by omega)]
    have gk : ∀ k, k ≠ 0 → k ≠ 11 → k ≠ 12 → h' 577 k = h 577 k := fun k h1 h2 h3 => by rw [f.2 k (by simp [h2, h3]), up_nk h1]
    have gc : ∀ z, z ≠ 577 → z ≠ 578 → h' z = h z := fun z h1 h2 => by rw [f.1 z (by simp [h2]) h1, up_ne h1]
    refine H0 rfl h' (h' 578) (fun z hz => gc z (by omega) (by omega)) (by rw [f.2 0 (by decide), up_eq]) (fun k hk => by rw [g k hk, lr k hk]) ⟨rfl, ⟨g1, by omega, 0, by omega, g2, fun j hj => absurd hj (Nat.not_lt_zero _)⟩, mV_f (gk _ (by omega) (by omega) (by omega)) (gc _ (by omega) (by omega)) l3, mK_f (fun k h1 h2 => gk k (by omega) (by omega) (by omega)) l4, mL_f (gk _ (by omega) (by omega) (by omega)) (gk _ (by omega) (by omega) (by omega)) (gk _ (by omega) (by omega) (by omega)) (gk _ (by omega) (by omega) (by omega)) (gc _ (by omega) (by omega)) (gc _ (by omega) (by omega)) (gc _ (by omega) (by omega)) l5⟩
end
