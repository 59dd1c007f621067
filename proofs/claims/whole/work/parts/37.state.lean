/-! the state of both sides; the reference's rows copied -/
theorem wR_cg {h : Nat → Nat → Int} {b : Nat} {w w' : Nat → Int} (q : ∀ k, k < 264 → w k = w' k) (l : wR h b w) : wR h b w' := by
  obtain ⟨N, R, T, ⟨a1, a2, a3, a4, a5, a6, a7, a8⟩, b1, b2, b3, b4, b5, b6⟩ := l
  refine ⟨N, R, T, ⟨by rw [← q _ (by omega)]; exact a1, a2, by rw [← q _ (by omega)]; exact a3, a4, fun s hs => wOk_congr (fun j hj => q _ (by omega)) (a5 s hs), fun r hr => by rw [← q _ (by omega), ← q _ (by omega)]; exact a6 r hr, by rw [← q _ (by omega)]; exact a7, by rw [← q _ (by omega)]; exact a8⟩, b1, b2, fun s hs => wlR_congr (fun j hj => q _ (by omega)) (b3 s hs), fun r hr => rpR_congr (fun k h1 h2 => (q k (by omega)).symm) (by omega) (b4 r hr), bkR_congr (fun k h1 h2 => (q k (by omega)).symm) b5, scR_congr (fun k h1 h2 => (q k (by omega)).symm) b6⟩
section
variable {X : eX} {e : Nat} {h : Nat → Nat → Int}
set_option maxRecDepth 8000 in
theorem lp_thinks : ∀ (j i : Nat) (h : Nat → Nat → Int), i + j = 264 → (∀ k, k < i → h 581 k = h 578 k) → ∀ Q, (∀ h', mfr [581] [] h h' → (∀ k, k < 264 → h' 581 k = h 578 k) → Q (.inl none) (eNT, e, ewP, h')) → eP X m_X13_thinks 2 [vR 577, vI (i : Int)] [] (eNT, e, ewP, h) Q := by
  intro j
  induction j with
  | zero =>
    intro i h hi hk Q H
    refine bk_X13_thinks_2 X 577 i eNT e ewP h Q ?_
    rw [if_neg (by omega)]
    exact H h mfr_rfl (fun k hk' => hk k (by omega))
  | succ j ih =>
    intro i h hi hk Q H
    refine bk_X13_thinks_2 X 577 i eNT e ewP h Q ?_
    simp only [mk577, mk578, mk579, mk580, mk581, mk582, mk583, mk584, mk585, mk586, mk587, mn578, mn579, mn580, mn581, mn582, mn583, mn584, mn585, mn586, mn587, mp578, mp579, mp580, mp581, mp582, mp583, mp584, mp585, mp586, mp587, ite_true, true_and, and_true, Int.toNat_natCast]
    rw [if_pos (by omega), if_pos ⟨by omega, by omega⟩, if_pos ⟨by omega, by omega⟩, wi1 (by omega)]
    have e1 : up h 581 i (h 578 i) 578 = h 578 := up_ne (by decide)
    refine ih (i + 1) _ (by omega) ?_ Q (fun h' f g => H h' (mfr_tr (mfr_c mfr_rfl (by decide) (by decide)) f) (by rw [e1] at g; exact g))
    intro k hk'
    rw [e1, up_at]
    by_cases q : k = i
    · rw [if_pos q, q]
    · rw [if_neg q]; exact hk k (by omega)
theorem m_thinks {KV KX} (H : ∀ h', mfr [581] [] h h' → (∀ k, k < 264 → h' 581 k = h 578 k) → KV eNT e ewP h') : eCv X m_X13_thinks [vR 577] eNT e ewP h KV KX := by
  refine bk_X13_thinks_0 X 577 eNT e ewP h _ ?_
  exact lp_thinks 264 0 h (by omega) (fun k hk => absurd hk (Nat.not_lt_zero _)) _ H
set_option maxRecDepth 8000 in
theorem lp_forgets : ∀ (j i : Nat) (h : Nat → Nat → Int), i + j = 264 → (∀ k, k < i → h 578 k = h 581 k) → ∀ Q, (∀ h', mfr [578] [] h h' → (∀ k, k < 264 → h' 578 k = h 581 k) → Q (.inl none) (eNT, e, ewP, h')) → eP X m_X13_forgets 2 [vR 577, vI (i : Int)] [] (eNT, e, ewP, h) Q := by
  intro j
  induction j with
  | zero =>
    intro i h hi hk Q H
    refine bk_X13_forgets_2 X 577 i eNT e ewP h Q ?_
    rw [if_neg (by omega)]
    exact H h mfr_rfl (fun k hk' => hk k (by omega))
  | succ j ih =>
    intro i h hi hk Q H
    refine bk_X13_forgets_2 X 577 i eNT e ewP h Q ?_
    simp only [mk577, mk578, mk579, mk580, mk581, mk582, mk583, mk584, mk585, mk586, mk587, mn578, mn579, mn580, mn581, mn582, mn583, mn584, mn585, mn586, mn587, mp578, mp579, mp580, mp581, mp582, mp583, mp584, mp585, mp586, mp587, ite_true, true_and, and_true, Int.toNat_natCast]
    rw [if_pos (by omega), if_pos ⟨by omega, by omega⟩, if_pos ⟨by omega, by omega⟩, wi1 (by omega)]
    have e1 : up h 578 i (h 581 i) 581 = h 581 := up_ne (by decide)
    refine ih (i + 1) _ (by omega) ?_ Q (fun h' f g => H h' (mfr_tr (mfr_c mfr_rfl (by decide) (by decide)) f) (by rw [e1] at g; exact g))
    intro k hk'
    rw [e1, up_at]
    by_cases q : k = i
    · rw [if_pos q, q]
    · rw [if_neg q]; exact hk k (by omega)
theorem m_forgets {KV KX} (H : ∀ h', mfr [578] [] h h' → (∀ k, k < 264 → h' 578 k = h 581 k) → KV eNT e ewP h') : eCv X m_X13_forgets [vR 577] eNT e ewP h KV KX := by
  refine bk_X13_forgets_0 X 577 eNT e ewP h _ ?_
  exact lp_forgets 264 0 h (by omega) (fun k hk => absurd hk (Nat.not_lt_zero _)) _ H
set_option maxRecDepth 8000 in
theorem lp_keeps {to : Nat} (ht : to < 8) : ∀ (j i : Nat) (h : Nat → Nat → Int), i + j = 264 → 0 ≤ h 577 11 ∧ h 577 11 ≤ 8 → (∀ k, k < i → h 579 (264 * to + k) = h 581 k) → ∀ Q, (∀ h', mfr [579] [11] h h' → h' 577 11 = h 577 11 + 1 → (∀ k, k < 264 → h' 579 (264 * to + k) = h 581 k) → (∀ s, s < 8 → s ≠ to → ∀ k, k < 264 → h' 579 (264 * s + k) = h 579 (264 * s + k)) → Q (.inl none) (eNT, e, ewP, h')) → eP X m_X13_keepsMind 28 [vR 577, vI (to : Int), vI (i : Int)] [] (eNT, e, ewP, h) Q := by
  intro j
  induction j with
  | zero =>
    intro i h hi h11 hk Q H
    refine bk_X13_keepsMind_28 X 577 to i eNT e ewP h Q ?_
    rw [if_neg (by omega), if_pos mk577, if_pos mk577, wrn (by omega) (by omega)]
    have e1 : ∀ v, up h 577 11 v 579 = h 579 := fun v => up_ne (by decide)
    refine H _ (mfr_f mfr_rfl (by decide)) up_eq ?_ ?_
    · intro k hk'; rw [e1]; exact hk k (by omega)
    · intro s _ _ k _; rw [e1]
  | succ j ih =>
    intro i h hi h11 hk Q H
    refine bk_X13_keepsMind_28 X 577 to i eNT e ewP h Q ?_
    have e4 : wr (wr (264 * (to : Int)) + (i : Int)) = ((264 * to + i : Nat) : Int) := by rw [wrn (x := 264 * _) (by omega) (by omega), wrn (by omega) (by omega)]; omega
    have g1 : (0 : Int) ≤ ((264 * to + i : Nat) : Int) ∧ ((264 * to + i : Nat) : Int) < ((2112 : Nat) : Int) := ⟨by omega, by omega⟩
    simp only [mk577, mk578, mk579, mk580, mk581, mk582, mk583, mk584, mk585, mk586, mk587, mn578, mn579, mn580, mn581, mn582, mn583, mn584, mn585, mn586, mn587, mp578, mp579, mp580, mp581, mp582, mp583, mp584, mp585, mp586, mp587, ite_true, true_and, and_true, e4, g1, Int.toNat_natCast]
    rw [if_pos (by omega), if_pos ⟨by omega, by omega⟩, wi1 (by omega)]
    have e1 : up h 579 (264 * to + i) (h 581 i) 581 = h 581 := up_ne (by decide)
    have e2 : up h 579 (264 * to + i) (h 581 i) 577 = h 577 := up_ne (by decide)
    refine ih (i + 1) _ (by omega) (by rw [e2]; exact h11) ?_ Q (fun h' f g1 g2 g3 => H h' (mfr_tr (mfr_c mfr_rfl (by decide) (by decide)) f) (by rw [e2] at g1; exact g1) (by rw [e1] at g2; exact g2) ?_)
    · intro k hk'
      rw [e1, up_at]
      by_cases q : k = i
      · rw [if_pos (by omega), q]
      · rw [if_neg (by omega)]; exact hk k (by omega)
    · intro s h1 h2 k h3
      rw [g3 s h1 h2 k h3, up_at, if_neg (by omega)]
/-- the history's rows -/
def mH (h : Nat → Nat → Int) (c : Nat) (U : Nat → Nat → Int) : Prop := h 577 11 = (c : Int) ∧ c ≤ 8 ∧ ∃ q : Nat, q < 8 ∧ h 577 12 = (q : Int) ∧ ∀ j, j < c → ∀ k, k < 264 → h 579 (264 * ((q + j) % 8) + k) = U j k
def pC (c : Nat) : Nat := if c < 8 then c + 1 else 8
def pU2 (c : Nat) (U : Nat → Nat → Int) (w : Nat → Int) : Nat → Nat → Int := fun j => if c < 8 then (if j = c then w else U j) else (if j = 7 then w else U (j + 1))
theorem m_keepsMind {c : Nat} {U : Nat → Nat → Int} {w : Nat → Int} (l : mH h c U) (hw : ∀ k, k < 264 → h 581 k = w k) {KV KX} (H : ∀ h', mfr [579] [11, 12] h h' → mH h' (pC c) (pU2 c U w) → KV eNT e ewP h') : eCv X m_X13_keepsMind [vR 577] eNT e ewP h KV KX := by
  obtain ⟨l1, l2, q, l3, l4, l5⟩ := l
  refine bk_X13_keepsMind_0 X 577 eNT e ewP h _ ?_
  have n1 : ∀ (h : Nat → Nat → Int) v, up h 577 12 v 577 11 = h 577 11 := fun h v => up_nk (by decide)
  have n2 : ∀ (h : Nat → Nat → Int) v, up h 577 11 v 577 12 = h 577 12 := fun h v => up_nk (by decide)
  have n3 : ∀ (h : Nat → Nat → Int) v, up h 577 12 v 577 12 = v := fun h v => up_eq
  have n4 : ∀ (h : Nat → Nat → Int) v, up h 577 11 v 577 11 = v := fun h v => up_eq
  simp only [mk577, mk578, mk579, mk580, mk581, mk582, mk583, mk584, mk585, mk586, mk587, mn578, mn579, mn580, mn581, mn582, mn583, mn584, mn585, mn586, mn587, mp578, mp579, mp580, mp581, mp582, mp583, mp584, mp585, mp586, mp587, ite_true, true_and, and_true, n1, n2, n3, n4, l1, l4]
  have tm : ∀ a : Nat, a < 100 → (a : Int).tmod 8 = ((a % 8 : Nat) : Int) := by
    intro a ha
    rw [Int.tmod_eq_emod_of_nonneg (by omega)]
    omega
  by_cases c8 : c = 8
  · subst c8
    have e1 : wr ((q : Int) + 1) = ((q + 1 : Nat) : Int) := wi1 (by omega)
    have e2 : wr (((8 : Nat) : Int) - 1) = ((7 : Nat) : Int) := by rw [wrn (by decide) (by decide)]; rfl
    have e3 : wr ((((q + 1) % 8 : Nat) : Int) + ((7 : Nat) : Int)) = (((q + 1) % 8 + 7 : Nat) : Int) := by rw [wrn (by omega) (by omega)]; omega
    have e4 : ((q + 1) % 8 + 7) % 8 = q := by omega
    rw [if_pos (by rfl), if_neg (by decide), if_neg (by decide), e1, tm _ (by omega), e2, e3, tm _ (by omega), e4]
    refine lp_keeps l3 264 0 _ (by omega) (by rw [up_eq]; decide) (fun k hk => absurd hk (Nat.not_lt_zero _)) _ (fun h' f g1 g2 g3 => ?_)
    have f1 : mfr [579] [11, 12] h h' := mfr_tr (mfr_f (mfr_f mfr_rfl (by decide)) (by decide)) (mfr_le f (fun c h => h) (by decide))
    have u1 : ∀ v1 v2, up (up h 577 12 v1) 577 11 v2 579 = h 579 := fun v1 v2 => by rw [up_ne (by decide), up_ne (by decide)]
    have u2 : ∀ v1 v2, up (up h 577 12 v1) 577 11 v2 581 = h 581 := fun v1 v2 => by rw [up_ne (by decide), up_ne (by decide)]
    refine H h' f1 ⟨by rw [g1, up_eq]; rfl, by decide, (q + 1) % 8, by omega, by rw [f.2 12 (by decide), up_nk (by omega), up_eq], fun j hj k hk => ?_⟩
    have hj8 : j < 8 := hj
    unfold pU2
    rw [if_neg (by decide)]
    by_cases q7 : j = 7
    · rw [if_pos q7, show ((q + 1) % 8 + j) % 8 = q by omega, g2 k hk, u2]
      exact hw k hk
    · rw [if_neg q7, show ((q + 1) % 8 + j) % 8 = (q + (j + 1)) % 8 by omega, g3 _ (by omega) (by omega) k hk, u1]
      exact l5 (j + 1) (by omega) k hk
  · have e3 : wr ((q : Int) + (c : Int)) = ((q + c : Nat) : Int) := by rw [wrn (by omega) (by omega)]; omega
    rw [if_neg (by omega), if_neg (by decide), e3, tm _ (by omega)]
    refine lp_keeps (by omega) 264 0 _ (by omega) (by rw [l1]; omega) (fun k hk => absurd hk (Nat.not_lt_zero _)) _ (fun h' f g1 g2 g3 => ?_)
    refine H h' (mfr_le f (fun c h => h) (by decide)) ⟨by rw [g1, l1]; unfold pC; rw [if_pos (by omega)]; omega, by unfold pC; split <;> omega, q, l3, by rw [f.2 12 (by decide)]; exact l4, fun j hj k hk => ?_⟩
    unfold pC at hj
    rw [if_pos (by omega)] at hj
    unfold pU2
    rw [if_pos (by omega)]
    by_cases q7 : j = c
    · rw [if_pos q7, q7, g2 k hk]
      exact hw k hk
    · rw [if_neg q7, g3 _ (by omega) (by omega) k hk]
      exact l5 j (by omega) k hk
theorem m_remembers {c : Nat} {U : Nat → Nat → Int} (l : mH h c U) {KV KX} (H : ∀ h', mfr [579, 581] [11, 12] h h' → mH h' (pC c) (pU2 c U (h 578)) → KV eNT e ewP h') : eCv X m_X13_remembers [vR 577] eNT e ewP h KV KX := by
  refine bk_X13_remembers_0 X 577 eNT e ewP h _ ?_
  rw [if_pos mk577]
  refine m_thinks (fun h1 f1 g1 => ?_)
  rw [if_pos mk577]
  have l' : mH h1 c U := by
    obtain ⟨l1, l2, q, l3, l4, l5⟩ := l
    refine ⟨by rw [f1.2 _ (by decide)]; exact l1, l2, q, l3, by rw [f1.2 _ (by decide)]; exact l4, fun j hj k hk => by rw [f1.1 579 (by decide) (by decide)]; exact l5 j hj k hk⟩
  exact m_keepsMind l' g1 (fun h' f2 g2 => H h' (mfr_tr (mfr_le f1 (by decide) (by decide)) (mfr_le f2 (by decide) (by decide))) g2)
end
