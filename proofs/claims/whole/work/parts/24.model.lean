/-! the reference: its cells (by program, wip/whole/gen9.py) -/
theorem mk577 : kn ewK eNT 577 = 13 := kn_ly (by decide +kernel) (by decide)
theorem mk578 : kn ewK eNT 578 = 20 := kn_ly (by decide +kernel) (by decide)
theorem mn578 : ewL 578 = 264 := by decide +kernel
theorem mk579 : kn ewK eNT 579 = 20 := kn_ly (by decide +kernel) (by decide)
theorem mn579 : ewL 579 = 2112 := by decide +kernel
theorem mk580 : kn ewK eNT 580 = 20 := kn_ly (by decide +kernel) (by decide)
theorem mn580 : ewL 580 = 264 := by decide +kernel
theorem mk581 : kn ewK eNT 581 = 20 := kn_ly (by decide +kernel) (by decide)
theorem mn581 : ewL 581 = 264 := by decide +kernel
theorem mk582 : kn ewK eNT 582 = 20 := kn_ly (by decide +kernel) (by decide)
theorem mn582 : ewL 582 = 8 := by decide +kernel
theorem mk583 : kn ewK eNT 583 = 20 := kn_ly (by decide +kernel) (by decide)
theorem mn583 : ewL 583 = 8 := by decide +kernel
theorem mk584 : kn ewK eNT 584 = 20 := kn_ly (by decide +kernel) (by decide)
theorem mn584 : ewL 584 = 16 := by decide +kernel
theorem mk585 : kn ewK eNT 585 = 21 := kn_ly (by decide +kernel) (by decide)
theorem mn585 : ewL 585 = 60 := by decide +kernel
theorem mk586 : kn ewK eNT 586 = 21 := kn_ly (by decide +kernel) (by decide)
theorem mn586 : ewL 586 = 60 := by decide +kernel
theorem mk587 : kn ewK eNT 587 = 20 := kn_ly (by decide +kernel) (by decide)
theorem mn587 : ewL 587 = 3 := by decide +kernel
theorem mp578 : ewP 577 7 = 578 := by decide +kernel
theorem mp579 : ewP 577 8 = 579 := by decide +kernel
theorem mp580 : ewP 577 9 = 580 := by decide +kernel
theorem mp581 : ewP 577 10 = 581 := by decide +kernel
theorem mp582 : ewP 577 14 = 582 := by decide +kernel
theorem mp583 : ewP 577 15 = 583 := by decide +kernel
theorem mp584 : ewP 577 18 = 584 := by decide +kernel
theorem mp585 : ewP 577 21 = 585 := by decide +kernel
theorem mp586 : ewP 577 23 = 586 := by decide +kernel
theorem mp587 : ewP 577 27 = 587 := by decide +kernel

/-- the row of the i-th well -/
def wW (w : Nat → Int) (i k : Nat) : Int := w (64 + 25 * i + k)
def fFrg (f : Nat → Int) (a : Int) (n : Nat) : Int := sumF (sFrg (fun t => f (5 + 4 * t)) (fun t => f (8 + 4 * t)) a) 0 n
def fCnt (f : Nat → Int) (k : Int) (n : Nat) : Int := sumF (fun t => if f (5 + 4 * t) = k then 1 else 0) 0 n
def fPl (f : Nat → Int) (n t : Nat) : Int := sPl (fun t => f (6 + 4 * t)) n t
def fAt (f : Nat → Int) (n : Nat) (p : Int) : Int := sAt (fun t => f (6 + 4 * t)) n p
def fTime (f : Nat → Int) (n : Nat) : Int := sTime (fun t => f (5 + 4 * t)) (fun t => f (7 + 4 * t)) (fun t => f (8 + 4 * t)) (f 0) n
/-- what holds of a well's row -/
def wOk (f : Nat → Int) (n : Nat) : Prop := n ≤ 5 ∧ f 2 = (n : Int) ∧ (1 ≤ f 0 ∧ f 0 ≤ 30) ∧ (0 ≤ f 1 ∧ f 1 ≤ 2) ∧ ∀ t, t < n → (0 ≤ f (5 + 4 * t) ∧ f (5 + 4 * t) ≤ 2) ∧ (1 ≤ f (6 + 4 * t) ∧ f (6 + 4 * t) ≤ f 0) ∧ (f (5 + 4 * t) = 1 → 97 ≤ f (7 + 4 * t) ∧ f (7 + 4 * t) ≤ 122) ∧ (f (5 + 4 * t) ≠ 1 → 1 ≤ f (7 + 4 * t) ∧ f (7 + 4 * t) ≤ 9) ∧ (f (8 + 4 * t) = 0 ∨ f (8 + 4 * t) = 1) ∧ (f (5 + 4 * t) ≠ 1 → f (8 + 4 * t) = 0)
section
variable {X : eX} {e : Nat} {h : Nat → Nat → Int}
theorem m_thrown (KI KX) : eCi X m_X13_thrown [vR 577] eNT e ewP h KI KX = KI (h 577 0) eNT e ewP h := by
  refine eCi_eq X (fun Q H => ?_) KI KX
  refine bk_X13_thrown_0 X 577 eNT e ewP h Q ?_
  rw [if_pos mk577]
  exact H
theorem m_fails {k : Int} (KI KX) : eCi X m_X13_fails [vR 577, vI k] eNT e ewP h KI KX = KI 0 eNT e ewP (up h 577 0 k) := by
  refine eCi_eq X (fun Q H => ?_) KI KX
  refine bk_X13_fails_0 X 577 k eNT e ewP h Q ?_
  rw [if_pos mk577]
  exact H
theorem m_isBetween {v l u : Int} (KI KX) : eCi X m_X13_isBetween [vI v, vI l, vI u] eNT e ewP h KI KX = KI (if l ≤ v ∧ v ≤ u then 1 else 0) eNT e ewP h := by
  refine eCi_eq X (fun Q H => ?_) KI KX
  refine bk_X13_isBetween_0 X v l u eNT e ewP h Q ?_
  by_cases a : l ≤ v
  · by_cases b : v ≤ u
    · rw [if_pos a, if_pos b, if_pos (by decide)]
      rw [if_pos ⟨a, b⟩] at H
      exact H
    · rw [if_pos a, if_neg b, if_pos (by decide)]
      rw [if_neg (fun q => b q.2)] at H
      exact H
  · rw [if_neg a, if_pos (by decide)]
    rw [if_neg (fun q => a q.1)] at H
    exact H
theorem m_isNot {r d : Int} (KI KX) : eCi X m_X13_isNot [vR 577, vI r, vI d] eNT e ewP h KI KX = KI 1 eNT e ewP (up (up h 577 5 r) 577 6 d) := by
  refine eCi_eq X (fun Q H => ?_) KI KX
  refine bk_X13_isNot_0 X 577 r d eNT e ewP h Q ?_
  simp only [mk577, mk578, mk579, mk580, mk581, mk582, mk583, mk584, mk585, mk586, mk587, mn578, mn579, mn580, mn581, mn582, mn583, mn584, mn585, mn586, mn587, mp578, mp579, mp580, mp581, mp582, mp583, mp584, mp585, mp586, mp587, ite_true, true_and, and_true]
  exact H
theorem m_throwsNow (KI KX) : eCi X m_X13_throwsNow [vR 577] eNT e ewP h KI KX = KI 0 eNT e ewP (up (up (up (up h 577 1 (h 577 5)) 577 2 (h 577 6)) 577 3 0) 577 0 1) := by
  refine eCi_eq X (fun Q H => ?_) KI KX
  refine bk_X13_throwsNow_0 X 577 eNT e ewP h Q ?_
  simp only [mk577, mk578, mk579, mk580, mk581, mk582, mk583, mk584, mk585, mk586, mk587, mn578, mn579, mn580, mn581, mn582, mn583, mn584, mn585, mn586, mn587, mp578, mp579, mp580, mp581, mp582, mp583, mp584, mp585, mp586, mp587, ite_true, true_and, and_true, m_fails]
  rw [up_nk (by omega)]
  exact H
theorem m_of {i : Nat} {j : Int} (hi : i < 8) (hj : 0 ≤ j ∧ j < 25) (KI KX) : eCi X m_X13_of [vR 577, vI i, vI j] eNT e ewP h KI KX = KI (wW (h 578) i j.toNat) eNT e ewP h := by
  refine eCi_eq X (fun Q H => ?_) KI KX
  refine bk_X13_of_0 X 577 i j eNT e ewP h Q ?_
  have e1 : wr (wr (64 + wr (25 * (i : Int))) + j) = ((64 + 25 * i + j.toNat : Nat) : Int) := by
    rw [wrn (x := 25 * (i : Int)) (by omega) (by omega), wrn (x := 64 + _) (by omega) (by omega), wrn (by omega) (by omega)]; omega
  simp only [mk577, mk578, mk579, mk580, mk581, mk582, mk583, mk584, mk585, mk586, mk587, mn578, mn579, mn580, mn581, mn582, mn583, mn584, mn585, mn586, mn587, mp578, mp579, mp580, mp581, mp582, mp583, mp584, mp585, mp586, mp587, ite_true, true_and, and_true, e1]
  rw [if_pos ⟨by omega, by omega⟩, Int.toNat_natCast]
  exact H
theorem m_sets {i : Nat} {j v : Int} (hi : i < 8) (hj : 0 ≤ j ∧ j < 25) (KV KX) : eCv X m_X13_sets [vR 577, vI i, vI j, vI v] eNT e ewP h KV KX = KV eNT e ewP (up h 578 (64 + 25 * i + j.toNat) v) := by
  refine eCv_eq X (fun Q H => ?_) KV KX
  refine bk_X13_sets_0 X 577 i j v eNT e ewP h Q ?_
  have e1 : wr (wr (64 + wr (25 * (i : Int))) + j) = ((64 + 25 * i + j.toNat : Nat) : Int) := by
    rw [wrn (x := 25 * (i : Int)) (by omega) (by omega), wrn (x := 64 + _) (by omega) (by omega), wrn (by omega) (by omega)]; omega
  simp only [mk577, mk578, mk579, mk580, mk581, mk582, mk583, mk584, mk585, mk586, mk587, mn578, mn579, mn580, mn581, mn582, mn583, mn584, mn585, mn586, mn587, mp578, mp579, mp580, mp581, mp582, mp583, mp584, mp585, mp586, mp587, ite_true, true_and, and_true, e1]
  rw [if_pos ⟨by omega, by omega⟩, Int.toNat_natCast]
  exact H
theorem m_is {i t j : Nat} (hi : i < 8) (ht : t < 5) (hj : j < 4) (KI KX) : eCi X m_X13_is [vR 577, vI i, vI t, vI (j : Int)] eNT e ewP h KI KX = KI (wW (h 578) i (5 + j + 4 * t)) eNT e ewP h := by
  refine eCi_eq X (fun Q H => ?_) KI KX
  refine bk_X13_is_0 X 577 i t j eNT e ewP h Q ?_
  have e1 : wr (wr (wr (wr (64 + wr (25 * (i : Int))) + 5) + wr (4 * (t : Int))) + (j : Int)) = ((64 + 25 * i + (5 + j + 4 * t) : Nat) : Int) := by
    rw [wrn (x := 25 * (i : Int)) (by omega) (by omega), wrn (x := 64 + _) (by omega) (by omega), wrn (x := 64 + _ + 5) (by omega) (by omega), wrn (x := 4 * (t : Int)) (by omega) (by omega), wrn (x := 64 + _ + 5 + _) (by omega) (by omega), wrn (by omega) (by omega)]; omega
  simp only [mk577, mk578, mk579, mk580, mk581, mk582, mk583, mk584, mk585, mk586, mk587, mn578, mn579, mn580, mn581, mn582, mn583, mn584, mn585, mn586, mn587, mp578, mp579, mp580, mp581, mp582, mp583, mp584, mp585, mp586, mp587, ite_true, true_and, and_true, e1]
  rw [if_pos ⟨by omega, by omega⟩, Int.toNat_natCast]
  exact H
theorem m_is0 {i t : Nat} (hi : i < 8) (ht : t < 5) (KI KX) : eCi X m_X13_is [vR 577, vI i, vI t, vI 0] eNT e ewP h KI KX = KI (wW (h 578) i (5 + 4 * t)) eNT e ewP h := m_is (j := 0) hi ht (by decide) KI KX
theorem m_is1 {i t : Nat} (hi : i < 8) (ht : t < 5) (KI KX) : eCi X m_X13_is [vR 577, vI i, vI t, vI 1] eNT e ewP h KI KX = KI (wW (h 578) i (6 + 4 * t)) eNT e ewP h := m_is (j := 1) hi ht (by decide) KI KX
theorem m_is2 {i t : Nat} (hi : i < 8) (ht : t < 5) (KI KX) : eCi X m_X13_is [vR 577, vI i, vI t, vI 2] eNT e ewP h KI KX = KI (wW (h 578) i (7 + 4 * t)) eNT e ewP h := m_is (j := 2) hi ht (by decide) KI KX
theorem m_is3 {i t : Nat} (hi : i < 8) (ht : t < 5) (KI KX) : eCi X m_X13_is [vR 577, vI i, vI t, vI 3] eNT e ewP h KI KX = KI (wW (h 578) i (8 + 4 * t)) eNT e ewP h := m_is (j := 3) hi ht (by decide) KI KX
theorem m_isWell {x : Int} (hw : 0 ≤ h 578 0 ∧ h 578 0 ≤ 8) (KI KX) : eCi X m_X13_isWell [vR 577, vI x] eNT e ewP h KI KX = KI (if 0 ≤ x ∧ x < h 578 0 then 1 else 0) eNT e ewP h := by
  refine eCi_eq X (fun Q H => ?_) KI KX
  refine bk_X13_isWell_0 X 577 x eNT e ewP h Q ?_
  simp only [mk577, mk578, mk579, mk580, mk581, mk582, mk583, mk584, mk585, mk586, mk587, mn578, mn579, mn580, mn581, mn582, mn583, mn584, mn585, mn586, mn587, mp578, mp579, mp580, mp581, mp582, mp583, mp584, mp585, mp586, mp587, ite_true, true_and, and_true, m_isBetween]
  rw [if_pos (by decide), if_pos (by split <;> simp), show (0 : Int).toNat = 0 from rfl, wrn (by omega) (by omega)]
  have e1 : (x ≤ h 578 0 - 1) = (x < h 578 0) := propext (by omega)
  simp only [e1]
  exact H
theorem m_isRope {x : Int} (hw : 0 ≤ h 578 1 ∧ h 578 1 ≤ 3) (KI KX) : eCi X m_X13_isRope [vR 577, vI x] eNT e ewP h KI KX = KI (if 0 ≤ x ∧ x < h 578 1 then 1 else 0) eNT e ewP h := by
  refine eCi_eq X (fun Q H => ?_) KI KX
  refine bk_X13_isRope_0 X 577 x eNT e ewP h Q ?_
  simp only [mk577, mk578, mk579, mk580, mk581, mk582, mk583, mk584, mk585, mk586, mk587, mn578, mn579, mn580, mn581, mn582, mn583, mn584, mn585, mn586, mn587, mp578, mp579, mp580, mp581, mp582, mp583, mp584, mp585, mp586, mp587, ite_true, true_and, and_true, m_isBetween]
  rw [if_pos (by decide), if_pos (by split <;> simp), show (1 : Int).toNat = 1 from rfl, wrn (by omega) (by omega)]
  have e1 : (x ≤ h 578 1 - 1) = (x < h 578 1) := propext (by omega)
  simp only [e1]
  exact H
theorem m_isThing {i n : Nat} {x : Int} (hi : i < 8) (hn : wW (h 578) i 2 = n) (h5 : n ≤ 5) (KI KX) : eCi X m_X13_isThing [vR 577, vI i, vI x] eNT e ewP h KI KX = KI (if 0 ≤ x ∧ x < n then 1 else 0) eNT e ewP h := by
  refine eCi_eq X (fun Q H => ?_) KI KX
  refine bk_X13_isThing_0 X 577 i x eNT e ewP h Q ?_
  rw [if_pos mk577, m_of hi (by decide), show (2 : Int).toNat = 2 from rfl, hn, m_isBetween, if_pos (by split <;> simp), wrn (by omega) (by omega)]
  have e1 : (x ≤ (n : Int) - 1) = (x < n) := propext (by omega)
  simp only [e1]
  exact H
theorem m_ropeIs {r j : Nat} (hr : r < 3) (hj : j < 3) (KI KX) : eCi X m_X13_ropeIs [vR 577, vI r, vI (j : Int)] eNT e ewP h KI KX = KI (h 578 (55 + j + 3 * r)) eNT e ewP h := by
  refine eCi_eq X (fun Q H => ?_) KI KX
  refine bk_X13_ropeIs_0 X 577 r j eNT e ewP h Q ?_
  have e1 : wr (wr (55 + wr (3 * (r : Int))) + (j : Int)) = ((55 + j + 3 * r : Nat) : Int) := by
    rw [wrn (x := 3 * (r : Int)) (by omega) (by omega), wrn (x := 55 + _) (by omega) (by omega), wrn (by omega) (by omega)]; omega
  simp only [mk577, mk578, mk579, mk580, mk581, mk582, mk583, mk584, mk585, mk586, mk587, mn578, mn579, mn580, mn581, mn582, mn583, mn584, mn585, mn586, mn587, mp578, mp579, mp580, mp581, mp582, mp583, mp584, mp585, mp586, mp587, ite_true, true_and, and_true, e1]
  rw [if_pos ⟨by omega, by omega⟩, Int.toNat_natCast]
  exact H
theorem m_boundTo {r : Nat} (hr : r < 3) (hb : 0 ≤ h 578 (56 + 3 * r) ∧ h 578 (56 + 3 * r) ≤ 8) (KI KX) : eCi X m_X13_boundTo [vR 577, vI r] eNT e ewP h KI KX = KI (h 578 (56 + 3 * r) - 1) eNT e ewP h := by
  refine eCi_eq X (fun Q H => ?_) KI KX
  refine bk_X13_boundTo_0 X 577 r eNT e ewP h Q ?_
  rw [if_pos mk577]
  have := m_ropeIs (X := X) (e := e) (h := h) hr (show 1 < 3 by decide)
  simp only [Int.natCast_one, show 55 + 1 + 3 * r = 56 + 3 * r by omega] at this
  rw [this, wrn (by omega) (by omega)]
  exact H
def mCt (f : Nat → Int) (k a : Int) (t : Nat) : Int := if f (5 + 4 * t) = k then (if a = 0 then 1 else if f (8 + 4 * t) = 1 then 1 else 0) else 0
theorem lp_countThings {i n : Nat} {k a : Int} (hi : i < 8) (hn : wW (h 578) i 2 = n) (h5 : n ≤ 5) : ∀ (j t : Nat) (acc : Int), t + j = n → 0 ≤ acc → acc ≤ t → ∀ Q, Q (.inl (some (vI (acc + sumF (mCt (wW (h 578) i) k a) t j)))) (eNT, e, ewP, h) → eP X m_X13_countThings 4 [vR 577, vI i, vI k, vI a, vI acc, vI t] [] (eNT, e, ewP, h) Q := by
  intro j
  induction j with
  | zero =>
    intro t acc ht h0 h1 Q H
    refine bk_X13_countThings_4 X 577 i k a acc t eNT e ewP h Q ?_
    rw [if_pos mk577, m_of hi (by decide), show (2 : Int).toNat = 2 from rfl, hn, if_neg (by omega)]
    simpa [sumF] using H
  | succ j ih =>
    intro t acc ht h0 h1 Q H
    refine bk_X13_countThings_4 X 577 i k a acc t eNT e ewP h Q ?_
    rw [if_pos mk577, m_of hi (by decide), show (2 : Int).toNat = 2 from rfl, hn, if_pos (by omega), if_pos mk577, m_is0 hi (by omega)]
    simp only [m_is3 hi (show t < 5 by omega), mk577, ite_true, wi1 (show t < 1000 by omega)]
    rw [wrn (x := acc + 1) (by omega) (by omega), wrn (x := acc + 0) (by omega) (by omega)]
    simp only [sumF] at H
    unfold mCt at H
    have g1 := ih (t + 1) (acc + 1) (by omega) (by omega) (by omega) Q
    have g0 := ih (t + 1) (acc + 0) (by omega) (by omega) (by omega) Q
    rw [Int.add_assoc] at g1 g0
    by_cases q : wW (h 578) i (5 + 4 * t) = k
    · rw [if_pos q] at H ⊢
      by_cases q2 : a = 0
      · rw [if_pos q2] at H ⊢
        exact g1 H
      · rw [if_neg q2] at H ⊢
        by_cases q3 : wW (h 578) i (8 + 4 * t) = 1
        · rw [if_pos q3] at H ⊢
          exact g1 H
        · rw [if_neg q3] at H ⊢
          exact g0 H
    · rw [if_neg q] at H ⊢
      exact g0 H
theorem m_countThings {i n : Nat} {k a : Int} (hi : i < 8) (hn : wW (h 578) i 2 = n) (h5 : n ≤ 5) (KI KX) : eCi X m_X13_countThings [vR 577, vI i, vI k, vI a] eNT e ewP h KI KX = KI (sumF (mCt (wW (h 578) i) k a) 0 n) eNT e ewP h := by
  refine eCi_eq X (fun Q H => ?_) KI KX
  refine bk_X13_countThings_0 X 577 i k a eNT e ewP h Q ?_
  refine lp_countThings hi hn h5 n 0 0 (by omega) (by omega) (by omega) Q ?_
  rw [Int.zero_add]
  exact H
theorem mCt_c {f : Nat → Int} {k : Int} {n : Nat} : sumF (mCt f k 0) 0 n = fCnt f k n := by
  unfold fCnt
  refine sumF_congr n 0 (fun t _ _ => ?_)
  unfold mCt
  simp
theorem mCt_a {f : Nat → Int} {n : Nat} (hf : wOk f n) : sumF (mCt f 1 1) 0 n = fFrg f 1 n := by
  unfold fFrg
  refine sumF_congr n 0 (fun t _ ht => ?_)
  obtain ⟨-, -, -, -, h5⟩ := hf
  obtain ⟨-, -, -, -, h6, -⟩ := h5 t (by omega)
  unfold mCt sFrg
  simp only [show ¬ (1 : Int) = 0 by decide, ite_false]
  rcases h6 with h6 | h6 <;> simp [h6]
theorem sumF_sub {f g k : Nat → Int} : ∀ n i, (∀ t, i ≤ t → t < i + n → f t - g t = k t) → sumF f i n - sumF g i n = sumF k i n := by
  intro n
  induction n with
  | zero => intro i _; simp [sumF]
  | succ n ih =>
    intro i q
    have h1 := q i (Nat.le_refl _) (by omega)
    have h2 := ih (i + 1) (fun t a b => q t (by omega) (by omega))
    simp only [sumF]
    omega
theorem sFrg01 {kf af : Nat → Int} {a : Int} (t : Nat) : 0 ≤ sFrg kf af a t ∧ sFrg kf af a t ≤ 1 := by
  unfold sFrg
  split
  · split <;> omega
  · omega
theorem mCt01 {f : Nat → Int} {k a : Int} (t : Nat) : 0 ≤ mCt f k a t ∧ mCt f k a t ≤ 1 := by
  unfold mCt
  split
  · split
    · omega
    · split <;> omega
  · omega
theorem m_asleepIn {i n : Nat} (hi : i < 8) (hf : wOk (wW (h 578) i) n) (KI KX) : eCi X m_X13_asleepIn [vR 577, vI i] eNT e ewP h KI KX = KI (fFrg (wW (h 578) i) 0 n) eNT e ewP h := by
  refine eCi_eq X (fun Q H => ?_) KI KX
  refine bk_X13_asleepIn_0 X 577 i eNT e ewP h Q ?_
  obtain ⟨h5, hn, -, -, h6⟩ := id hf
  rw [if_pos mk577, m_countThings hi hn h5, if_pos mk577, m_countThings hi hn h5]
  have b1 := sumF_le (fun t => (mCt01 (f := wW (h 578) i) (k := 1) (a := 0) t).1) (fun t => (mCt01 t).2) n 0
  have b2 := sumF_le (fun t => (mCt01 (f := wW (h 578) i) (k := 1) (a := 1) t).1) (fun t => (mCt01 t).2) n 0
  have e1 : sumF (mCt (wW (h 578) i) 1 0) 0 n - sumF (mCt (wW (h 578) i) 1 1) 0 n = fFrg (wW (h 578) i) 0 n := by
    unfold fFrg
    refine sumF_sub n 0 (fun t _ ht => ?_)
    obtain ⟨-, -, -, -, h7, -⟩ := h6 t (by omega)
    unfold mCt sFrg
    simp only [show ¬ (1 : Int) = 0 by decide, ite_false, ite_true]
    by_cases q : wW (h 578) i (5 + 4 * t) = 1
    · rcases h7 with h7 | h7 <;> simp [h7, q]
    · simp [q]
  rw [wrn (by omega) (by omega), e1]
  exact H
theorem lp_placeOf2 {i n t : Nat} (hi : i < 8) (hn : wW (h 578) i 2 = n) (h5 : n ≤ 5) (ht : t < 5) : ∀ (j s : Nat) (acc : Int) (j5 : eV), s + j = n → 0 ≤ acc → acc ≤ s → ∀ Q, Q (.inl (some (vI (acc + sumF (sAb (fun t => wW (h 578) i (6 + 4 * t)) t) s j)))) (eNT, e, ewP, h) → eP X m_X13_placeOf 4 [vR 577, vI i, vI t, vI acc, vI s, j5] [] (eNT, e, ewP, h) Q := by
  intro j
  induction j with
  | zero =>
    intro s acc j5 hs h0 h1 Q H
    refine bk_X13_placeOf_4 X 577 i t acc s j5 eNT e ewP h Q ?_
    rw [if_pos mk577, m_of hi (by decide), show (2 : Int).toNat = 2 from rfl, hn, if_neg (by omega)]
    simpa [sumF] using H
  | succ j ih =>
    intro s acc j5 hs h0 h1 Q H
    refine bk_X13_placeOf_4 X 577 i t acc s j5 eNT e ewP h Q ?_
    rw [if_pos mk577, m_of hi (by decide), show (2 : Int).toNat = 2 from rfl, hn, if_pos (by omega)]
    simp only [m_is1 hi (show s < 5 by omega), m_is1 hi ht, mk577, ite_true, wi1 (show s < 1000 by omega), show ((1 : Int) = 0) = False by decide, ite_false]
    rw [wrn (x := acc + 1) (by omega) (by omega), wrn (x := acc + 0) (by omega) (by omega)]
    simp only [sumF, sAb] at H
    have g1 := fun j5 => ih (s + 1) (acc + 1) j5 (by omega) (by omega) (by omega) Q
    have g0 := fun j5 => ih (s + 1) (acc + 0) j5 (by omega) (by omega) (by omega) Q
    simp only [Int.add_assoc] at g1 g0
    by_cases q : wW (h 578) i (6 + 4 * s) < wW (h 578) i (6 + 4 * t)
    · rw [if_pos (Or.inl q)] at H
      rw [if_pos q]
      exact g1 _ H
    · rw [if_neg q]
      by_cases q2 : wW (h 578) i (6 + 4 * s) = wW (h 578) i (6 + 4 * t)
      · rw [if_pos q2]
        by_cases q3 : s < t
        · rw [if_pos (Or.inr ⟨q2, q3⟩)] at H
          rw [if_pos (by omega)]
          exact g1 _ H
        · rw [if_neg (fun r => by rcases r with r | r <;> omega)] at H
          rw [if_neg (by omega)]
          exact g0 _ H
      · rw [if_neg q2]
        rw [if_neg (fun r => by rcases r with r | r <;> omega)] at H
        exact g0 _ H
theorem m_placeOf {i n t : Nat} (hi : i < 8) (hn : wW (h 578) i 2 = n) (h5 : n ≤ 5) (ht : t < 5) (KI KX) : eCi X m_X13_placeOf [vR 577, vI i, vI t] eNT e ewP h KI KX = KI (fPl (wW (h 578) i) n t) eNT e ewP h := by
  refine eCi_eq X (fun Q H => ?_) KI KX
  refine bk_X13_placeOf_0 X 577 i t eNT e ewP h Q ?_
  refine lp_placeOf2 hi hn h5 ht n 0 0 _ (by omega) (by omega) (by omega) Q ?_
  rw [Int.zero_add]
  exact H
theorem lp_thingAt2 {i n t0 : Nat} {pl : Int} (hi : i < 8) (hn : wW (h 578) i 2 = n) (h5 : n ≤ 5) : ∀ (j s : Nat), s + j = n → fstF (fun t => fPl (wW (h 578) i) n t = pl) s j = (t0 : Int) → ∀ Q, Q (.inl (some (vI t0))) (eNT, e, ewP, h) → eP X m_X13_thingAt 2 [vR 577, vI i, vI pl, vI s] [] (eNT, e, ewP, h) Q := by
  intro j
  induction j with
  | zero =>
    intro s hs hf Q H
    simp only [fstF] at hf
    omega
  | succ j ih =>
    intro s hs hf Q H
    refine bk_X13_thingAt_2 X 577 i pl s eNT e ewP h Q ?_
    rw [if_pos mk577, m_placeOf hi hn h5 (by omega), wi1 (by omega)]
    simp only [fstF] at hf
    by_cases q : fPl (wW (h 578) i) n s = pl
    · rw [if_pos q] at hf ⊢
      rw [hf]
      exact H
    · rw [if_neg q] at hf ⊢
      exact ih (s + 1) (by omega) hf Q H
theorem m_thingAt {i n t0 : Nat} {pl : Int} (hi : i < 8) (hn : wW (h 578) i 2 = n) (h5 : n ≤ 5) (hf : fAt (wW (h 578) i) n pl = (t0 : Int)) (KI KX) : eCi X m_X13_thingAt [vR 577, vI i, vI pl] eNT e ewP h KI KX = KI t0 eNT e ewP h := by
  refine eCi_eq X (fun Q H => ?_) KI KX
  refine bk_X13_thingAt_0 X 577 i pl eNT e ewP h Q ?_
  exact lp_thingAt2 hi hn h5 n 0 (by omega) hf Q H
theorem lp_timeOf {i n : Nat} (hi : i < 8) (hf : wOk (wW (h 578) i) n) : ∀ (j s : Nat) (acc : Int), s + j = n → 0 ≤ acc → acc ≤ 100 + 300 * s → ∀ Q, Q (.inl (some (vI (acc + 2 * sumF (sThk (fun t => wW (h 578) i (5 + 4 * t)) (fun t => wW (h 578) i (7 + 4 * t))) s j)))) (eNT, e, ewP, h) → eP X m_X13_timeOf 17 [vR 577, vI i, vI acc, vI s] [] (eNT, e, ewP, h) Q := by
  obtain ⟨h5, hn, -, -, h6⟩ := id hf
  intro j
  induction j with
  | zero =>
    intro s acc hs h0 h1 Q H
    refine bk_X13_timeOf_17 X 577 i acc s eNT e ewP h Q ?_
    rw [if_pos mk577, m_of hi (by decide), show (2 : Int).toNat = 2 from rfl, hn, if_neg (by omega)]
    simpa [sumF] using H
  | succ j ih =>
    intro s acc hs h0 h1 Q H
    refine bk_X13_timeOf_17 X 577 i acc s eNT e ewP h Q ?_
    rw [if_pos mk577, m_of hi (by decide), show (2 : Int).toNat = 2 from rfl, hn, if_pos (by omega), if_pos mk577, m_is0 hi (by omega), if_pos mk577, m_is2 hi (by omega), wi1 (by omega)]
    obtain ⟨-, -, -, h7, -⟩ := h6 s (by omega)
    simp only [sumF, sThk] at H
    by_cases q : wW (h 578) i (5 + 4 * s) = 2
    · rw [if_pos q] at H ⊢
      have h8 := h7 (by omega)
      rw [wrn (x := 2 * _) (by omega) (by omega), wrn (by omega) (by omega)]
      refine ih (s + 1) _ (by omega) (by omega) (by omega) Q ?_
      rw [Int.mul_add, ← Int.add_assoc] at H
      exact H
    · rw [if_neg q] at H ⊢
      rw [wrn (by omega) (by omega)]
      refine ih (s + 1) _ (by omega) (by omega) (by omega) Q ?_
      rw [Int.zero_add] at H
      rw [Int.add_zero]
      exact H
theorem m_timeOf {i n : Nat} (hi : i < 8) (hf : wOk (wW (h 578) i) n) (KI KX) : eCi X m_X13_timeOf [vR 577, vI i] eNT e ewP h KI KX = KI (fTime (wW (h 578) i) n) eNT e ewP h := by
  refine eCi_eq X (fun Q H => ?_) KI KX
  refine bk_X13_timeOf_0 X 577 i eNT e ewP h Q ?_
  obtain ⟨h5, hn, hd, -, h6⟩ := id hf
  rw [if_pos mk577, m_of hi (by decide), if_pos mk577, m_countThings hi hn h5, mCt_a hf, show (0 : Int).toNat = 0 from rfl]
  have b : 0 ≤ fFrg (wW (h 578) i) 1 n ∧ fFrg (wW (h 578) i) 1 n ≤ n * 1 := sumF_le (fun t => (sFrg01 t).1) (fun t => (sFrg01 t).2) n 0
  rw [wrn (x := 2 * _) (by omega) (by omega), wrn (x := 3 * _) (by omega) (by omega), wrn (by omega) (by omega)]
  refine lp_timeOf hi hf n 0 _ (by omega) (by omega) (by omega) Q ?_
  rw [show fTime (wW (h 578) i) n = 2 * wW (h 578) i 0 + 3 * fFrg (wW (h 578) i) 1 n + 2 * sumF (sThk (fun t => wW (h 578) i (5 + 4 * t)) (fun t => wW (h 578) i (7 + 4 * t))) 0 n by unfold fTime sTime fFrg; omega] at H
  exact H
/-- the first coin in the order of places -/
def rchF (f : Nat → Int) (n : Nat) (len : Int) : Nat → Nat → Int
  | _, 0 => -1
  | p, k + 1 => if f (5 + 4 * (fAt f n p).toNat) = 0 then (if f (6 + 4 * (fAt f n p).toNat) ≤ len then fAt f n p else -1) else rchF f n len (p + 1) k
theorem lp_reached {i n r : Nat} (hi : i < 8) (hr : r < 3) (hn : wW (h 578) i 2 = n) (h5 : n ≤ 5) (hp : ∀ p : Nat, p < n → ∃ t, t < n ∧ fAt (wW (h 578) i) n p = ((t : Nat) : Int)) : ∀ (j p : Nat) (j4 : eV), p + j = n → ∀ Q, Q (.inl (some (vI (rchF (wW (h 578) i) n (h 578 (55 + 3 * r)) p j)))) (eNT, e, ewP, h) → eP X m_X13_reached 6 [vR 577, vI r, vI i, vI p, j4] [] (eNT, e, ewP, h) Q := by
  intro j
  induction j with
  | zero =>
    intro p j4 hs Q H
    refine bk_X13_reached_6 X 577 r i p j4 eNT e ewP h Q ?_
    rw [if_pos mk577, m_of hi (by decide), show (2 : Int).toNat = 2 from rfl, hn, if_neg (by omega)]
    exact H
  | succ j ih =>
    intro p j4 hs Q H
    refine bk_X13_reached_6 X 577 r i p j4 eNT e ewP h Q ?_
    obtain ⟨t, ht, hf⟩ := hp p (by omega)
    have hr0 := m_ropeIs (X := X) (e := e) (h := h) hr (show 0 < 3 by decide)
    simp only [Int.natCast_zero, Nat.add_zero] at hr0
    rw [if_pos mk577, m_of hi (by decide), show (2 : Int).toNat = 2 from rfl, hn, if_pos (by omega), if_pos mk577, m_thingAt hi hn h5 hf]
    simp only [m_is0 hi (show t < 5 by omega), m_is1 hi (show t < 5 by omega), hr0, mk577, ite_true, wi1 (show p < 1000 by omega)]
    simp only [rchF, hf, Int.toNat_natCast] at H
    by_cases q : wW (h 578) i (5 + 4 * t) = 0
    · rw [if_pos q] at H ⊢
      by_cases q2 : wW (h 578) i (6 + 4 * t) ≤ h 578 (55 + 3 * r)
      · rw [if_pos q2] at H ⊢
        exact H
      · rw [if_neg q2] at H ⊢
        exact H
    · rw [if_neg q] at H ⊢
      exact ih (p + 1) _ (by omega) Q H
theorem m_reached {i n r : Nat} (hi : i < 8) (hr : r < 3) (hn : wW (h 578) i 2 = n) (h5 : n ≤ 5) (hb : h 578 (56 + 3 * r) = (i : Int) + 1) (hp : ∀ p : Nat, p < n → ∃ t, t < n ∧ fAt (wW (h 578) i) n p = ((t : Nat) : Int)) (KI KX) : eCi X m_X13_reached [vR 577, vI r] eNT e ewP h KI KX = KI (rchF (wW (h 578) i) n (h 578 (55 + 3 * r)) 0 n) eNT e ewP h := by
  refine eCi_eq X (fun Q H => ?_) KI KX
  refine bk_X13_reached_0 X 577 r eNT e ewP h Q ?_
  rw [if_pos mk577, m_boundTo hr (by omega), hb, show (i : Int) + 1 - 1 = i by omega]
  exact lp_reached hi hr hn h5 hp n 0 _ (by omega) Q H
theorem lp_ropesAt {m : Nat} {x : Int} (h3 : m ≤ 3) (hm : h 578 1 = m) (hb : ∀ r, r < m → 0 ≤ h 578 (56 + 3 * r) ∧ h 578 (56 + 3 * r) ≤ 8) : ∀ (j r : Nat) (acc : Int), r + j = m → 0 ≤ acc → acc ≤ r → ∀ Q, Q (.inl (some (vI (acc + sumF (fun r => if h 578 (56 + 3 * r) - 1 = x then 1 else 0) r j)))) (eNT, e, ewP, h) → eP X m_X13_ropesAt 4 [vR 577, vI x, vI acc, vI r] [] (eNT, e, ewP, h) Q := by
  intro j
  induction j with
  | zero =>
    intro r acc hs h0 h1 Q H
    refine bk_X13_ropesAt_4 X 577 x acc r eNT e ewP h Q ?_
    simp only [mk577, mk578, mk579, mk580, mk581, mk582, mk583, mk584, mk585, mk586, mk587, mn578, mn579, mn580, mn581, mn582, mn583, mn584, mn585, mn586, mn587, mp578, mp579, mp580, mp581, mp582, mp583, mp584, mp585, mp586, mp587, ite_true, true_and, and_true]
    rw [if_pos (by decide), show (1 : Int).toNat = 1 from rfl, if_neg (by omega)]
    simpa [sumF] using H
  | succ j ih =>
    intro r acc hs h0 h1 Q H
    refine bk_X13_ropesAt_4 X 577 x acc r eNT e ewP h Q ?_
    simp only [mk577, mk578, mk579, mk580, mk581, mk582, mk583, mk584, mk585, mk586, mk587, mn578, mn579, mn580, mn581, mn582, mn583, mn584, mn585, mn586, mn587, mp578, mp579, mp580, mp581, mp582, mp583, mp584, mp585, mp586, mp587, ite_true, true_and, and_true]
    rw [if_pos (by decide), show (1 : Int).toNat = 1 from rfl, if_pos (by omega), m_boundTo (by omega) (hb r (by omega)), wi1 (by omega), wrn (x := acc + 1) (by omega) (by omega), wrn (x := acc + 0) (by omega) (by omega)]
    simp only [sumF] at H
    have g1 := ih (r + 1) (acc + 1) (by omega) (by omega) (by omega) Q
    have g0 := ih (r + 1) (acc + 0) (by omega) (by omega) (by omega) Q
    rw [Int.add_assoc] at g1 g0
    by_cases q : h 578 (56 + 3 * r) - 1 = x
    · rw [if_pos q] at H ⊢
      exact g1 H
    · rw [if_neg q] at H ⊢
      exact g0 H
theorem m_ropesAt {m : Nat} {x : Int} (h3 : m ≤ 3) (hm : h 578 1 = m) (hb : ∀ r, r < m → 0 ≤ h 578 (56 + 3 * r) ∧ h 578 (56 + 3 * r) ≤ 8) (KI KX) : eCi X m_X13_ropesAt [vR 577, vI x] eNT e ewP h KI KX = KI (sumF (fun r => if h 578 (56 + 3 * r) - 1 = x then 1 else 0) 0 m) eNT e ewP h := by
  refine eCi_eq X (fun Q H => ?_) KI KX
  refine bk_X13_ropesAt_0 X 577 x eNT e ewP h Q ?_
  refine lp_ropesAt h3 hm hb m 0 0 (by omega) (by omega) (by omega) Q ?_
  rw [Int.zero_add]
  exact H
theorem lp_asleep {m : Nat} {N : Nat → Nat} (h8 : m ≤ 8) (hm : h 578 0 = m) (hw : ∀ i, i < m → wOk (wW (h 578) i) (N i)) : ∀ (j i : Nat) (acc : Int), i + j = m → 0 ≤ acc → acc ≤ 5 * i → ∀ Q, Q (.inl (some (vI (acc + sumF (fun i => fFrg (wW (h 578) i) 0 (N i)) i j)))) (eNT, e, ewP, h) → eP X m_X13_asleep 4 [vR 577, vI acc, vI i] [] (eNT, e, ewP, h) Q := by
  intro j
  induction j with
  | zero =>
    intro r acc hs h0 h1 Q H
    refine bk_X13_asleep_4 X 577 acc r eNT e ewP h Q ?_
    simp only [mk577, mk578, mk579, mk580, mk581, mk582, mk583, mk584, mk585, mk586, mk587, mn578, mn579, mn580, mn581, mn582, mn583, mn584, mn585, mn586, mn587, mp578, mp579, mp580, mp581, mp582, mp583, mp584, mp585, mp586, mp587, ite_true, true_and, and_true]
    rw [if_pos (by decide), show (0 : Int).toNat = 0 from rfl, if_neg (by omega)]
    simpa [sumF] using H
  | succ j ih =>
    intro r acc hs h0 h1 Q H
    refine bk_X13_asleep_4 X 577 acc r eNT e ewP h Q ?_
    simp only [mk577, mk578, mk579, mk580, mk581, mk582, mk583, mk584, mk585, mk586, mk587, mn578, mn579, mn580, mn581, mn582, mn583, mn584, mn585, mn586, mn587, mp578, mp579, mp580, mp581, mp582, mp583, mp584, mp585, mp586, mp587, ite_true, true_and, and_true]
    have hf := hw r (by omega)
    have b : 0 ≤ fFrg (wW (h 578) r) 0 (N r) ∧ fFrg (wW (h 578) r) 0 (N r) ≤ N r * 1 := sumF_le (fun t => (sFrg01 t).1) (fun t => (sFrg01 t).2) (N r) 0
    have h5 := hf.1
    rw [if_pos (by decide), show (0 : Int).toNat = 0 from rfl, if_pos (by omega), m_asleepIn (by omega) hf, wi1 (by omega), wrn (by omega) (by omega)]
    simp only [sumF] at H
    refine ih (r + 1) _ (by omega) (by omega) (by omega) Q ?_
    rw [← Int.add_assoc] at H
    exact H
theorem m_asleep {m : Nat} {N : Nat → Nat} (h8 : m ≤ 8) (hm : h 578 0 = m) (hw : ∀ i, i < m → wOk (wW (h 578) i) (N i)) (KI KX) : eCi X m_X13_asleep [vR 577] eNT e ewP h KI KX = KI (sumF (fun i => fFrg (wW (h 578) i) 0 (N i)) 0 m) eNT e ewP h := by
  refine eCi_eq X (fun Q H => ?_) KI KX
  refine bk_X13_asleep_0 X 577 eNT e ewP h Q ?_
  refine lp_asleep h8 hm hw m 0 0 (by omega) (by omega) (by omega) Q ?_
  rw [Int.zero_add]
  exact H
end
