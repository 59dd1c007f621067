/-! the class's wells: what is asked of them -/
section
variable {X : eX} {e : Nat} {h : Nat → Nat → Int}
theorem c_kindOf {c t : Nat} (hc : ewK c = 10) (ht : t < 5) (KI KX) : eCi X m_X10_kindOf [vR c, vI t] eNT e ewP h KI KX = KI (h (c + 1) t) eNT e ewP h := by
  refine eCi_eq X (fun Q H => ?_) KI KX
  refine bk_X10_kindOf_0 X c t eNT e ewP h Q ?_
  obtain ⟨k0, p0, p1, p2, p3, k1, k2, k3, k4, n1, n2, n3, n4⟩ := w10 hc
  simp only [k0, p0, k1, n1, ite_true, Nat.le_refl, Int.toNat_natCast]
  rw [if_neg (by omega), if_pos (by omega), if_pos ⟨trivial, by omega, by omega⟩]
  exact H
theorem c_depthOf {c t : Nat} (hc : ewK c = 10) (ht : t < 5) (KI KX) : eCi X m_X10_depthOf [vR c, vI t] eNT e ewP h KI KX = KI (h (c + 2) t) eNT e ewP h := by
  refine eCi_eq X (fun Q H => ?_) KI KX
  refine bk_X10_depthOf_0 X c t eNT e ewP h Q ?_
  obtain ⟨k0, p0, p1, p2, p3, k1, k2, k3, k4, n1, n2, n3, n4⟩ := w10 hc
  simp only [k0, p1, k2, n2, ite_true, Nat.le_refl, Int.toNat_natCast]
  rw [if_neg (by omega), if_pos (by omega), if_pos ⟨trivial, by omega, by omega⟩]
  exact H
theorem c_valueOf {c t : Nat} (hc : ewK c = 10) (ht : t < 5) (KI KX) : eCi X m_X10_valueOf [vR c, vI t] eNT e ewP h KI KX = KI (h (c + 3) t) eNT e ewP h := by
  refine eCi_eq X (fun Q H => ?_) KI KX
  refine bk_X10_valueOf_0 X c t eNT e ewP h Q ?_
  obtain ⟨k0, p0, p1, p2, p3, k1, k2, k3, k4, n1, n2, n3, n4⟩ := w10 hc
  simp only [k0, p2, k3, n3, ite_true, Nat.le_refl, Int.toNat_natCast]
  rw [if_neg (by omega), if_pos (by omega), if_pos ⟨trivial, by omega, by omega⟩]
  exact H
theorem c_isAwake {c t : Nat} (hc : ewK c = 10) (ht : t < 5) (KI KX) : eCi X m_X10_isAwake [vR c, vI t] eNT e ewP h KI KX = KI (if h (c + 4) t = 0 then 0 else 1) eNT e ewP h := by
  refine eCi_eq X (fun Q H => ?_) KI KX
  refine bk_X10_isAwake_0 X c t eNT e ewP h Q ?_
  obtain ⟨k0, p0, p1, p2, p3, k1, k2, k3, k4, n1, n2, n3, n4⟩ := w10 hc
  simp only [k0, p3, k4, n4, ite_true, Int.toNat_natCast]
  rw [if_neg (by omega), if_pos (by decide), if_pos (by omega), if_pos ⟨trivial, by omega, by omega⟩]
  by_cases a : h (c + 4) t = 0
  · rw [if_pos a] at H ⊢
    exact H
  · rw [if_neg a] at H ⊢
    exact H
theorem c_hasThing {c : Nat} {i : Int} (hc : ewK c = 10) (KI KX) : eCi X m_X10_hasThing [vR c, vI i] eNT e ewP h KI KX = KI (if 0 ≤ i ∧ i < h c 4 then 1 else 0) eNT e ewP h := by
  refine eCi_eq X (fun Q H => ?_) KI KX
  refine bk_X10_hasThing_0 X c i eNT e ewP h Q ?_
  obtain ⟨k0, -⟩ := w10 hc
  simp only [k0, ite_true]
  by_cases a : i < 0
  · rw [if_pos a]
    rw [if_neg (by omega)] at H
    exact H
  · rw [if_neg a]
    by_cases a2 : i < h c 4
    · rw [if_pos a2]
      rw [if_pos (by omega)] at H
      exact H
    · rw [if_neg a2]
      rw [if_neg (by omega)] at H
      exact H
/-- how many things of a kind -/
def wCnt (h : Nat → Nat → Int) (c : Nat) (k : Int) (n : Nat) : Int := sumF (fun t => if h (c + 1) t = k then 1 else 0) 0 n
theorem lp_countOf {c n : Nat} {k : Int} (hc : ewK c = 10) (hn : h c 4 = (n : Int)) (h5 : n ≤ 5) : ∀ (j i : Nat) (acc : Int), i + j = n → 0 ≤ acc → acc ≤ i → ∀ Q, Q (.inl (some (vI (acc + sumF (fun t => if h (c + 1) t = k then 1 else 0) i j)))) (eNT, e, ewP, h) → eP X m_X10_countOf 4 [vR c, vI k, vI acc, vI i] [] (eNT, e, ewP, h) Q := by
  obtain ⟨k0, -⟩ := w10 hc
  intro j
  induction j with
  | zero =>
    intro i acc hi h0 h1 Q H
    refine bk_X10_countOf_4 X c k acc i eNT e ewP h Q ?_
    simp only [k0, ite_true]
    rw [if_neg (by omega)]
    simpa [sumF] using H
  | succ j ih =>
    intro i acc hi h0 h1 Q H
    refine bk_X10_countOf_4 X c k acc i eNT e ewP h Q ?_
    simp only [k0, ite_true]
    rw [if_pos (by omega), c_kindOf hc (by omega)]
    have e1 : wr ((i : Int) + 1) = ((i + 1 : Nat) : Int) := by rw [wrn (by omega) (by omega)]; omega
    rw [e1]
    simp only [sumF] at H
    split
    next a =>
      rw [if_pos a] at H
      rw [wrn (by omega) (by omega)]
      refine ih (i + 1) (acc + 1) (by omega) (by omega) (by omega) Q ?_
      rw [Int.add_assoc]
      exact H
    next a =>
      rw [if_neg a, Int.zero_add] at H
      exact ih (i + 1) acc (by omega) (by omega) (by omega) Q H
theorem c_countOf {c n : Nat} {k : Int} (hc : ewK c = 10) (hn : h c 4 = (n : Int)) (h5 : n ≤ 5) (KI KX) : eCi X m_X10_countOf [vR c, vI k] eNT e ewP h KI KX = KI (wCnt h c k n) eNT e ewP h := by
  refine eCi_eq X (fun Q H => ?_) KI KX
  refine bk_X10_countOf_0 X c k eNT e ewP h Q ?_
  refine lp_countOf hc hn h5 n 0 0 (by omega) (by omega) (by omega) Q ?_
  rw [Int.zero_add]
  exact H
theorem wi1 {i : Nat} (hi : i < 1000) : wr ((i : Int) + 1) = ((i + 1 : Nat) : Int) := by rw [wrn (by omega) (by omega)]; omega
def sFrg (kf af : Nat → Int) (a : Int) (t : Nat) : Int := if kf t = 1 then (if (if af t = 0 then (0 : Int) else 1) = a then 1 else 0) else 0
theorem lp_countOfFrogs {c n : Nat} {a : Int} (hc : ewK c = 10) (hn : h c 4 = (n : Int)) (h5 : n ≤ 5) : ∀ (j i : Nat) (acc : Int), i + j = n → 0 ≤ acc → acc ≤ i → ∀ Q, Q (.inl (some (vI (acc + sumF (sFrg (h (c + 1)) (h (c + 4)) a) i j)))) (eNT, e, ewP, h) → eP X m_X10_countOfFrogs 4 [vR c, vI a, vI acc, vI i] [] (eNT, e, ewP, h) Q := by
  obtain ⟨k0, -⟩ := w10 hc
  intro j
  induction j with
  | zero =>
    intro i acc hi h0 h1 Q H
    refine bk_X10_countOfFrogs_4 X c a acc i eNT e ewP h Q ?_
    simp only [k0, ite_true]
    rw [if_neg (by omega)]
    simpa [sumF] using H
  | succ j ih =>
    intro i acc hi h0 h1 Q H
    refine bk_X10_countOfFrogs_4 X c a acc i eNT e ewP h Q ?_
    simp only [k0, ite_true]
    rw [if_pos (by omega), c_kindOf hc (by omega), c_isAwake hc (by omega)]
    rw [wi1 (by omega)]
    simp only [sumF, sFrg, k0, ite_true] at H ⊢
    by_cases a1 : h (c + 1) i = 1
    · rw [if_pos a1] at H ⊢
      by_cases a2 : (if h (c + 4) i = 0 then (0 : Int) else 1) = a
      · rw [if_pos a2] at H ⊢
        rw [wrn (by omega) (by omega)]
        refine ih (i + 1) (acc + 1) (by omega) (by omega) (by omega) Q ?_
        rw [Int.add_assoc]
        exact H
      · rw [if_neg a2] at H ⊢
        rw [Int.zero_add] at H
        exact ih (i + 1) acc (by omega) (by omega) (by omega) Q H
    · rw [if_neg a1] at H ⊢
      rw [Int.zero_add] at H
      exact ih (i + 1) acc (by omega) (by omega) (by omega) Q H
theorem c_countOfFrogs {c n : Nat} {a : Int} (hc : ewK c = 10) (hn : h c 4 = (n : Int)) (h5 : n ≤ 5) (KI KX) : eCi X m_X10_countOfFrogs [vR c, vI a] eNT e ewP h KI KX = KI (sumF (sFrg (h (c + 1)) (h (c + 4)) a) 0 n) eNT e ewP h := by
  refine eCi_eq X (fun Q H => ?_) KI KX
  refine bk_X10_countOfFrogs_0 X c a eNT e ewP h Q ?_
  refine lp_countOfFrogs hc hn h5 n 0 0 (by omega) (by omega) (by omega) Q ?_
  rw [Int.zero_add]
  exact H
/-- whether a thing lies above another -/
def sAb (df : Nat → Int) (t s : Nat) : Int := if df s < df t ∨ (df s = df t ∧ s < t) then 1 else 0
theorem lp_placeOf {c n t : Nat} (hc : ewK c = 10) (hn : h c 4 = (n : Int)) (h5 : n ≤ 5) : ∀ (j i : Nat) (acc : Int), i + j = n → 0 ≤ acc → acc ≤ i → ∀ Q, Q (.inl (some (vI (acc + sumF (sAb (h (c + 2)) t) i j)))) (eNT, e, ewP, h) → eP X m_X10_placeOf 8 [vR c, vI t, vI (h (c + 2) t), vI acc, vI i] [] (eNT, e, ewP, h) Q := by
  obtain ⟨k0, p0, p1, p2, p3, k1, k2, k3, k4, n1, n2, n3, n4⟩ := w10 hc
  intro j
  induction j with
  | zero =>
    intro i acc hi h0 h1 Q H
    refine bk_X10_placeOf_8 X c t (h (c + 2) t) acc i eNT e ewP h Q ?_
    simp only [k0, ite_true]
    rw [if_neg (by omega)]
    simpa [sumF] using H
  | succ j ih =>
    intro i acc hi h0 h1 Q H
    refine bk_X10_placeOf_8 X c t (h (c + 2) t) acc i eNT e ewP h Q ?_
    have g1 : True ∧ (0 : Int) ≤ (i : Int) ∧ (i : Int) < ((5 : Nat) : Int) := ⟨trivial, by omega, by omega⟩
    simp only [k0, p1, k2, n2, ite_true, Int.toNat_natCast, if_pos g1]
    rw [if_pos (by omega), if_pos (by decide), if_pos (by omega), wi1 (by omega)]
    simp only [sumF, sAb] at H
    by_cases a1 : h (c + 2) i < h (c + 2) t
    · rw [if_pos a1]
      rw [if_pos (Or.inl a1)] at H
      rw [wrn (by omega) (by omega)]
      refine ih (i + 1) (acc + 1) (by omega) (by omega) (by omega) Q ?_
      rw [Int.add_assoc]
      exact H
    · rw [if_neg a1]
      by_cases a2 : h (c + 2) i = h (c + 2) t
      · rw [if_pos a2]
        by_cases a3 : i < t
        · rw [if_pos (by omega)]
          rw [if_pos (Or.inr ⟨a2, a3⟩)] at H
          rw [wrn (by omega) (by omega)]
          refine ih (i + 1) (acc + 1) (by omega) (by omega) (by omega) Q ?_
          rw [Int.add_assoc]
          exact H
        · rw [if_neg (by omega)]
          rw [if_neg (fun z => z.elim a1 (fun z => a3 z.2)), Int.zero_add] at H
          exact ih (i + 1) acc (by omega) (by omega) (by omega) Q H
      · rw [if_neg a2]
        rw [if_neg (fun z => z.elim a1 (fun z => a2 z.1)), Int.zero_add] at H
        exact ih (i + 1) acc (by omega) (by omega) (by omega) Q H
/-- how many of n things lie above one -/
def sPl (df : Nat → Int) (n t : Nat) : Int := sumF (sAb df t) 0 n
theorem c_placeOf {c n t : Nat} (hc : ewK c = 10) (hn : h c 4 = (n : Int)) (h5 : n ≤ 5) (ht : t < 5) (KI KX) : eCi X m_X10_placeOf [vR c, vI t] eNT e ewP h KI KX = KI (sPl (h (c + 2)) n t) eNT e ewP h := by
  obtain ⟨k0, -⟩ := w10 hc
  refine eCi_eq X (fun Q H => ?_) KI KX
  refine bk_X10_placeOf_0 X c t eNT e ewP h Q ?_
  simp only [k0, ite_true]
  rw [c_depthOf hc ht]
  refine lp_placeOf hc hn h5 n 0 0 (by omega) (by omega) (by omega) Q ?_
  rw [Int.zero_add]
  exact H
/-- the first place of k from i on at which f holds, else -1 -/
def fstF (f : Nat → Prop) [DecidablePred f] : Nat → Nat → Int
  | _, 0 => -1
  | i, k + 1 => if f i then (i : Int) else fstF f (i + 1) k
theorem lp_thingAt {c n : Nat} {pl : Int} (hc : ewK c = 10) (hn : h c 4 = (n : Int)) (h5 : n ≤ 5) : ∀ (j i : Nat), i + j = n → ∀ Q, Q (.inl (some (vI (fstF (fun t => sPl (h (c + 2)) n t = pl) i j)))) (eNT, e, ewP, h) → eP X m_X10_thingAt 2 [vR c, vI pl, vI i] [] (eNT, e, ewP, h) Q := by
  obtain ⟨k0, -⟩ := w10 hc
  intro j
  induction j with
  | zero =>
    intro i hi Q H
    refine bk_X10_thingAt_2 X c pl i eNT e ewP h Q ?_
    simp only [k0, ite_true]
    rw [if_neg (by omega)]
    exact H
  | succ j ih =>
    intro i hi Q H
    refine bk_X10_thingAt_2 X c pl i eNT e ewP h Q ?_
    simp only [k0, ite_true]
    rw [if_pos (by omega), c_placeOf hc hn h5 (by omega), wi1 (by omega)]
    simp only [fstF] at H
    by_cases a : sPl (h (c + 2)) n i = pl
    · rw [if_pos a] at H ⊢
      exact H
    · rw [if_neg a] at H ⊢
      exact ih (i + 1) (by omega) Q H
def sAt (df : Nat → Int) (n : Nat) (pl : Int) : Int := fstF (fun t => sPl df n t = pl) 0 n
theorem c_thingAt {c n : Nat} {pl : Int} (hc : ewK c = 10) (hn : h c 4 = (n : Int)) (h5 : n ≤ 5) (KI KX) : eCi X m_X10_thingAt [vR c, vI pl] eNT e ewP h KI KX = KI (sAt (h (c + 2)) n pl) eNT e ewP h := by
  refine eCi_eq X (fun Q H => ?_) KI KX
  refine bk_X10_thingAt_0 X c pl eNT e ewP h Q ?_
  exact lp_thingAt hc hn h5 n 0 (by omega) Q H
/-- 1 where one of k from i on holds -/
def anyF (f : Nat → Prop) [DecidablePred f] : Nat → Nat → Int
  | _, 0 => 0
  | i, k + 1 => if f i then 1 else anyF f (i + 1) k
theorem lp_hasThingBelow {c n : Nat} (hc : ewK c = 10) (hn : h c 4 = (n : Int)) (h5 : n ≤ 5) : ∀ (j i : Nat), i + j = n → ∀ Q, Q (.inl (some (vI (anyF (fun t => ¬ h (c + 2) t ≤ h c 5) i j)))) (eNT, e, ewP, h) → eP X m_X10_hasThingBelow 2 [vR c, vI i] [] (eNT, e, ewP, h) Q := by
  obtain ⟨k0, -⟩ := w10 hc
  intro j
  induction j with
  | zero =>
    intro i hi Q H
    refine bk_X10_hasThingBelow_2 X c i eNT e ewP h Q ?_
    simp only [k0, ite_true]
    rw [if_neg (by omega), if_pos (by decide)]
    exact H
  | succ j ih =>
    intro i hi Q H
    refine bk_X10_hasThingBelow_2 X c i eNT e ewP h Q ?_
    simp only [k0, ite_true]
    rw [if_pos (by omega), c_depthOf hc (by omega), wi1 (by omega)]
    simp only [anyF, k0, ite_true] at H ⊢
    by_cases a : h (c + 2) i ≤ h c 5
    · rw [if_pos a]
      rw [if_neg (fun z => z a)] at H
      exact ih (i + 1) (by omega) Q H
    · rw [if_neg a, if_pos (by decide)]
      rw [if_pos a] at H
      exact H
theorem c_hasThingBelow {c n : Nat} (hc : ewK c = 10) (hn : h c 4 = (n : Int)) (h5 : n ≤ 5) (KI KX) : eCi X m_X10_hasThingBelow [vR c] eNT e ewP h KI KX = KI (anyF (fun t => ¬ h (c + 2) t ≤ h c 5) 0 n) eNT e ewP h := by
  refine eCi_eq X (fun Q H => ?_) KI KX
  refine bk_X10_hasThingBelow_0 X c eNT e ewP h Q ?_
  exact lp_hasThingBelow hc hn h5 n 0 (by omega) Q H
/-- thickness of the moss -/
def sThk (kf vf : Nat → Int) (t : Nat) : Int := if kf t = 2 then vf t else 0
theorem lp_timeByKinds {c n : Nat} (hc : ewK c = 10) (hn : h c 4 = (n : Int)) (h5 : n ≤ 5) (hv : ∀ t, t < n → 0 ≤ h (c + 3) t ∧ h (c + 3) t ≤ 1000) (hd : 0 ≤ h c 5 ∧ h c 5 ≤ 1000) : ∀ (j i : Nat) (acc : Int), i + j = n → 0 ≤ acc → acc ≤ 1000 * i → ∀ Q, Q (.inl (some (vI (2 * h c 5 + 2 * (acc + sumF (sThk (h (c + 1)) (h (c + 3))) i j) + 3 * sumF (sFrg (h (c + 1)) (h (c + 4)) 1) 0 n)))) (eNT, e, ewP, h) → eP X m_X10_timeByKinds 4 [vR c, vI acc, vI i] [] (eNT, e, ewP, h) Q := by
  obtain ⟨k0, -⟩ := w10 hc
  intro j
  induction j with
  | zero =>
    intro i acc hi h0 h1 Q H
    refine bk_X10_timeByKinds_4 X c acc i eNT e ewP h Q ?_
    simp only [k0, ite_true]
    rw [if_neg (by omega), c_countOfFrogs hc hn h5]
    have hs := sumF_le (f := sFrg (h (c + 1)) (h (c + 4)) 1) (M := 1) (fun t => by unfold sFrg; (repeat' split) <;> omega) (fun t => by unfold sFrg; (repeat' split) <;> omega) n 0
    simp only [sumF, Int.add_zero] at H
    rw [wrn (x := 2 * h c 5) (by omega) (by omega), wrn (x := 2 * acc) (by omega) (by omega), wrn (x := 2 * h c 5 + 2 * acc) (by omega) (by omega), wrn (x := 3 * _) (by omega) (by omega), wrn (by omega) (by omega)]
    exact H
  | succ j ih =>
    intro i acc hi h0 h1 Q H
    refine bk_X10_timeByKinds_4 X c acc i eNT e ewP h Q ?_
    simp only [k0, ite_true]
    rw [if_pos (by omega), c_kindOf hc (by omega), c_valueOf hc (by omega), wi1 (by omega)]
    simp only [sumF, sThk, k0, ite_true] at H ⊢
    have hvi := hv i (by omega)
    by_cases a : h (c + 1) i = 2
    · rw [if_pos a] at H ⊢
      rw [wrn (x := acc + _) (by omega) (by omega)]
      refine ih (i + 1) _ (by omega) (by omega) (by omega) Q ?_
      rw [Int.add_assoc acc]
      exact H
    · rw [if_neg a] at H ⊢
      rw [Int.zero_add] at H
      rw [Int.add_zero, wrn (x := acc) (by omega) (by omega)]
      exact ih (i + 1) acc (by omega) (by omega) (by omega) Q H
/-- the time of an echo -/
def sTime (kf vf af : Nat → Int) (d : Int) (n : Nat) : Int := 2 * d + 2 * sumF (sThk kf vf) 0 n + 3 * sumF (sFrg kf af 1) 0 n
theorem c_timeByKinds {c n : Nat} (hc : ewK c = 10) (hn : h c 4 = (n : Int)) (h5 : n ≤ 5) (hv : ∀ t, t < n → 0 ≤ h (c + 3) t ∧ h (c + 3) t ≤ 1000) (hd : 0 ≤ h c 5 ∧ h c 5 ≤ 1000) (KI KX) : eCi X m_X10_timeByKinds [vR c] eNT e ewP h KI KX = KI (sTime (h (c + 1)) (h (c + 3)) (h (c + 4)) (h c 5) n) eNT e ewP h := by
  refine eCi_eq X (fun Q H => ?_) KI KX
  refine bk_X10_timeByKinds_0 X c eNT e ewP h Q ?_
  refine lp_timeByKinds hc hn h5 hv hd n 0 0 (by omega) (by omega) (by omega) Q ?_
  rw [Int.zero_add]
  exact H
end
