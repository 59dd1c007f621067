/-! the reference: a shout -/
def rPg (w : Nat → Int) (i m : Nat) (E : List Int) (time grade : Int) : Nat → Int := fun k => if 55 ≤ k then w k else if k < 10 then w k else if k = 10 then (if w 10 < 6 then w 10 + 1 else w 10) else if k = 11 then E.length else if k < 25 then E.getD (k - 12) 0 else if k = 25 then i else if k = 26 then m else if k = 27 then E.length else if k = 28 then time else if k = 29 then grade else w (k - 5)
/-- where the row's page stands: its older part moved -/
def rMv (w : Nat → Int) (k : Nat) : Nat → Int := fun z => if k < z ∧ z < 55 then w (z - 5) else w z
def rLt (w : Nat → Int) (E : List Int) (k : Nat) : Nat → Int := fun z => if 12 ≤ z ∧ z < 12 + k then E.getD (z - 12) 0 else w z
def rFl (w : Nat → Int) (i t : Nat) : Nat → Int := fun z => if 72 + 25 * i ≤ z ∧ z < 69 + 25 * i + 4 * t ∧ (z - (64 + 25 * i)) % 4 = 0 then 0 else w z
section
variable {X : eX} {e : Nat} {h : Nat → Nat → Int}
set_option maxRecDepth 8000 in
theorem lp_wp2 {i m n : Nat} {E : List Int} {g : Int} (hi : i < 8) (hE : E.length ≤ 13) (ok : wOk (wW (h 578) i) n) (h17 : h 577 17 = (m : Int)) (h19 : h 577 19 = (E.length : Int)) (h84 : aR h 584 E) : ∀ (j k : Nat) (w : Nat → Int), k + j = 13 → ∀ Q, Q (.inl none) (eNT, e, ewP, rw8 h (rLt (rLt w E k) E 13)) → eP X m_X13_writesPage 70 [vR 577, vI (i : Int), vI g, vI (k : Int)] [] (eNT, e, ewP, rw8 h (rLt w E k)) Q := by
  intro j
  induction j with
  | zero =>
    intro k w hk Q H
    refine bk_X13_writesPage_70 X 577 i g k eNT e ewP _ Q ?_
    rw [if_neg (by omega)]
    have e1 : rLt (rLt w E k) E 13 = rLt w E k := by
      funext z
      unfold rLt
      repeat' split
      all_goals first | rfl | omega
    rw [e1] at H
    exact H
  | succ j ih =>
    intro k w hk Q H
    refine bk_X13_writesPage_70 X 577 i g k eNT e ewP _ Q ?_
    have e0 : (577 : Nat) ≠ 578 := by decide
    have e00 : (584 : Nat) ≠ 578 := by decide
    have e4 : wr (12 + (k : Int)) = ((12 + k : Nat) : Int) := by rw [wrn (by omega) (by omega)]; omega
    have g1 : (0 : Int) ≤ ((12 + k : Nat) : Int) ∧ ((12 + k : Nat) : Int) < ((264 : Nat) : Int) := ⟨by omega, by omega⟩
    have g2 : (0 : Int) ≤ ((k : Nat) : Int) ∧ ((k : Nat) : Int) < ((16 : Nat) : Int) := ⟨by omega, by omega⟩
    simp only [mk577, mk578, mk579, mk580, mk581, mk582, mk583, mk584, mk585, mk586, mk587, mn578, mn579, mn580, mn581, mn582, mn583, mn584, mn585, mn586, mn587, mp578, mp579, mp580, mp581, mp582, mp583, mp584, mp585, mp586, mp587, ite_true, true_and, and_true, rw8_o e0, rw8_o e00, h19, e4, g1, g2, Int.toNat_natCast, rw8_up8, wi1 (show k < 1000 by omega)]
    rw [if_pos (by omega)]
    have st : ∀ v : Int, v = E.getD k 0 → rSet (rLt w E k) (12 + k) v = rLt w E (k + 1) := by
      intro v hv
      funext z
      by_cases a : z = 12 + k
      · rw [a, rSet_eq]
        unfold rLt
        rw [if_pos (by omega), show 12 + k - 12 = k by omega, hv]
      · rw [rSet_ne a]
        unfold rLt
        repeat' split
        all_goals first | rfl | omega
    have e5 : rLt (rLt w E k) E 13 = rLt (rLt w E (k + 1)) E 13 := by
      funext z
      unfold rLt
      repeat' split
      all_goals first | rfl | omega
    rw [e5] at H
    by_cases q : (k : Int) < E.length
    · rw [if_pos q, st _ (by
        have := h84 k (by omega)
        rw [List.getD_eq_getElem?_getD, this]
        rfl)]
      exact ih (k + 1) w (by omega) Q H
    · rw [if_neg q, st 0 (by rw [List.getD_eq_getElem?_getD, List.getElem?_eq_none (by omega)]; rfl)]
      exact ih (k + 1) w (by omega) Q H
set_option maxRecDepth 8000 in
theorem lp_wp1 {i m n : Nat} {E : List Int} {g : Int} (hi : i < 8) (hE : E.length ≤ 13) (ok : wOk (wW (h 578) i) n) (h17 : h 577 17 = (m : Int)) (h19 : h 577 19 = (E.length : Int)) (h84 : aR h 584 E) (h10 : 0 ≤ h 578 10 ∧ h 578 10 ≤ 6) : ∀ (j : Nat), j ≤ 25 → ∀ Q, Q (.inl none) (eNT, e, ewP, rw8 h (rPg (h 578) i m E (fTime (wW (h 578) i) n) g)) → eP X m_X13_writesPage 2 [vR 577, vI (i : Int), vI g, vI ((29 + j : Nat) : Int)] [] (eNT, e, ewP, rw8 h (rMv (h 578) (29 + j))) Q := by
  intro j
  induction j with
  | zero =>
    intro hj Q H
    refine bk_X13_writesPage_2 X 577 i g _ eNT e ewP _ Q ?_
    have e0 : (577 : Nat) ≠ 578 := by decide
    have wv : wW (rSet (rSet (rSet (rMv (h 578) 29) 25 (i : Int)) 26 (m : Int)) 27 (E.length : Int)) i = wW (h 578) i := by
      funext z
      unfold wW
      rw [rSet_ne (by omega), rSet_ne (by omega), rSet_ne (by omega)]
      unfold rMv
      rw [if_neg (by omega)]
    have mt := fun KI KX => @m_timeOf X e (rw8 h (rSet (rSet (rSet (rMv (h 578) 29) 25 (i : Int)) 26 (m : Int)) 27 (E.length : Int))) i n hi (by rw [rw8_s, wv]; exact ok) KI KX
    rw [rw8_s, wv] at mt
    simp only [mk577, mk578, mk579, mk580, mk581, mk582, mk583, mk584, mk585, mk586, mk587, mn578, mn579, mn580, mn581, mn582, mn583, mn584, mn585, mn586, mn587, mp578, mp579, mp580, mp581, mp582, mp583, mp584, mp585, mp586, mp587, ite_true, true_and, and_true, rw8_up8, rw8_s, rw8_o e0, show (25 : Int).toNat = 25 from rfl, show (26 : Int).toNat = 26 from rfl, show (27 : Int).toNat = 27 from rfl, show (28 : Int).toNat = 28 from rfl, show (29 : Int).toNat = 29 from rfl, show (10 : Int).toNat = 10 from rfl, show (11 : Int).toNat = 11 from rfl, h17, h19, mt]
    have w10 : rSet (rSet (rSet (rSet (rSet (rMv (h 578) 29) 25 (i : Int)) 26 (m : Int)) 27 (E.length : Int)) 28 (fTime (wW (h 578) i) n)) 29 g 10 = h 578 10 := by
      rw [rSet_ne (by omega), rSet_ne (by omega), rSet_ne (by omega), rSet_ne (by omega), rSet_ne (by omega)]
      unfold rMv
      rw [if_neg (by omega)]
    rw [w10]
    rw [if_pos (by omega), if_pos (by decide), if_pos (by decide), if_pos (by decide), if_pos (by decide), if_pos (by decide), if_pos (by decide), if_pos (by decide)]
    have go : ∀ w', (∀ z, rLt w' E 13 z = rPg (h 578) i m E (fTime (wW (h 578) i) n) g z) → eP X m_X13_writesPage 70 [vR 577, vI (i : Int), vI g, vI 0] [] (eNT, e, ewP, rw8 h w') Q := by
      intro w' hw
      have e1 : rLt w' E 0 = w' := by
        funext z
        unfold rLt
        rw [if_neg (by omega)]
      have := lp_wp2 (X := X) (e := e) (g := g) hi hE ok h17 h19 h84 13 0 w' (by omega) Q (by rw [e1, show rLt w' E 13 = rPg (h 578) i m E (fTime (wW (h 578) i) n) g from funext hw]; exact H)
      rw [e1] at this
      exact this
    by_cases q : h 578 10 < 6
    · rw [if_pos q, if_pos (by decide), wrn (by omega) (by omega)]
      refine go _ (fun z => ?_)
      unfold rLt rPg rSet rMv
      rw [if_pos q]
      repeat' split
      all_goals first | rfl | omega
    · rw [if_neg q]
      refine go _ (fun z => ?_)
      unfold rLt rPg rSet rMv
      rw [if_neg q]
      by_cases c : z = 10
      · rw [c]
        simp
        exact wrn (by omega) (by omega)
      · repeat' split
        all_goals first | rfl | omega
  | succ j ih =>
    intro hj Q H
    refine bk_X13_writesPage_2 X 577 i g _ eNT e ewP _ Q ?_
    have e4 : wr (((29 + (j + 1) : Nat) : Int) - 5) = ((25 + j : Nat) : Int) := by rw [wrn (by omega) (by omega)]; omega
    have e5 : wr (((29 + (j + 1) : Nat) : Int) + -1) = ((29 + j : Nat) : Int) := by rw [wrn (by omega) (by omega)]; omega
    have g1 : (0 : Int) ≤ ((25 + j : Nat) : Int) ∧ ((25 + j : Nat) : Int) < ((264 : Nat) : Int) := ⟨by omega, by omega⟩
    have g2 : (0 : Int) ≤ ((29 + (j + 1) : Nat) : Int) ∧ ((29 + (j + 1) : Nat) : Int) < ((264 : Nat) : Int) := ⟨by omega, by omega⟩
    simp only [mk577, mk578, mk579, mk580, mk581, mk582, mk583, mk584, mk585, mk586, mk587, mn578, mn579, mn580, mn581, mn582, mn583, mn584, mn585, mn586, mn587, mp578, mp579, mp580, mp581, mp582, mp583, mp584, mp585, mp586, mp587, ite_true, true_and, and_true, e4, e5, g1, g2, Int.toNat_natCast, rw8_up8, rw8_s]
    rw [if_neg (by omega)]
    have e6 : rSet (rMv (h 578) (29 + (j + 1))) (29 + (j + 1)) (rMv (h 578) (29 + (j + 1)) (25 + j)) = rMv (h 578) (29 + j) := by
      funext z
      by_cases a : z = 29 + (j + 1)
      · rw [a, rSet_eq]
        unfold rMv
        rw [if_neg (by omega), if_pos (by omega)]
        exact congrArg (h 578) (by omega)
      · rw [rSet_ne a]
        unfold rMv
        repeat' split
        all_goals first | rfl | omega
    rw [e6]
    exact ih (by omega) Q H
theorem m_writesPage {i m n : Nat} {E : List Int} {g : Int} (hi : i < 8) (hE : E.length ≤ 13) (ok : wOk (wW (h 578) i) n) (h17 : h 577 17 = (m : Int)) (h19 : h 577 19 = (E.length : Int)) (h84 : aR h 584 E) (h10 : 0 ≤ h 578 10 ∧ h 578 10 ≤ 6) (KV KX) : eCv X m_X13_writesPage [vR 577, vI (i : Int), vI g] eNT e ewP h KV KX = KV eNT e ewP (rw8 h (rPg (h 578) i m E (fTime (wW (h 578) i) n) g)) := by
  refine eCv_eq X (fun Q H => ?_) KV KX
  refine bk_X13_writesPage_0 X 577 i g eNT e ewP h Q ?_
  have := lp_wp1 (X := X) (e := e) (g := g) hi hE ok h17 h19 h84 h10 25 (Nat.le_refl _) Q H
  have e1 : rMv (h 578) (29 + 25) = h 578 := by
    funext z
    unfold rMv
    rw [if_neg (by omega)]
  rw [e1, rw8_id] at this
  exact this
set_option maxRecDepth 8000 in
theorem lp_fl {i n : Nat} {g : Int} (hi : i < 8) (h5 : n ≤ 5) : ∀ (j t : Nat) (w : Nat → Int), t + j = n → wW w i 2 = (n : Int) → ∀ Q, Q (.inl (some (vI g))) (eNT, e, ewP, rw8 h (rFl w i n)) → eP X m_X13_shouts 88 [vR 577, vI (i : Int), vI g, vI (t : Int)] [] (eNT, e, ewP, rw8 h (rFl w i t)) Q := by
  intro j
  induction j with
  | zero =>
    intro t w ht hn Q H
    refine bk_X13_shouts_88 X 577 i g t eNT e ewP _ Q ?_
    have e2 : wW (rFl w i t) i 2 = (n : Int) := by
      unfold wW rFl
      rw [if_neg (by omega)]
      exact hn
    have mo := fun KI KX => @m_of X e (rw8 h (rFl w i t)) i 2 hi (by decide) KI KX
    rw [rw8_s, show (2 : Int).toNat = 2 from rfl, e2] at mo
    rw [if_pos mk577, mo, if_neg (by omega), show t = n by omega]
    exact H
  | succ j ih =>
    intro t w ht hn Q H
    refine bk_X13_shouts_88 X 577 i g t eNT e ewP _ Q ?_
    have e2 : wW (rFl w i t) i 2 = (n : Int) := by
      unfold wW rFl
      rw [if_neg (by omega)]
      exact hn
    have mo := fun KI KX => @m_of X e (rw8 h (rFl w i t)) i 2 hi (by decide) KI KX
    rw [rw8_s, show (2 : Int).toNat = 2 from rfl, e2] at mo
    have e4 : wr (wr (wr (wr (64 + wr (25 * (i : Int))) + 5) + wr (4 * (t : Int))) + 3) = ((72 + 25 * i + 4 * t : Nat) : Int) := by
      rw [wrn (x := 25 * (i : Int)) (by omega) (by omega), wrn (x := 64 + _) (by omega) (by omega), wrn (x := 64 + _ + 5) (by omega) (by omega), wrn (x := 4 * (t : Int)) (by omega) (by omega), wrn (x := 64 + _ + 5 + _) (by omega) (by omega), wrn (by omega) (by omega)]; omega
    have g1 : (0 : Int) ≤ ((72 + 25 * i + 4 * t : Nat) : Int) ∧ ((72 + 25 * i + 4 * t : Nat) : Int) < ((264 : Nat) : Int) := ⟨by omega, by omega⟩
    simp only [mk577, mk578, mk579, mk580, mk581, mk582, mk583, mk584, mk585, mk586, mk587, mn578, mn579, mn580, mn581, mn582, mn583, mn584, mn585, mn586, mn587, mp578, mp579, mp580, mp581, mp582, mp583, mp584, mp585, mp586, mp587, ite_true, true_and, and_true, mo, e4, g1, Int.toNat_natCast, rw8_up8, wi1 (show t < 1000 by omega)]
    rw [if_pos (by omega)]
    have e6 : rSet (rFl w i t) (72 + 25 * i + 4 * t) 0 = rFl w i (t + 1) := by
      funext z
      unfold rSet rFl
      by_cases a : z = 72 + 25 * i + 4 * t
      · rw [if_pos a, if_pos (by omega)]
      · rw [if_neg a]
        by_cases b : 72 + 25 * i ≤ z ∧ z < 69 + 25 * i + 4 * t ∧ (z - (64 + 25 * i)) % 4 = 0
        · rw [if_pos b, if_pos (by omega)]
        · rw [if_neg b, if_neg (by omega)]
    rw [e6]
    exact ih (t + 1) w (by omega) hn Q H
end
