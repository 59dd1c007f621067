/-! the reference: orders done, on -/
section
variable {X : eX} {e : Nat} {h : Nat → Nat → Int} {N R : Nat} {T : Nat → Nat}
set_option maxRecDepth 8000 in
theorem m_comes {i n : Nat} {k d v : Int} (hi : i < 8) (hn : wW (h 578) i 2 = (n : Int)) (h5 : n < 5) (KI KX) : eCi X m_X13_comes [vR 577, vI (i : Int), vI d, vI v, vI k] eNT e ewP h KI KX = KI (n : Int) eNT e ewP (rw8 h (dComes (h 578) i k d v)) := by
  refine eCi_eq X (fun Q H => ?_) KI KX
  refine bk_X13_comes_0 X 577 i d v k eNT e ewP h Q ?_
  rw [if_pos mk577, m_of hi (by decide), show (2 : Int).toNat = 2 from rfl, hn]
  have e0 : wr (wr (wr (64 + wr (25 * (i : Int))) + 5) + wr (4 * (n : Int))) = ((69 + 25 * i + 4 * n : Nat) : Int) := by
    rw [wrn (x := 25 * (i : Int)) (by omega) (by omega), wrn (x := 64 + _) (by omega) (by omega), wrn (x := 64 + _ + 5) (by omega) (by omega), wrn (x := 4 * (n : Int)) (by omega) (by omega), wrn (by omega) (by omega)]; omega
  have e1 : wr (((69 + 25 * i + 4 * n : Nat) : Int) + 0) = ((69 + 25 * i + 4 * n : Nat) : Int) := by rw [wrn (by omega) (by omega)]; omega
  have e2 : wr (((69 + 25 * i + 4 * n : Nat) : Int) + 1) = ((70 + 25 * i + 4 * n : Nat) : Int) := by rw [wrn (by omega) (by omega)]; omega
  have e3 : wr (((69 + 25 * i + 4 * n : Nat) : Int) + 2) = ((71 + 25 * i + 4 * n : Nat) : Int) := by rw [wrn (by omega) (by omega)]; omega
  have e4 : wr (((69 + 25 * i + 4 * n : Nat) : Int) + 3) = ((72 + 25 * i + 4 * n : Nat) : Int) := by rw [wrn (by omega) (by omega)]; omega
  have g : ∀ z : Nat, z < 264 → (0 : Int) ≤ (z : Int) ∧ (z : Int) < ((264 : Nat) : Int) := fun z hz => ⟨by omega, by omega⟩
  simp only [mk577, mk578, mk579, mk580, mk581, mk582, mk583, mk584, mk585, mk586, mk587, mn578, mn579, mn580, mn581, mn582, mn583, mn584, mn585, mn586, mn587, mp578, mp579, mp580, mp581, mp582, mp583, mp584, mp585, mp586, mp587, ite_true, true_and, and_true, e0, e1, e2, e3, e4, g (69 + 25 * i + 4 * n) (by omega), g (70 + 25 * i + 4 * n) (by omega), g (71 + 25 * i + 4 * n) (by omega), g (72 + 25 * i + 4 * n) (by omega), Int.toNat_natCast, wi1 (show n < 1000 by omega), m_sets hi (show (0 : Int) ≤ 2 ∧ (2 : Int) < 25 by decide), up8, rw8_up8, rw8_rw8, rw8_s]
  have fin : ∀ a : Int, a = (if k = 1 then 1 else 0) → rSet (rSet (rSet (rSet (rSet (h 578) (69 + 25 * i + 4 * n) k) (70 + 25 * i + 4 * n) d) (71 + 25 * i + 4 * n) v) (72 + 25 * i + 4 * n) a) (64 + 25 * i + (2 : Int).toNat) ((n + 1 : Nat) : Int) = dComes (h 578) i k d v := by
    intro a ha
    funext z
    unfold dComes rWell rAdd rSet
    rw [hn, Int.toNat_natCast, show (2 : Int).toNat = 2 from rfl]
    unfold wW
    rw [← ha]
    by_cases q : 64 + 25 * i ≤ z ∧ z < 89 + 25 * i
    · rw [if_pos q]
      by_cases a0 : z = 64 + 25 * i + 2
      · rw [if_pos a0, if_neg (by omega), if_neg (by omega), if_neg (by omega), if_neg (by omega), if_pos (by omega)]; omega
      · rw [if_neg a0]
        by_cases a1 : z = 72 + 25 * i + 4 * n
        · rw [if_pos a1, if_neg (by omega), if_neg (by omega), if_neg (by omega), if_pos (by omega)]
        · rw [if_neg a1]
          by_cases a2 : z = 71 + 25 * i + 4 * n
          · rw [if_pos a2, if_neg (by omega), if_neg (by omega), if_pos (by omega)]
          · rw [if_neg a2]
            by_cases a3 : z = 70 + 25 * i + 4 * n
            · rw [if_pos a3, if_neg (by omega), if_pos (by omega)]
            · rw [if_neg a3]
              by_cases a4 : z = 69 + 25 * i + 4 * n
              · rw [if_pos a4, if_pos (by omega)]
              · rw [if_neg a4, if_neg (by omega), if_neg (by omega), if_neg (by omega), if_neg (by omega), if_neg (by omega)]
                exact congrArg (h 578) (by omega)
    · rw [if_neg q, if_neg (by omega), if_neg (by omega), if_neg (by omega), if_neg (by omega), if_neg (by omega)]
  by_cases q : k = 1
  · rw [if_pos q, fin 1 (by rw [if_pos q])]
    exact H
  · rw [if_neg q, fin 0 (by rw [if_neg q])]
    exact H
set_option maxRecDepth 8000 in
theorem lp_f1 {x : Int} {L : Nat} (hL : L + 25 ≤ 264) : ∀ (j k : Nat) (w : Nat → Int) (j4 : eV), (k + j = L ∨ L ≤ k ∧ j = 0) → ∀ Q, (∀ j4, eP X m_X13_fills 40 [vR 577, vI x, vI (L : Int), vI 0, j4] [] (eNT, e, ewP, rw8 h (fun z => if k ≤ z ∧ z < L then w (z + 25) else w z)) Q) → eP X m_X13_fills 23 [vR 577, vI x, vI (L : Int), vI (k : Int), j4] [] (eNT, e, ewP, rw8 h w) Q := by
  intro j
  induction j with
  | zero =>
    intro k w j4 hk Q H
    refine bk_X13_fills_23 X 577 x _ k j4 eNT e ewP _ Q ?_
    rw [if_neg (by omega)]
    have e1 : (fun z => if k ≤ z ∧ z < L then w (z + 25) else w z) = w := by
      funext z
      rw [if_neg (by omega)]
    rw [e1] at H
    exact H j4
  | succ j ih =>
    intro k w j4 hk Q H
    refine bk_X13_fills_23 X 577 x _ k j4 eNT e ewP _ Q ?_
    have e4 : wr ((k : Int) + 25) = ((k + 25 : Nat) : Int) := by rw [wrn (by omega) (by omega)]; omega
    simp only [mk577, mk578, mk579, mk580, mk581, mk582, mk583, mk584, mk585, mk586, mk587, mn578, mn579, mn580, mn581, mn582, mn583, mn584, mn585, mn586, mn587, mp578, mp579, mp580, mp581, mp582, mp583, mp584, mp585, mp586, mp587, ite_true, true_and, and_true, rw8_up8, rw8_s, e4, Int.toNat_natCast]
    rw [if_pos (by omega), if_pos ⟨by omega, by omega⟩, if_pos ⟨by omega, by omega⟩, wi1 (by omega)]
    refine ih (k + 1) _ j4 (by omega) Q (fun j4 => ?_)
    have e1 : (fun z => if k + 1 ≤ z ∧ z < L then rSet w k (w (k + 25)) (z + 25) else rSet w k (w (k + 25)) z) = (fun z => if k ≤ z ∧ z < L then w (z + 25) else w z) := by
      funext z
      by_cases a0 : z = k
      · rw [if_neg (by omega), if_pos (by omega), a0, rSet_eq]
      · by_cases a1 : k ≤ z ∧ z < L
        · rw [if_pos (by omega), if_pos a1, rSet_ne (by omega)]
        · rw [if_neg (by omega), if_neg a1, rSet_ne a0]
    rw [e1]
    exact H j4
set_option maxRecDepth 8000 in
theorem lp_f2 {x : Int} {L : Nat} (hL : L + 25 ≤ 264) : ∀ (j k : Nat) (w : Nat → Int) (j4 : eV), k + j = 25 → ∀ Q, (∀ j4, eP X m_X13_fills 54 [vR 577, vI x, vI (L : Int), vI 0, j4] [] (eNT, e, ewP, rw8 h (fun z => if L + k ≤ z ∧ z < L + 25 then 0 else w z)) Q) → eP X m_X13_fills 40 [vR 577, vI x, vI (L : Int), vI (k : Int), j4] [] (eNT, e, ewP, rw8 h w) Q := by
  intro j
  induction j with
  | zero =>
    intro k w j4 hk Q H
    refine bk_X13_fills_40 X 577 x _ k j4 eNT e ewP _ Q ?_
    rw [if_neg (by omega)]
    have e1 : (fun z => if L + k ≤ z ∧ z < L + 25 then 0 else w z) = w := by
      funext z
      rw [if_neg (by omega)]
    rw [e1] at H
    exact H j4
  | succ j ih =>
    intro k w j4 hk Q H
    refine bk_X13_fills_40 X 577 x _ k j4 eNT e ewP _ Q ?_
    have e4 : wr ((L : Int) + (k : Int)) = ((L + k : Nat) : Int) := by rw [wrn (by omega) (by omega)]; omega
    simp only [mk577, mk578, mk579, mk580, mk581, mk582, mk583, mk584, mk585, mk586, mk587, mn578, mn579, mn580, mn581, mn582, mn583, mn584, mn585, mn586, mn587, mp578, mp579, mp580, mp581, mp582, mp583, mp584, mp585, mp586, mp587, ite_true, true_and, and_true, rw8_up8, rw8_s, e4, Int.toNat_natCast]
    rw [if_pos (by omega), if_pos ⟨by omega, by omega⟩, wi1 (by omega)]
    refine ih (k + 1) _ j4 (by omega) Q (fun j4 => ?_)
    have e1 : (fun z => if L + (k + 1) ≤ z ∧ z < L + 25 then 0 else rSet w (L + k) 0 z) = (fun z => if L + k ≤ z ∧ z < L + 25 then 0 else w z) := by
      funext z
      unfold rSet
      repeat' split
      all_goals first | rfl | omega
    rw [e1]
    exact H j4
def fS (w : Nat → Int) (N x : Nat) : Nat → Int := fun z => if 64 + 25 * x ≤ z ∧ z < 39 + 25 * N then w (z + 25) else if 39 + 25 * N ≤ z ∧ z < 64 + 25 * N then 0 else if z = 0 then (N : Int) - 1 else w z
/-- the ropes after a well is filled -/
def rpF (w : Nat → Int) (R x r : Nat) : Nat → Int := fun k => if 56 + 3 * r ≤ k ∧ k < 55 + 3 * R ∧ (k - 56) % 3 = 0 then (if w k - 1 = x then 0 else if (x : Int) < w k - 1 then w k - 1 else w k) else w k
theorem rpF_s {w : Nat → Int} {R x r : Nat} {v : Int} (hr : r < R) (hv : v = (if w (56 + 3 * r) - 1 = x then 0 else if (x : Int) < w (56 + 3 * r) - 1 then w (56 + 3 * r) - 1 else w (56 + 3 * r))) : rpF (rSet w (56 + 3 * r) v) R x (r + 1) = rpF w R x r := by
  funext z
  unfold rpF
  by_cases a : z = 56 + 3 * r
  · rw [if_neg (by omega), if_pos (by omega), a, rSet_eq, hv]
  · rw [rSet_ne a]
    by_cases b : 56 + 3 * r ≤ z ∧ z < 55 + 3 * R ∧ (z - 56) % 3 = 0
    · rw [if_pos (by omega), if_pos b]
    · rw [if_neg (by omega), if_neg b]
set_option maxRecDepth 8000 in
theorem lp_f3 {x n : Nat} {L : Int} (hR : R ≤ 3) (hx : x < 8) : ∀ (j r : Nat) (w : Nat → Int) (j4 : eV), r + j = R → w 0 = (n : Int) → w 1 = (R : Int) → (∀ r, r < R → 0 ≤ w (56 + 3 * r) ∧ w (56 + 3 * r) ≤ 8) → ∀ Q, Q (.inl (some (vI (n : Int)))) (eNT, e, ewP, rw8 h (rpF w R x r)) → eP X m_X13_fills 54 [vR 577, vI (x : Int), vI L, vI (r : Int), j4] [] (eNT, e, ewP, rw8 h w) Q := by
  intro j
  induction j with
  | zero =>
    intro r w j4 hk w0 w1 hw Q H
    refine bk_X13_fills_54 X 577 x L r j4 eNT e ewP _ Q ?_
    simp only [mk577, mk578, mk579, mk580, mk581, mk582, mk583, mk584, mk585, mk586, mk587, mn578, mn579, mn580, mn581, mn582, mn583, mn584, mn585, mn586, mn587, mp578, mp579, mp580, mp581, mp582, mp583, mp584, mp585, mp586, mp587, ite_true, true_and, and_true, rw8_s]
    rw [if_pos (by decide), show (1 : Int).toNat = 1 from rfl, if_neg (by omega), if_pos (by decide), show (0 : Int).toNat = 0 from rfl, w0]
    have e1 : rpF w R x r = w := by
      funext z
      unfold rpF
      rw [if_neg (by omega)]
    rw [e1] at H
    exact H
  | succ j ih =>
    intro r w j4 hk w0 w1 hw Q H
    refine bk_X13_fills_54 X 577 x L r j4 eNT e ewP _ Q ?_
    have hwr := hw r (by omega)
    have hb := fun KI KX => @m_boundTo X e (rw8 h w) r (by omega) (by rw [rw8_s]; exact hwr) KI KX
    rw [rw8_s] at hb
    have e4 : wr (wr (55 + wr (3 * (r : Int))) + 1) = ((56 + 3 * r : Nat) : Int) := by rw [wrn (x := 3 * _) (by omega) (by omega), wrn (x := 55 + _) (by omega) (by omega), wrn (by omega) (by omega)]; omega
    have g : (0 : Int) ≤ ((56 + 3 * r : Nat) : Int) ∧ ((56 + 3 * r : Nat) : Int) < ((264 : Nat) : Int) := ⟨by omega, by omega⟩
    simp only [mk577, mk578, mk579, mk580, mk581, mk582, mk583, mk584, mk585, mk586, mk587, mn578, mn579, mn580, mn581, mn582, mn583, mn584, mn585, mn586, mn587, mp578, mp579, mp580, mp581, mp582, mp583, mp584, mp585, mp586, mp587, ite_true, true_and, and_true, rw8_s, hb, e4, g, Int.toNat_natCast, rw8_up8]
    rw [if_pos (by decide), show (1 : Int).toNat = 1 from rfl, if_pos (by omega), wi1 (by omega)]
    have key : ∀ v : Int, 0 ≤ v ∧ v ≤ 8 → v = (if w (56 + 3 * r) - 1 = x then 0 else if (x : Int) < w (56 + 3 * r) - 1 then w (56 + 3 * r) - 1 else w (56 + 3 * r)) → ∀ j4, eP X m_X13_fills 54 [vR 577, vI (x : Int), vI L, vI ((r + 1 : Nat) : Int), j4] [] (eNT, e, ewP, rw8 h (rSet w (56 + 3 * r) v)) Q := by
      intro v hv8 hv j4
      refine ih (r + 1) _ j4 (by omega) (by rw [rSet_ne (by omega)]; exact w0) (by rw [rSet_ne (by omega)]; exact w1) (fun s hs => ?_) Q (by rw [rpF_s (by omega) hv]; exact H)
      by_cases q : s = r
      · rw [q, rSet_eq]; exact hv8
      · rw [rSet_ne (by omega)]; exact hw s hs
    by_cases q1 : w (56 + 3 * r) - 1 = x
    · rw [if_pos q1, if_pos (by omega)]
      exact key 0 (by omega) (by rw [if_pos q1]) _
    · rw [if_neg q1]
      by_cases q2 : (x : Int) < w (56 + 3 * r) - 1
      · rw [if_neg (by omega)]
        exact key _ (by omega) (by rw [if_neg q1, if_pos q2]) _
      · rw [if_pos (by omega)]
        have := key (w (56 + 3 * r)) (by omega) (by rw [if_neg q1, if_neg q2]) (vI (w (56 + 3 * r) - 1))
        have e1 : rSet w (56 + 3 * r) (w (56 + 3 * r)) = w := by
          funext z
          unfold rSet
          by_cases a : z = 56 + 3 * r
          · rw [if_pos a, a]
          · rw [if_neg a]
        rw [e1] at this
        exact this
set_option maxRecDepth 8000 in
theorem m_fills {x : Nat} (o : rOk (h 578) N R T) (hx : x < N) (KI KX) : eCi X m_X13_fills [vR 577, vI (x : Int)] eNT e ewP h KI KX = KI ((N : Int) - 1) eNT e ewP (rw8 h (rFill (h 578) N R x)) := by
  refine eCi_eq X (fun Q H => ?_) KI KX
  refine bk_X13_fills_0 X 577 x eNT e ewP h Q ?_
  obtain ⟨o1, o2, o3, o4, o5, o6, o7, o8⟩ := o
  simp only [mk577, mk578, mk579, mk580, mk581, mk582, mk583, mk584, mk585, mk586, mk587, mn578, mn579, mn580, mn581, mn582, mn583, mn584, mn585, mn586, mn587, mp578, mp579, mp580, mp581, mp582, mp583, mp584, mp585, mp586, mp587, ite_true, true_and, and_true, up8, rw8_s, show (0 : Int).toNat = 0 from rfl, rSet_eq, o1]
  have e1 : wr ((N : Int) - 1) = ((N - 1 : Nat) : Int) := by rw [wrn (by omega) (by omega)]; omega
  have e2 : wr (64 + wr (25 * ((N - 1 : Nat) : Int))) = ((64 + 25 * (N - 1) : Nat) : Int) := by rw [wrn (x := 25 * _) (by omega) (by omega), wrn (by omega) (by omega)]; omega
  have e3 : wr (64 + wr (25 * (x : Int))) = ((64 + 25 * x : Nat) : Int) := by rw [wrn (x := 25 * _) (by omega) (by omega), wrn (by omega) (by omega)]; omega
  rw [e1, e2, e3, if_pos (by decide), if_pos (by decide), if_pos (by decide)]
  refine lp_f1 (by omega) (25 * (N - 1 - x)) (64 + 25 * x) _ _ (by omega) Q (fun j4 => ?_)
  refine lp_f2 (by omega) 25 0 _ _ (by omega) Q (fun j4 => ?_)
  refine lp_f3 (n := N - 1) o4 (by omega) R 0 _ _ (by omega) ?_ ?_ ?_ Q ?_
  · rw [if_neg (by omega), if_neg (by omega), rSet_eq]
  · rw [if_neg (by omega), if_neg (by omega), rSet_ne (by omega)]; exact o3
  · intro r hr
    rw [if_neg (by omega), if_neg (by omega), rSet_ne (by omega)]
    have := (o6 r hr).2
    omega
  · have e5 : rpF (fun z => if 64 + 25 * (N - 1) + 0 ≤ z ∧ z < 64 + 25 * (N - 1) + 25 then 0 else (fun z => if 64 + 25 * x ≤ z ∧ z < 64 + 25 * (N - 1) then rSet (h 578) 0 ((N - 1 : Nat) : Int) (z + 25) else rSet (h 578) 0 ((N - 1 : Nat) : Int) z) z) R x 0 = rFill (h 578) N R x := by
      have e7 : (fun z => if 64 + 25 * (N - 1) + 0 ≤ z ∧ z < 64 + 25 * (N - 1) + 25 then 0 else (fun z => if 64 + 25 * x ≤ z ∧ z < 64 + 25 * (N - 1) then rSet (h 578) 0 ((N - 1 : Nat) : Int) (z + 25) else rSet (h 578) 0 ((N - 1 : Nat) : Int) z) z) = fS (h 578) N x := by
        funext z
        unfold fS rSet
        try dsimp only
        repeat' split
        all_goals first | rfl | omega
      rw [e7]
      have e8 : ∀ z, z ≠ 0 → z < 64 → fS (h 578) N x z = h 578 z := by
        intro z h1 h2
        unfold fS
        rw [if_neg (by omega), if_neg (by omega), if_neg h1]
      funext z
      by_cases a4 : 56 ≤ z ∧ z < 55 + 3 * R ∧ (z - 56) % 3 = 0
      · have l1 : rpF (fS (h 578) N x) R x 0 z = (if h 578 z - 1 = x then 0 else if (x : Int) < h 578 z - 1 then h 578 z - 1 else h 578 z) := by
          unfold rpF
          rw [if_pos (by omega), e8 z (by omega) (by omega)]
        have l2 : rFill (h 578) N R x z = (if h 578 z - 1 = x then 0 else if (x : Int) < h 578 z - 1 then h 578 z - 1 else h 578 z) := by
          unfold rFill
          rw [if_neg (by omega), if_neg (by omega), if_neg (by omega), if_pos a4]
        rw [l1, l2]
      · have l1 : rpF (fS (h 578) N x) R x 0 z = fS (h 578) N x z := by
          unfold rpF
          rw [if_neg (by omega)]
        have l2 : rFill (h 578) N R x z = fS (h 578) N x z := by
          unfold rFill
          rw [if_neg a4]
          rfl
        rw [l1, l2]
    rw [e5, show ((N - 1 : Nat) : Int) = (N : Int) - 1 by omega]
    exact H
set_option maxRecDepth 8000 in
theorem m_binds {y : Nat} {x : Int} (o : rOk (h 578) N R T) (hy : y < R) (hx : 0 ≤ x ∧ x < N) (KI KX) : eCi X m_X13_binds [vR 577, vI (y : Int), vI x] eNT e ewP h KI KX = KI (nRp (dBind (h 578) y x) x) eNT e ewP (rw8 h (dBind (h 578) y x)) := by
  refine eCi_eq X (fun Q H => ?_) KI KX
  refine bk_X13_binds_0 X 577 y x eNT e ewP h Q ?_
  have o1 := o.1
  have o2 := o.2.1
  have o3 := o.2.2.1
  have o4 := o.2.2.2.1
  have o5 := o.2.2.2.2.1
  have o6 := o.2.2.2.2.2.1
  have e4 : wr (wr (55 + wr (3 * (y : Int))) + 1) = ((56 + 3 * y : Nat) : Int) := by rw [wrn (x := 3 * _) (by omega) (by omega), wrn (x := 55 + _) (by omega) (by omega), wrn (by omega) (by omega)]; omega
  simp only [mk577, mk578, mk579, mk580, mk581, mk582, mk583, mk584, mk585, mk586, mk587, mn578, mn579, mn580, mn581, mn582, mn583, mn584, mn585, mn586, mn587, mp578, mp579, mp580, mp581, mp582, mp583, mp584, mp585, mp586, mp587, ite_true, true_and, and_true, e4, Int.toNat_natCast, up8]
  rw [if_pos ⟨by omega, by omega⟩, wrn (by omega) (by omega)]
  have e5 : rSet (h 578) (56 + 3 * y) (x + 1) = dBind (h 578) y x := rfl
  rw [e5]
  have mr := fun KI KX => @m_ropesAt X e (rw8 h (dBind (h 578) y x)) R x o4 (by rw [rw8_s]; unfold dBind; rw [rSet_ne (by omega)]; exact o3) (fun r hr => by
    rw [rw8_s]
    unfold dBind
    by_cases q : r = y
    · rw [q, rSet_eq]; omega
    · rw [rSet_ne (by omega)]; have := (o6 r hr).2; omega) KI KX
  rw [rw8_s] at mr
  rw [mr]
  have e6 : nRp (dBind (h 578) y x) x = sumF (fun r => if dBind (h 578) y x (56 + 3 * r) - 1 = x then 1 else 0) 0 R := by
    unfold nRp
    rw [show dBind (h 578) y x 1 = (R : Int) by unfold dBind; rw [rSet_ne (by omega)]; exact o3, Int.toNat_natCast]
  rw [← e6]
  exact H
set_option maxRecDepth 8000 in
theorem m_fishes {y : Int} (o : rOk (h 578) N R T) (q : nFish (h 578) y = (0, 0)) (KI KX) : eCi X m_X13_fishes [vR 577, vI y] eNT e ewP h KI KX = KI (wW (h 578) (h 578 (56 + 3 * y.toNat) - 1).toNat (7 + 4 * (wRch (h 578) y.toNat).toNat)) eNT e ewP (rw8 h (dFish (h 578) y.toNat)) := by
  refine eCi_eq X (fun Q H => ?_) KI KX
  refine bk_X13_fishes_0 X 577 y eNT e ewP h Q ?_
  have q1 : 0 ≤ y ∧ y < h 578 1 := by
    unfold nFish at q
    split at q
    · assumption
    · exact absurd (congrArg Prod.fst q) (by intro z; simp at z)
  unfold nFish at q
  rw [if_pos q1] at q
  have q2 : ¬ h 578 (56 + 3 * y.toNat) - 1 < 0 := by
    intro r
    rw [if_pos r] at q
    exact absurd (congrArg Prod.fst q) (by intro z; simp at z)
  rw [if_neg q2] at q
  have q3 : ¬ wRch (h 578) y.toNat = -1 := by
    intro r
    rw [if_pos r] at q
    exact absurd (congrArg Prod.fst q) (by intro z; simp at z)
  obtain ⟨w1, w2, w3, w4, w5⟩ := rp_i o q1
  obtain ⟨v1, v2, v3, v4, v5, v6⟩ := wl_i o (show 0 ≤ h 578 (56 + 3 * y.toNat) - 1 ∧ h 578 (56 + 3 * y.toNat) - 1 < h 578 0 by omega)
  have mo := fun KI KX => @m_boundTo X e h y.toNat w1 w3 KI KX
  rw [w2] at mo
  have mr := fun KI KX => @m_reached X e h (h 578 (56 + 3 * y.toNat) - 1).toNat _ y.toNat v1 w1 v4 v5 (by omega) fAt_ex KI KX
  rw [w2] at mr
  have eR : rchF (wW (h 578) (h 578 (56 + 3 * y.toNat) - 1).toNat) (wW (h 578) (h 578 (56 + 3 * y.toNat) - 1).toNat 2).toNat (h 578 (55 + 3 * y.toNat)) 0 (wW (h 578) (h 578 (56 + 3 * y.toNat) - 1).toNat 2).toNat = wRch (h 578) y.toNat := rfl
  rw [eR] at mr
  obtain ⟨t, ht, q4⟩ : ∃ t : Nat, t < (wW (h 578) (h 578 (56 + 3 * y.toNat) - 1).toNat 2).toNat ∧ wRch (h 578) y.toNat = (t : Int) := by
    rcases rch_rng (f := wW (h 578) (h 578 (56 + 3 * y.toNat) - 1).toNat) (n := (wW (h 578) (h 578 (56 + 3 * y.toNat) - 1).toNat 2).toNat) (len := h 578 (55 + 3 * y.toNat)) with q4 | ⟨t, ht, q4, q5⟩
    · exact absurd q4 q3
    · exact ⟨t, ht, q4⟩
  have mi := fun KI KX => @m_is2 X e h (h 578 (56 + 3 * y.toNat) - 1).toNat t v1 (by omega) KI KX
  have mt := fun KI KX => @m_takes X e h (h 578 (56 + 3 * y.toNat) - 1).toNat t _ v1 v4 v5 ht KI KX
  rw [v2] at mi mt
  have et : (wRch (h 578) y.toNat).toNat = t := by rw [q4, Int.toNat_natCast]
  have e4 : wr (wr (55 + wr (3 * y)) + 2) = ((57 + 3 * y.toNat : Nat) : Int) := by rw [wrn (x := 3 * _) (by omega) (by omega), wrn (x := 55 + _) (by omega) (by omega), wrn (by omega) (by omega)]; omega
  have g : (0 : Int) ≤ ((57 + 3 * y.toNat : Nat) : Int) ∧ ((57 + 3 * y.toNat : Nat) : Int) < ((264 : Nat) : Int) := ⟨by omega, by omega⟩
  simp only [mk577, mk578, mk579, mk580, mk581, mk582, mk583, mk584, mk585, mk586, mk587, mn578, mn579, mn580, mn581, mn582, mn583, mn584, mn585, mn586, mn587, mp578, mp579, mp580, mp581, mp582, mp583, mp584, mp585, mp586, mp587, ite_true, true_and, and_true, mo, mr, q4, mi, mt, e4, g, Int.toNat_natCast, up8, rw8_up8, rw8_rw8, rw8_s, show (7 : Int).toNat = 7 from rfl]
  rw [if_pos (by decide), if_pos (by decide)]
  have dT : ∀ z, z < 64 → dTake (h 578) (h 578 (56 + 3 * y.toNat) - 1).toNat t z = h 578 z := fun z hz => by unfold dTake; rw [rWell_o (by omega)]
  rw [rSet_ne (by omega), dT _ (by omega), dT _ (by omega)]
  have e5 : dFish (h 578) y.toNat = rSet (rSet (dTake (h 578) (h 578 (56 + 3 * y.toNat) - 1).toNat t) (57 + 3 * y.toNat) (wr (h 578 (57 + 3 * y.toNat) + 1))) 7 (wr (h 578 7 + wW (h 578) (h 578 (56 + 3 * y.toNat) - 1).toNat (7 + 4 * t))) := by
    unfold dFish
    rw [et]
  rw [et] at H
  rw [← e5]
  exact H
def rWk (w : Nat → Int) (T : Nat → Nat) (i t : Nat) : Nat → Int := fun z => if 64 ≤ z ∧ z < 69 + 25 * i + 4 * t then rFrg (wW w ((z - 64) / 25)) (T ((z - 64) / 25)) 1 ((z - 64) % 25) else w z
theorem rWk_o {w : Nat → Int} {T : Nat → Nat} {i t z : Nat} (q : z < 64 ∨ 69 + 25 * i + 4 * t ≤ z) : rWk w T i t z = w z := by
  unfold rWk
  rw [if_neg (by omega)]
theorem wk_id {w : Nat → Int} {n z : Nat} (hz : 64 ≤ z) (q : (z - 64) % 25 < 8 ∨ (z - 64) % 25 % 4 ≠ 0 ∨ 5 + 4 * n ≤ (z - 64) % 25) : rFrg (wW w ((z - 64) / 25)) n 1 ((z - 64) % 25) = w z := by
  unfold rFrg
  rw [if_neg (by omega)]
  unfold wW
  exact congrArg w (by omega)
theorem rWk_n {w : Nat → Int} {T : Nat → Nat} {i t : Nat} {v : Int} (q : t < T i) (h5 : T i ≤ 5) (hv : v = (if wW w i (5 + 4 * t) = 1 then 1 else 0)) : rSet (rWk w T i t) (72 + 25 * i + 4 * t) v = rWk w T i (t + 1) := by
  funext z
  by_cases a : z = 72 + 25 * i + 4 * t
  · rw [a, rSet_eq]
    unfold rWk
    rw [if_pos (by omega), show (72 + 25 * i + 4 * t - 64) / 25 = i by omega, show (72 + 25 * i + 4 * t - 64) % 25 = 8 + 4 * t by omega, rFrg_s q, if_neg (by decide)]
    exact hv
  · rw [rSet_ne a]
    unfold rWk
    by_cases b : 64 ≤ z ∧ z < 69 + 25 * i + 4 * t
    · rw [if_pos b, if_pos (by omega)]
    · rw [if_neg b]
      by_cases c : 64 ≤ z ∧ z < 69 + 25 * i + 4 * (t + 1)
      · have d1 : (z - 64) / 25 = i := by omega
        have d2 : (z - 64) % 25 = z - 64 - 25 * i := by omega
        rw [if_pos c, wk_id (by omega) (by rw [d2]; omega)]
      · rw [if_neg c]
theorem rWk_e {w : Nat → Int} {T : Nat → Nat} {i : Nat} (h5 : T i ≤ 5) : rWk w T i (T i) = rWk w T (i + 1) 0 := by
  funext z
  unfold rWk
  by_cases b : 64 ≤ z ∧ z < 69 + 25 * i + 4 * T i
  · rw [if_pos b, if_pos (by omega)]
  · rw [if_neg b]
    by_cases c : 64 ≤ z ∧ z < 69 + 25 * (i + 1) + 4 * 0
    · rw [if_pos c]
      by_cases d : (z - 64) / 25 = i
      · rw [wk_id (by omega) (Or.inr (Or.inr (by rw [d]; omega)))]
      · rw [wk_id (by omega) (Or.inl (by omega))]
    · rw [if_neg c]
theorem rWk_f {w : Nat → Int} {T : Nat → Nat} {N : Nat} {s : Int} : rSet (rWk w T N 0) 8 (wr (w 8 + s)) = rWake w N T s := by
  funext z
  unfold rWake
  by_cases a : z = 8
  · rw [a, rSet_eq, if_neg (by omega), if_pos rfl]
  · rw [rSet_ne a]
    unfold rWk
    by_cases b : 64 ≤ z ∧ z < 64 + 25 * N
    · rw [if_pos b, if_pos (by omega)]
    · rw [if_neg b, if_neg a]
      by_cases c : 64 ≤ z ∧ z < 69 + 25 * N + 4 * 0
      · rw [if_pos c, wk_id (by omega) (Or.inl (by omega))]
      · rw [if_neg c]
theorem rWk_2 {w : Nat → Int} {T : Nat → Nat} {i t : Nat} : wW (rWk w T i t) i 2 = wW w i 2 := by
  unfold wW rWk
  rw [if_pos (by omega), wk_id (by omega) (by omega)]
theorem rWk_k {w : Nat → Int} {T : Nat → Nat} {i t : Nat} : wW (rWk w T i t) i (5 + 4 * t) = wW w i (5 + 4 * t) := by
  unfold wW
  rw [rWk_o (by omega)]
set_option maxRecDepth 8000 in
theorem lp_wki {s : Int} {i : Nat} (hi : i < 8) (f1 : T i ≤ 5) (f2 : wW (h 578) i 2 = (T i : Int)) : ∀ (j t : Nat), t + j = T i → ∀ Q, eP X m_X13_wakes 5 [vR 577, vI s, vI ((i + 1 : Nat) : Int), vI (T i : Int)] [] (eNT, e, ewP, rw8 h (rWk (h 578) T (i + 1) 0)) Q → eP X m_X13_wakes 13 [vR 577, vI s, vI (i : Int), vI (t : Int)] [] (eNT, e, ewP, rw8 h (rWk (h 578) T i t)) Q := by
  intro j
  induction j with
  | zero =>
    intro t ht Q H
    refine bk_X13_wakes_13 X 577 s i t eNT e ewP _ Q ?_
    have mo := fun KI KX => @m_of X e (rw8 h (rWk (h 578) T i t)) i 2 hi (by decide) KI KX
    rw [rw8_s, show (2 : Int).toNat = 2 from rfl, rWk_2, f2] at mo
    rw [if_pos mk577, mo, if_neg (by omega), wi1 (by omega), show t = T i by omega, rWk_e f1]
    exact H
  | succ j ih =>
    intro t ht Q H
    refine bk_X13_wakes_13 X 577 s i t eNT e ewP _ Q ?_
    have mo := fun KI KX => @m_of X e (rw8 h (rWk (h 578) T i t)) i 2 hi (by decide) KI KX
    rw [rw8_s, show (2 : Int).toNat = 2 from rfl, rWk_2, f2] at mo
    have mi := fun KI KX => @m_is0 X e (rw8 h (rWk (h 578) T i t)) i t hi (by omega) KI KX
    rw [rw8_s, rWk_k] at mi
    have e4 : wr (wr (wr (wr (64 + wr (25 * (i : Int))) + 5) + wr (4 * (t : Int))) + 3) = ((72 + 25 * i + 4 * t : Nat) : Int) := by
      rw [wrn (x := 25 * (i : Int)) (by omega) (by omega), wrn (x := 64 + _) (by omega) (by omega), wrn (x := 64 + _ + 5) (by omega) (by omega), wrn (x := 4 * (t : Int)) (by omega) (by omega), wrn (x := 64 + _ + 5 + _) (by omega) (by omega), wrn (by omega) (by omega)]; omega
    have g : (0 : Int) ≤ ((72 + 25 * i + 4 * t : Nat) : Int) ∧ ((72 + 25 * i + 4 * t : Nat) : Int) < ((264 : Nat) : Int) := ⟨by omega, by omega⟩
    rw [if_pos mk577, mo, if_pos (by omega)]
    simp only [mk577, mk578, mk579, mk580, mk581, mk582, mk583, mk584, mk585, mk586, mk587, mn578, mn579, mn580, mn581, mn582, mn583, mn584, mn585, mn586, mn587, mp578, mp579, mp580, mp581, mp582, mp583, mp584, mp585, mp586, mp587, ite_true, true_and, and_true, mi, e4, g, Int.toNat_natCast, rw8_up8, wi1 (show t < 1000 by omega)]
    by_cases q2 : wW (h 578) i (5 + 4 * t) = 1
    · rw [if_pos q2, rWk_n (by omega) f1 (by rw [if_pos q2])]
      exact ih (t + 1) (by omega) Q H
    · rw [if_neg q2, rWk_n (by omega) f1 (by rw [if_neg q2])]
      exact ih (t + 1) (by omega) Q H
set_option maxRecDepth 8000 in
theorem lp_wko {s : Int} (o : rOk (h 578) N R T) : ∀ (j i : Nat) (j3 : eV), i + j = N → ∀ Q, Q (.inl (some (vI s))) (eNT, e, ewP, rw8 h (rWake (h 578) N T s)) → eP X m_X13_wakes 5 [vR 577, vI s, vI (i : Int), j3] [] (eNT, e, ewP, rw8 h (rWk (h 578) T i 0)) Q := by
  have o1 := o.1
  have o2 := o.2.1
  have o5 := o.2.2.2.2.1
  intro j
  induction j with
  | zero =>
    intro i j3 hi Q H
    refine bk_X13_wakes_5 X 577 s i j3 eNT e ewP _ Q ?_
    have e0 : rWk (h 578) T i 0 0 = (N : Int) := by rw [rWk_o (by omega)]; exact o1
    simp only [mk577, mk578, mk579, mk580, mk581, mk582, mk583, mk584, mk585, mk586, mk587, mn578, mn579, mn580, mn581, mn582, mn583, mn584, mn585, mn586, mn587, mp578, mp579, mp580, mp581, mp582, mp583, mp584, mp585, mp586, mp587, ite_true, true_and, and_true, rw8_s, show (0 : Int).toNat = 0 from rfl, show (8 : Int).toNat = 8 from rfl, e0, rw8_up8]
    rw [if_pos (by decide), if_neg (by omega), if_pos (by decide), if_pos (by decide), rWk_o (by omega), show i = N by omega, rWk_f]
    exact H
  | succ j ih =>
    intro i j3 hi Q H
    refine bk_X13_wakes_5 X 577 s i j3 eNT e ewP _ Q ?_
    have e0 : rWk (h 578) T i 0 0 = (N : Int) := by rw [rWk_o (by omega)]; exact o1
    simp only [mk577, mk578, mk579, mk580, mk581, mk582, mk583, mk584, mk585, mk586, mk587, mn578, mn579, mn580, mn581, mn582, mn583, mn584, mn585, mn586, mn587, mp578, mp579, mp580, mp581, mp582, mp583, mp584, mp585, mp586, mp587, ite_true, true_and, and_true, rw8_s, show (0 : Int).toNat = 0 from rfl, show (8 : Int).toNat = 8 from rfl, e0, rw8_up8]
    rw [if_pos (by decide), if_pos (by omega)]
    have f := o5 i (by omega)
    exact lp_wki (by omega) f.1 f.2.1 (T i) 0 (by omega) Q (ih (i + 1) _ (by omega) Q H)
set_option maxRecDepth 8000 in
theorem m_wakes (o : rOk (h 578) N R T) (KI KX) : eCi X m_X13_wakes [vR 577] eNT e ewP h KI KX = KI (slp (h 578)) eNT e ewP (rw8 h (dWake (h 578))) := by
  refine eCi_eq X (fun Q H => ?_) KI KX
  refine bk_X13_wakes_0 X 577 eNT e ewP h Q ?_
  rw [if_pos mk577, m_asleep o.2.1 o.1 o.2.2.2.2.1]
  rw [slp_T o, dWake_T o] at H
  have e1 : rWk (h 578) T 0 0 = h 578 := by
    funext z
    unfold rWk
    by_cases c : 64 ≤ z ∧ z < 69 + 25 * 0 + 4 * 0
    · rw [if_pos c, wk_id (by omega) (Or.inl (by omega))]
    · rw [if_neg c]
  have := lp_wko (X := X) (e := e) (h := h) (s := sumF (fun i => fFrg (wW (h 578) i) 0 (T i)) 0 N) o N 0 vJ (by omega) Q H
  rw [e1, rw8_id] at this
  exact this
end
