/-! the reference: orders refused or done -/
def rw8 (h : Nat → Nat → Int) (w : Nat → Int) : Nat → Nat → Int := fun c => if c = 578 then w else h c
theorem rw8_s {h : Nat → Nat → Int} {w : Nat → Int} : rw8 h w 578 = w := by unfold rw8; rw [if_pos rfl]
theorem rw8_o {h : Nat → Nat → Int} {w : Nat → Int} {c : Nat} (q : c ≠ 578) : rw8 h w c = h c := by unfold rw8; rw [if_neg q]
theorem rw8_rw8 {h : Nat → Nat → Int} {w w' : Nat → Int} : rw8 (rw8 h w) w' = rw8 h w' := by
  funext c
  by_cases q : c = 578
  · subst q; rw [rw8_s, rw8_s]
  · rw [rw8_o q, rw8_o q, rw8_o q]
theorem rw8_id {h : Nat → Nat → Int} : rw8 h (h 578) = h := by
  funext c
  by_cases q : c = 578
  · subst q; rw [rw8_s]
  · rw [rw8_o q]
theorem up8 {h : Nat → Nat → Int} {k : Nat} {v : Int} : up h 578 k v = rw8 h (rSet (h 578) k v) := by
  funext c
  by_cases q : c = 578
  · subst q; rw [rw8_s]; funext j; rw [up_at]; rfl
  · rw [rw8_o q, up_ne q]
theorem rw8_up8 {h : Nat → Nat → Int} {w : Nat → Int} {k : Nat} {v : Int} : up (rw8 h w) 578 k v = rw8 h (rSet w k v) := by
  rw [up8, rw8_s, rw8_rw8]
theorem rSet_eq {w : Nat → Int} {k : Nat} {v : Int} : rSet w k v k = v := by unfold rSet; rw [if_pos rfl]
theorem rSet_ne {w : Nat → Int} {k j : Nat} {v : Int} (q : j ≠ k) : rSet w k v j = w j := by unfold rSet; rw [if_neg q]
section
variable {X : eX} {e : Nat} {h : Nat → Nat → Int} {N R : Nat} {T : Nat → Nat}
theorem m_wellQ {x : Int} (o : rOk (h 578) N R T) (KI KX) : eCi X m_X13_isWell [vR 577, vI x] eNT e ewP h KI KX = KI (if 0 ≤ x ∧ x < h 578 0 then 1 else 0) eNT e ewP h := m_isWell (by have := o.1; have := o.2.1; omega) KI KX
theorem m_ropeQ {x : Int} (o : rOk (h 578) N R T) (KI KX) : eCi X m_X13_isRope [vR 577, vI x] eNT e ewP h KI KX = KI (if 0 ≤ x ∧ x < h 578 1 then 1 else 0) eNT e ewP h := m_isRope (by have := o.2.2.1; have := o.2.2.2.1; omega) KI KX
theorem n_dig {d b : Int} (o : rOk (h 578) N R T) {KI KX} (HR : ∀ r y, nDig (h 578) d b = (r, y) → r ≠ 0 → KI 1 eNT e ewP (up (up h 577 5 r) 577 6 y)) (HD : nDig (h 578) d b = (0, 0) → KI 0 eNT e ewP h) : eCi X m_X13_notDig [vR 577, vI d, vI b] eNT e ewP h KI KX := by
  refine bk_X13_notDig_0 X 577 d b eNT e ewP h _ ?_
  have o1 := o.1
  have o2 := o.2.1
  rw [m_isBetween]
  by_cases q1 : 1 ≤ d ∧ d ≤ 30
  · rw [if_pos q1, if_neg (by decide), m_isBetween]
    by_cases q2 : 0 ≤ b ∧ b ≤ 2
    · rw [if_pos q2, if_neg (by decide)]
      simp only [mk577, mk578, mk579, mk580, mk581, mk582, mk583, mk584, mk585, mk586, mk587, mn578, mn579, mn580, mn581, mn582, mn583, mn584, mn585, mn586, mn587, mp578, mp579, mp580, mp581, mp582, mp583, mp584, mp585, mp586, mp587, ite_true, true_and, and_true, m_isNot]
      rw [if_pos (by decide), show (0 : Int).toNat = 0 from rfl]
      by_cases q3 : h 578 0 < 8
      · rw [if_neg (by omega)]
        exact HD (by unfold nDig; rw [if_pos q1, if_pos q2, if_pos q3])
      · rw [if_pos (by omega)]
        exact HR 1 8 (by unfold nDig; rw [if_pos q1, if_pos q2, if_neg q3]) (by decide)
    · rw [if_neg q2, if_pos rfl, if_pos mk577, m_isNot]
      exact HR 3 b (by unfold nDig; rw [if_pos q1, if_neg q2]) (by decide)
  · rw [if_neg q1, if_pos rfl, if_pos mk577, m_isNot]
    exact HR 3 d (by unfold nDig; rw [if_neg q1]) (by decide)
theorem wl_i {w : Nat → Int} {x : Int} (o : rOk w N R T) (q : 0 ≤ x ∧ x < w 0) : x.toNat < 8 ∧ ((x.toNat : Nat) : Int) = x ∧ wOk (wW w x.toNat) (wW w x.toNat 2).toNat ∧ wW w x.toNat 2 = (((wW w x.toNat 2).toNat : Nat) : Int) ∧ (wW w x.toNat 2).toNat ≤ 5 ∧ x.toNat < N := by
  have h1 := o.1
  have h2 := o.2.1
  have h3 := o.2.2.2.2.1 x.toNat (by omega)
  rw [rOk_T o (by omega)]
  exact ⟨by omega, by omega, h3, h3.2.1, h3.1, by omega⟩
theorem n_deepen {x m : Int} (o : rOk (h 578) N R T) {KI KX} (HR : ∀ r y, nDeepen (h 578) x m = (r, y) → r ≠ 0 → KI 1 eNT e ewP (up (up h 577 5 r) 577 6 y)) (HD : nDeepen (h 578) x m = (0, 0) → KI 0 eNT e ewP h) : eCi X m_X13_notDeepen [vR 577, vI x, vI m] eNT e ewP h KI KX := by
  refine bk_X13_notDeepen_0 X 577 x m eNT e ewP h _ ?_
  rw [if_pos mk577, m_wellQ o]
  by_cases q1 : 0 ≤ x ∧ x < h 578 0
  · obtain ⟨w1, w2, w3, w4, w5, w6⟩ := wl_i o q1
    have w7 := w3.2.2.1
    have mo := fun KI KX => @m_of X e h x.toNat 0 w1 (by decide) KI KX
    rw [w2] at mo
    rw [if_pos q1, if_neg (by decide), m_isBetween]
    by_cases q2 : 1 ≤ m ∧ m ≤ 29
    · rw [if_pos q2, if_neg (by decide)]
      simp only [mk577, mk578, mk579, mk580, mk581, mk582, mk583, mk584, mk585, mk586, mk587, mn578, mn579, mn580, mn581, mn582, mn583, mn584, mn585, mn586, mn587, mp578, mp579, mp580, mp581, mp582, mp583, mp584, mp585, mp586, mp587, ite_true, true_and, and_true, m_isNot, mo]
      rw [show (0 : Int).toNat = 0 from rfl, wrn (x := _ + m) (by omega) (by omega), wrn (x := 30 - _) (by omega) (by omega)]
      by_cases q3 : wW (h 578) x.toNat 0 + m ≤ 30
      · first | rw [if_pos q3] | rw [if_neg (by omega)]
        exact HD (by unfold nDeepen; rw [if_pos q1, if_pos q2, if_pos q3])
      · first | rw [if_neg q3] | rw [if_pos (by omega)]
        exact HR 4 _ (by unfold nDeepen; rw [if_pos q1, if_pos q2, if_neg q3]) (by decide)
    · rw [if_neg q2, if_pos rfl, if_pos mk577, m_isNot]
      exact HR 3 m (by unfold nDeepen; rw [if_pos q1, if_neg q2]) (by decide)
  · rw [if_neg q1, if_pos rfl, if_pos mk577, m_isNot]
    exact HR 2 x (by unfold nDeepen; rw [if_neg q1]) (by decide)
theorem n_fill {x : Int} (o : rOk (h 578) N R T) {KI KX} (HR : ∀ r y, nFill (h 578) x = (r, y) → r ≠ 0 → KI 1 eNT e ewP (up (up h 577 5 r) 577 6 y)) (HD : nFill (h 578) x = (0, 0) → KI 0 eNT e ewP h) : eCi X m_X13_notFill [vR 577, vI x] eNT e ewP h KI KX := by
  refine bk_X13_notFill_0 X 577 x eNT e ewP h _ ?_
  rw [if_pos mk577, m_wellQ o]
  by_cases q1 : 0 ≤ x ∧ x < h 578 0
  · rw [if_pos q1, if_neg (by decide)]
    exact HD (by unfold nFill; rw [if_pos q1])
  · rw [if_neg q1, if_pos rfl, if_pos mk577, m_isNot]
    exact HR 2 x (by unfold nFill; rw [if_neg q1]) (by decide)
theorem n_thing {x d v lo hi : Int} (o : rOk (h 578) N R T) {KI KX} (HR : ∀ r y, nThing (h 578) x d v lo hi = (r, y) → r ≠ 0 → KI 1 eNT e ewP (up (up h 577 5 r) 577 6 y)) (HD : nThing (h 578) x d v lo hi = (0, 0) → KI 0 eNT e ewP h) : eCi X m_X13_notThing [vR 577, vI x, vI d, vI v, vI lo, vI hi] eNT e ewP h KI KX := by
  refine bk_X13_notThing_0 X 577 x d v lo hi eNT e ewP h _ ?_
  rw [if_pos mk577, m_wellQ o]
  by_cases q1 : 0 ≤ x ∧ x < h 578 0
  · obtain ⟨w1, w2, w3, w4, w5, w6⟩ := wl_i o q1
    have mo := fun j (hj : 0 ≤ j ∧ j < 25) KI KX => @m_of X e h x.toNat j w1 hj KI KX
    rw [w2] at mo
    rw [if_pos q1, if_neg (by decide), m_isBetween]
    by_cases q2 : 1 ≤ d ∧ d ≤ 30
    · rw [if_pos q2, if_neg (by decide), m_isBetween]
      by_cases q3 : lo ≤ v ∧ v ≤ hi
      · rw [if_pos q3, if_neg (by decide)]
        simp only [mk577, mk578, mk579, mk580, mk581, mk582, mk583, mk584, mk585, mk586, mk587, mn578, mn579, mn580, mn581, mn582, mn583, mn584, mn585, mn586, mn587, mp578, mp579, mp580, mp581, mp582, mp583, mp584, mp585, mp586, mp587, ite_true, true_and, and_true, m_isNot, mo 0 (by decide), mo 2 (by decide)]
        rw [show (0 : Int).toNat = 0 from rfl, show (2 : Int).toNat = 2 from rfl]
        by_cases q4 : d ≤ wW (h 578) x.toNat 0
        · rw [if_pos q4]
          by_cases q5 : wW (h 578) x.toNat 2 < 5
          · rw [if_neg (by omega)]
            exact HD (by unfold nThing; rw [if_pos q1, if_pos q2, if_pos q3, if_pos q4, if_pos q5])
          · rw [if_pos (by omega)]
            exact HR 1 5 (by unfold nThing; rw [if_pos q1, if_pos q2, if_pos q3, if_pos q4, if_neg q5]) (by decide)
        · rw [if_neg q4]
          exact HR 5 _ (by unfold nThing; rw [if_pos q1, if_pos q2, if_pos q3, if_neg q4]) (by decide)
      · rw [if_neg q3, if_pos rfl, if_pos mk577, m_isNot]
        exact HR 3 v (by unfold nThing; rw [if_pos q1, if_pos q2, if_neg q3]) (by decide)
    · rw [if_neg q2, if_pos rfl, if_pos mk577, m_isNot]
      exact HR 3 d (by unfold nThing; rw [if_pos q1, if_neg q2]) (by decide)
  · rw [if_neg q1, if_pos rfl, if_pos mk577, m_isNot]
    exact HR 2 x (by unfold nThing; rw [if_neg q1]) (by decide)
theorem n_take {x t : Int} (o : rOk (h 578) N R T) {KI KX} (HR : ∀ r y, nTake (h 578) x t = (r, y) → r ≠ 0 → KI 1 eNT e ewP (up (up h 577 5 r) 577 6 y)) (HD : nTake (h 578) x t = (0, 0) → KI 0 eNT e ewP h) : eCi X m_X13_notTake [vR 577, vI x, vI t] eNT e ewP h KI KX := by
  refine bk_X13_notTake_0 X 577 x t eNT e ewP h _ ?_
  rw [if_pos mk577, m_wellQ o]
  by_cases q1 : 0 ≤ x ∧ x < h 578 0
  · obtain ⟨w1, w2, w3, w4, w5, w6⟩ := wl_i o q1
    have mo := fun KI KX => @m_isThing X e h x.toNat (wW (h 578) x.toNat 2).toNat t w1 w4 w5 KI KX
    rw [w2, ← w4] at mo
    rw [if_pos q1, if_neg (by decide), if_pos mk577, mo]
    by_cases q2 : 0 ≤ t ∧ t < wW (h 578) x.toNat 2
    · rw [if_pos q2, if_neg (by decide)]
      exact HD (by unfold nTake; rw [if_pos q1, if_pos q2])
    · rw [if_neg q2, if_pos rfl, if_pos mk577, m_isNot]
      exact HR 2 t (by unfold nTake; rw [if_pos q1, if_neg q2]) (by decide)
  · rw [if_neg q1, if_pos rfl, if_pos mk577, m_isNot]
    exact HR 2 x (by unfold nTake; rw [if_neg q1]) (by decide)
theorem n_rope {x : Int} (o : rOk (h 578) N R T) {KI KX} (HR : ∀ r y, nRope (h 578) x = (r, y) → r ≠ 0 → KI 1 eNT e ewP (up (up h 577 5 r) 577 6 y)) (HD : nRope (h 578) x = (0, 0) → KI 0 eNT e ewP h) : eCi X m_X13_notRope [vR 577, vI x] eNT e ewP h KI KX := by
  refine bk_X13_notRope_0 X 577 x eNT e ewP h _ ?_
  have o1 := o.2.2.1
  have o2 := o.2.2.2.1
  rw [m_isBetween]
  by_cases q1 : 1 ≤ x ∧ x ≤ 30
  · rw [if_pos q1, if_neg (by decide)]
    simp only [mk577, mk578, mk579, mk580, mk581, mk582, mk583, mk584, mk585, mk586, mk587, mn578, mn579, mn580, mn581, mn582, mn583, mn584, mn585, mn586, mn587, mp578, mp579, mp580, mp581, mp582, mp583, mp584, mp585, mp586, mp587, ite_true, true_and, and_true, m_isNot]
    rw [if_pos (by decide), show (1 : Int).toNat = 1 from rfl]
    by_cases q3 : h 578 1 < 3
    · rw [if_neg (by omega)]
      exact HD (by unfold nRope; rw [if_pos q1, if_pos q3])
    · rw [if_pos (by omega)]
      exact HR 1 3 (by unfold nRope; rw [if_pos q1, if_neg q3]) (by decide)
  · rw [if_neg q1, if_pos rfl, if_pos mk577, m_isNot]
    exact HR 3 x (by unfold nRope; rw [if_neg q1]) (by decide)
theorem rp_i {w : Nat → Int} {y : Int} (o : rOk w N R T) (q : 0 ≤ y ∧ y < w 1) : y.toNat < 3 ∧ ((y.toNat : Nat) : Int) = y ∧ (0 ≤ w (56 + 3 * y.toNat) ∧ w (56 + 3 * y.toNat) ≤ 8) ∧ w (56 + 3 * y.toNat) ≤ w 0 ∧ y.toNat < R := by
  have h1 := o.2.2.1
  have h2 := o.2.2.2.1
  have h3 := (o.2.2.2.2.2.1 y.toNat (by omega)).2
  have h4 := o.1
  have h5 := o.2.1
  exact ⟨by omega, by omega, by omega, by omega, by omega⟩
theorem n_bind {y x : Int} (o : rOk (h 578) N R T) {KI KX} (HR : ∀ r z, nBind (h 578) y x = (r, z) → r ≠ 0 → KI 1 eNT e ewP (up (up h 577 5 r) 577 6 z)) (HD : nBind (h 578) y x = (0, 0) → KI 0 eNT e ewP h) : eCi X m_X13_notBind [vR 577, vI y, vI x] eNT e ewP h KI KX := by
  refine bk_X13_notBind_0 X 577 y x eNT e ewP h _ ?_
  rw [if_pos mk577, m_ropeQ o]
  by_cases q1 : 0 ≤ y ∧ y < h 578 1
  · obtain ⟨w1, w2, w3, w4, w5⟩ := rp_i o q1
    have mo := fun KI KX => @m_boundTo X e h y.toNat w1 w3 KI KX
    rw [w2] at mo
    rw [if_pos q1, if_neg (by decide), if_pos mk577, m_wellQ o]
    by_cases q2 : 0 ≤ x ∧ x < h 578 0
    · rw [if_pos q2, if_neg (by decide), if_pos mk577, mo]
      by_cases q3 : h 578 (56 + 3 * y.toNat) - 1 = x
      · rw [if_pos q3, if_pos mk577, m_isNot]
        exact HR 6 x (by unfold nBind; rw [if_pos q1, if_pos q2, if_pos q3]) (by decide)
      · rw [if_neg q3]
        exact HD (by unfold nBind; rw [if_pos q1, if_pos q2, if_neg q3])
    · rw [if_neg q2, if_pos rfl, if_pos mk577, m_isNot]
      exact HR 2 x (by unfold nBind; rw [if_pos q1, if_neg q2]) (by decide)
  · rw [if_neg q1, if_pos rfl, if_pos mk577, m_isNot]
    exact HR 2 y (by unfold nBind; rw [if_neg q1]) (by decide)
theorem n_fish {y : Int} (o : rOk (h 578) N R T) {KI KX} (HR : ∀ r z, nFish (h 578) y = (r, z) → r ≠ 0 → KI 1 eNT e ewP (up (up h 577 5 r) 577 6 z)) (HD : nFish (h 578) y = (0, 0) → KI 0 eNT e ewP h) : eCi X m_X13_notFish [vR 577, vI y] eNT e ewP h KI KX := by
  refine bk_X13_notFish_0 X 577 y eNT e ewP h _ ?_
  rw [if_pos mk577, m_ropeQ o]
  by_cases q1 : 0 ≤ y ∧ y < h 578 1
  · obtain ⟨w1, w2, w3, w4, w5⟩ := rp_i o q1
    have mo := fun KI KX => @m_boundTo X e h y.toNat w1 w3 KI KX
    rw [w2] at mo
    rw [if_pos q1, if_neg (by decide), if_pos mk577, mo]
    by_cases q2 : h 578 (56 + 3 * y.toNat) - 1 < 0
    · have mr := fun KI KX => @m_ropeIs X e h y.toNat 0 w1 (by decide) KI KX
      rw [w2] at mr
      simp only [Int.natCast_zero, Nat.add_zero] at mr
      rw [if_pos q2, if_pos mk577, mr, if_pos mk577, m_isNot]
      exact HR 7 _ (by unfold nFish; rw [if_pos q1, if_pos q2]) (by decide)
    · obtain ⟨v1, v2, v3, v4, v5, v6⟩ := wl_i o (show 0 ≤ h 578 (56 + 3 * y.toNat) - 1 ∧ h 578 (56 + 3 * y.toNat) - 1 < h 578 0 by omega)
      have mr := fun KI KX => @m_reached X e h (h 578 (56 + 3 * y.toNat) - 1).toNat _ y.toNat v1 w1 v4 v5 (by omega) fAt_ex KI KX
      rw [w2] at mr
      have eR : rchF (wW (h 578) (h 578 (56 + 3 * y.toNat) - 1).toNat) (wW (h 578) (h 578 (56 + 3 * y.toNat) - 1).toNat 2).toNat (h 578 (55 + 3 * y.toNat)) 0 (wW (h 578) (h 578 (56 + 3 * y.toNat) - 1).toNat 2).toNat = wRch (h 578) y.toNat := rfl
      rw [if_neg q2, if_pos mk577, mr, eR]
      by_cases q3 : wRch (h 578) y.toNat = -1
      · have mc := fun KI KX => @m_countThings X e h (h 578 (56 + 3 * y.toNat) - 1).toNat _ 0 0 v1 v4 v5 KI KX
        rw [v2, mCt_c] at mc
        rw [if_pos (by omega), if_pos mk577, mo, if_pos mk577, mc, if_pos mk577, m_isNot]
        exact HR 8 _ (by unfold nFish; rw [if_pos q1, if_neg q2, if_pos q3]) (by decide)
      · have : 0 ≤ wRch (h 578) y.toNat := by
          rcases rch_rng (f := wW (h 578) (h 578 (56 + 3 * y.toNat) - 1).toNat) (n := (wW (h 578) (h 578 (56 + 3 * y.toNat) - 1).toNat 2).toNat) (len := h 578 (55 + 3 * y.toNat)) with q4 | ⟨t, ht, q4, q5⟩
          · exact absurd q4 q3
          · rw [eR] at q4; omega
        rw [if_neg (by omega)]
        exact HD (by unfold nFish; rw [if_pos q1, if_neg q2, if_neg q3])
  · rw [if_neg q1, if_pos rfl, if_pos mk577, m_isNot]
    exact HR 2 y (by unfold nFish; rw [if_neg q1]) (by decide)
theorem n_shout {x : Int} {m : Nat} (o : rOk (h 578) N R T) {KI KX} (HR : ∀ r y, nShout (h 578) x m = (r, y) → r ≠ 0 → KI 1 eNT e ewP (up (up h 577 5 r) 577 6 y)) (HD : nShout (h 578) x m = (0, 0) → KI 0 eNT e ewP h) : eCi X m_X13_notShout [vR 577, vI x, vI (m : Int)] eNT e ewP h KI KX := by
  refine bk_X13_notShout_0 X 577 x m eNT e ewP h _ ?_
  rw [if_pos mk577, m_wellQ o]
  by_cases q1 : 0 ≤ x ∧ x < h 578 0
  · rw [if_pos q1, if_neg (by decide)]
    by_cases q2 : m = 0
    · rw [if_pos (by omega)]
      simp only [mk577, mk578, mk579, mk580, mk581, mk582, mk583, mk584, mk585, mk586, mk587, mn578, mn579, mn580, mn581, mn582, mn583, mn584, mn585, mn586, mn587, mp578, mp579, mp580, mp581, mp582, mp583, mp584, mp585, mp586, mp587, ite_true, true_and, and_true, m_isNot]
      rw [if_pos (by decide)]
      exact HR 9 _ (by unfold nShout; rw [if_pos q1, if_pos q2]; rfl) (by decide)
    · rw [if_neg (by omega)]
      exact HD (by unfold nShout; rw [if_pos q1, if_neg q2])
  · rw [if_neg q1, if_pos rfl, if_pos mk577, m_isNot]
    exact HR 2 x (by unfold nShout; rw [if_neg q1]) (by decide)
theorem lp_digs {d b : Int} {n : Nat} (h8 : n < 8) : ∀ (j k : Nat) (w : Nat → Int), k + j = 25 → w 0 = (n : Int) → ∀ Q, Q (.inl (some (vI (n : Int)))) (eNT, e, ewP, rw8 h (fun z => if 64 + 25 * n + k ≤ z ∧ z < 89 + 25 * n then (if z = 64 + 25 * n then d else if z = 65 + 25 * n then b else 0) else if z = 0 then (n : Int) + 1 else if z = 64 + 25 * n then d else if z = 65 + 25 * n then b else w z)) → eP X m_X13_digs 7 [vR 577, vI d, vI b, vI (n : Int), vI (k : Int)] [] (eNT, e, ewP, rw8 h w) Q := by
  intro j
  induction j with
  | zero =>
    intro k w hk h0 Q H
    refine bk_X13_digs_7 X 577 d b n k eNT e ewP _ Q ?_
    rw [if_neg (by omega), if_pos mk577, m_sets h8 (by decide), if_pos mk577, m_sets h8 (by decide)]
    simp only [mk577, mk578, mk579, mk580, mk581, mk582, mk583, mk584, mk585, mk586, mk587, mn578, mn579, mn580, mn581, mn582, mn583, mn584, mn585, mn586, mn587, mp578, mp579, mp580, mp581, mp582, mp583, mp584, mp585, mp586, mp587, ite_true, true_and, and_true, rw8_up8, rw8_s]
    rw [if_pos (by decide), show (0 : Int).toNat = 0 from rfl, show (1 : Int).toNat = 1 from rfl, rSet_ne (by omega), rSet_ne (by omega), h0, wrn (by omega) (by omega)]
    have e1 : rSet (rSet (rSet w (64 + 25 * n + 0) d) (64 + 25 * n + 1) b) 0 ((n : Int) + 1) = (fun z => if 64 + 25 * n + k ≤ z ∧ z < 89 + 25 * n then (if z = 64 + 25 * n then d else if z = 65 + 25 * n then b else 0) else if z = 0 then (n : Int) + 1 else if z = 64 + 25 * n then d else if z = 65 + 25 * n then b else w z) := by
      funext z
      unfold rSet
      repeat' split
      all_goals first | rfl | omega
    rw [e1]
    exact H
  | succ j ih =>
    intro k w hk h0 Q H
    refine bk_X13_digs_7 X 577 d b n k eNT e ewP _ Q ?_
    rw [if_pos (by omega), if_pos mk577, m_sets h8 (by omega), rw8_up8, wi1 (by omega), Int.toNat_natCast]
    refine ih (k + 1) _ (by omega) (by rw [rSet_ne (by omega)]; exact h0) Q ?_
    have e1 : (fun z => if 64 + 25 * n + (k + 1) ≤ z ∧ z < 89 + 25 * n then (if z = 64 + 25 * n then d else if z = 65 + 25 * n then b else 0) else if z = 0 then (n : Int) + 1 else if z = 64 + 25 * n then d else if z = 65 + 25 * n then b else rSet w (64 + 25 * n + k) 0 z) = (fun z => if 64 + 25 * n + k ≤ z ∧ z < 89 + 25 * n then (if z = 64 + 25 * n then d else if z = 65 + 25 * n then b else 0) else if z = 0 then (n : Int) + 1 else if z = 64 + 25 * n then d else if z = 65 + 25 * n then b else w z) := by
      funext z
      unfold rSet
      repeat' split
      all_goals first | rfl | omega
    rw [e1]
    exact H
theorem m_digs {d b : Int} (o : rOk (h 578) N R T) (hN : N < 8) (KI KX) : eCi X m_X13_digs [vR 577, vI d, vI b] eNT e ewP h KI KX = KI (N : Int) eNT e ewP (rw8 h (rDig (h 578) N d b)) := by
  refine eCi_eq X (fun Q H => ?_) KI KX
  refine bk_X13_digs_0 X 577 d b eNT e ewP h Q ?_
  simp only [mk577, mk578, mk579, mk580, mk581, mk582, mk583, mk584, mk585, mk586, mk587, mn578, mn579, mn580, mn581, mn582, mn583, mn584, mn585, mn586, mn587, mp578, mp579, mp580, mp581, mp582, mp583, mp584, mp585, mp586, mp587, ite_true, true_and, and_true]
  rw [if_pos (by decide), show (0 : Int).toNat = 0 from rfl, o.1]
  have := lp_digs (X := X) (e := e) (h := h) (d := d) (b := b) hN 25 0 (h 578) (by omega) o.1 Q
  rw [rw8_id] at this
  refine this ?_
  have e1 : (fun z => if 64 + 25 * N + 0 ≤ z ∧ z < 89 + 25 * N then (if z = 64 + 25 * N then d else if z = 65 + 25 * N then b else 0) else if z = 0 then (N : Int) + 1 else if z = 64 + 25 * N then d else if z = 65 + 25 * N then b else h 578 z) = rDig (h 578) N d b := by
    funext z
    unfold rDig
    by_cases a1 : 64 + 25 * N ≤ z ∧ z < 89 + 25 * N
    · rw [if_pos (by omega), if_pos a1]
    · rw [if_neg (by omega), if_neg a1]
      by_cases a2 : z = 0
      · rw [if_pos a2, if_pos a2]
      · rw [if_neg a2, if_neg a2, if_neg (by omega), if_neg (by omega)]
  rw [e1]
  exact H
theorem m_deepens {x m : Int} (o : rOk (h 578) N R T) (q : 0 ≤ x ∧ x < h 578 0) (hm : 1 ≤ m ∧ m ≤ 29) (KI KX) : eCi X m_X13_deepens [vR 577, vI x, vI m] eNT e ewP h KI KX = KI (wW (h 578) x.toNat 0 + m) eNT e ewP (rw8 h (dDeepen (h 578) x.toNat m)) := by
  refine eCi_eq X (fun Q H => ?_) KI KX
  refine bk_X13_deepens_0 X 577 x m eNT e ewP h Q ?_
  obtain ⟨w1, w2, w3, w4, w5, w6⟩ := wl_i o q
  have w7 := w3.2.2.1
  have mo := fun h KI KX => @m_of X e h x.toNat 0 w1 (by decide) KI KX
  have ms := fun v KI KX => @m_sets X e h x.toNat 0 v w1 (by decide) KI KX
  rw [w2] at mo ms
  rw [if_pos mk577, mo, if_pos mk577, ms, if_pos mk577, mo, show (0 : Int).toNat = 0 from rfl, wrn (by omega) (by omega)]
  have e1 : wW (up h 578 (64 + 25 * x.toNat + 0) (wW (h 578) x.toNat 0 + m) 578) x.toNat 0 = wW (h 578) x.toNat 0 + m := by
    unfold wW
    rw [up_eq]
  have e2 : up h 578 (64 + 25 * x.toNat + 0) (wW (h 578) x.toNat 0 + m) = rw8 h (dDeepen (h 578) x.toNat m) := by
    rw [up8]
    congr 1
    funext z
    unfold rSet dDeepen rWell gDp wW
    by_cases a1 : 64 + 25 * x.toNat ≤ z ∧ z < 89 + 25 * x.toNat
    · rw [if_pos a1]
      by_cases a2 : z = 64 + 25 * x.toNat + 0
      · rw [if_pos a2, if_pos (by omega)]
      · rw [if_neg a2, if_neg (by omega)]
        congr 1
        omega
    · rw [if_neg (by omega), if_neg a1]
  rw [e1, e2]
  exact H
set_option maxRecDepth 8000 in
theorem lp_shift {i n t : Nat} {x y z1 : Int} (hi : i < 8) (hn : n < 5) : ∀ (j k : Nat) (w : Nat → Int), k + j = 64 + 25 * i + 5 + 4 * n → 64 ≤ k → ∀ Q, eP X m_X13_takes 48 [vR 577, vI x, vI y, vI z1, vI ((64 + 25 * i + 5 + 4 * n : Nat) : Int), vI 0] [] (eNT, e, ewP, rw8 h (fun z => if k ≤ z ∧ z < 64 + 25 * i + 5 + 4 * n then w (z + 4) else w z)) Q → eP X m_X13_takes 31 [vR 577, vI x, vI y, vI z1, vI ((64 + 25 * i + 5 + 4 * n : Nat) : Int), vI (k : Int)] [] (eNT, e, ewP, rw8 h w) Q := by
  intro j
  induction j with
  | zero =>
    intro k w hk h64 Q H
    refine bk_X13_takes_31 X 577 x y z1 _ k eNT e ewP _ Q ?_
    rw [if_neg (by omega)]
    have e1 : (fun z => if k ≤ z ∧ z < 64 + 25 * i + 5 + 4 * n then w (z + 4) else w z) = w := by
      funext z
      rw [if_neg (by omega)]
    rw [e1] at H
    exact H
  | succ j ih =>
    intro k w hk h64 Q H
    refine bk_X13_takes_31 X 577 x y z1 _ k eNT e ewP _ Q ?_
    have e4 : wr ((k : Int) + 4) = ((k + 4 : Nat) : Int) := by rw [wrn (by omega) (by omega)]; omega
    simp only [mk577, mk578, mk579, mk580, mk581, mk582, mk583, mk584, mk585, mk586, mk587, mn578, mn579, mn580, mn581, mn582, mn583, mn584, mn585, mn586, mn587, mp578, mp579, mp580, mp581, mp582, mp583, mp584, mp585, mp586, mp587, ite_true, true_and, and_true, rw8_up8, rw8_s, e4, Int.toNat_natCast]
    rw [if_pos (by omega), if_pos ⟨by omega, by omega⟩, if_pos ⟨by omega, by omega⟩, wi1 (by omega)]
    refine ih (k + 1) _ (by omega) (by omega) Q ?_
    have e1 : (fun z => if k + 1 ≤ z ∧ z < 64 + 25 * i + 5 + 4 * n then rSet w k (w (k + 4)) (z + 4) else rSet w k (w (k + 4)) z) = (fun z => if k ≤ z ∧ z < 64 + 25 * i + 5 + 4 * n then w (z + 4) else w z) := by
      funext z
      by_cases a0 : z = k
      · rw [if_neg (by omega), if_pos (by omega), a0, rSet_eq]
      · by_cases a1 : k ≤ z ∧ z < 64 + 25 * i + 5 + 4 * n
        · rw [if_pos (by omega), if_pos a1, rSet_ne (by omega)]
        · rw [if_neg (by omega), if_neg a1, rSet_ne a0]
    rw [e1]
    exact H
set_option maxRecDepth 8000 in
theorem lp_zero {i n : Nat} {y : Int} (hi : i < 8) (hn : n < 5) : ∀ (j k : Nat) (w : Nat → Int), k + j = 4 → ∀ Q, Q (.inl (some (vI (n : Int)))) (eNT, e, ewP, rw8 h (rSet (fun z => if 64 + 25 * i + 5 + 4 * n + k ≤ z ∧ z < 64 + 25 * i + 9 + 4 * n then 0 else w z) (64 + 25 * i + 2) (n : Int))) → eP X m_X13_takes 48 [vR 577, vI (i : Int), vI y, vI (n : Int), vI ((64 + 25 * i + 5 + 4 * n : Nat) : Int), vI (k : Int)] [] (eNT, e, ewP, rw8 h w) Q := by
  intro j
  induction j with
  | zero =>
    intro k w hk Q H
    refine bk_X13_takes_48 X 577 i y n _ k eNT e ewP _ Q ?_
    rw [if_neg (by omega), if_pos mk577, m_sets hi (by decide), rw8_up8, show (2 : Int).toNat = 2 from rfl]
    have e1 : (fun z => if 64 + 25 * i + 5 + 4 * n + k ≤ z ∧ z < 64 + 25 * i + 9 + 4 * n then 0 else w z) = w := by
      funext z
      rw [if_neg (by omega)]
    rw [e1] at H
    exact H
  | succ j ih =>
    intro k w hk Q H
    refine bk_X13_takes_48 X 577 i y n _ k eNT e ewP _ Q ?_
    have e4 : wr (((64 + 25 * i + 5 + 4 * n : Nat) : Int) + (k : Int)) = ((64 + 25 * i + 5 + 4 * n + k : Nat) : Int) := by rw [wrn (by omega) (by omega)]; omega
    simp only [mk577, mk578, mk579, mk580, mk581, mk582, mk583, mk584, mk585, mk586, mk587, mn578, mn579, mn580, mn581, mn582, mn583, mn584, mn585, mn586, mn587, mp578, mp579, mp580, mp581, mp582, mp583, mp584, mp585, mp586, mp587, ite_true, true_and, and_true, rw8_up8, rw8_s, e4, Int.toNat_natCast]
    rw [if_pos (by omega), if_pos ⟨by omega, by omega⟩, wi1 (by omega)]
    refine ih (k + 1) _ (by omega) Q ?_
    have e1 : (fun z => if 64 + 25 * i + 5 + 4 * n + (k + 1) ≤ z ∧ z < 64 + 25 * i + 9 + 4 * n then 0 else rSet w (64 + 25 * i + 5 + 4 * n + k) 0 z) = (fun z => if 64 + 25 * i + 5 + 4 * n + k ≤ z ∧ z < 64 + 25 * i + 9 + 4 * n then 0 else w z) := by
      funext z
      by_cases a0 : z = 64 + 25 * i + 5 + 4 * n + k
      · rw [if_neg (by omega), if_pos (by omega), a0, rSet_eq]
      · rw [rSet_ne a0]
        by_cases a1 : 64 + 25 * i + 5 + 4 * n + k ≤ z ∧ z < 64 + 25 * i + 9 + 4 * n
        · rw [if_pos (by omega), if_pos a1]
        · rw [if_neg (by omega), if_neg a1]
    rw [e1]
    exact H
set_option maxRecDepth 8000 in
theorem m_takes {i t n : Nat} (hi : i < 8) (hn : wW (h 578) i 2 = (n : Int)) (h5 : n ≤ 5) (ht : t < n) (KI KX) : eCi X m_X13_takes [vR 577, vI (i : Int), vI (t : Int)] eNT e ewP h KI KX = KI ((n : Int) - 1) eNT e ewP (rw8 h (dTake (h 578) i t)) := by
  refine eCi_eq X (fun Q H => ?_) KI KX
  refine bk_X13_takes_0 X 577 i t eNT e ewP h Q ?_
  rw [if_pos mk577, m_of hi (by decide), show (2 : Int).toNat = 2 from rfl, hn]
  have e1 : wr ((n : Int) - 1) = ((n - 1 : Nat) : Int) := by rw [wrn (by omega) (by omega)]; omega
  rw [e1]
  have e2 : wr (wr (wr (64 + wr (25 * (i : Int))) + 5) + wr (4 * ((n - 1 : Nat) : Int))) = ((64 + 25 * i + 5 + 4 * (n - 1) : Nat) : Int) := by
    rw [wrn (x := 25 * (i : Int)) (by omega) (by omega), wrn (x := 64 + _) (by omega) (by omega), wrn (x := 64 + _ + 5) (by omega) (by omega), wrn (x := 4 * ((n - 1 : Nat) : Int)) (by omega) (by omega), wrn (by omega) (by omega)]; omega
  have e3 : wr (wr (wr (64 + wr (25 * (i : Int))) + 5) + wr (4 * (t : Int))) = ((64 + 25 * i + 5 + 4 * t : Nat) : Int) := by
    rw [wrn (x := 25 * (i : Int)) (by omega) (by omega), wrn (x := 64 + _) (by omega) (by omega), wrn (x := 64 + _ + 5) (by omega) (by omega), wrn (x := 4 * (t : Int)) (by omega) (by omega), wrn (by omega) (by omega)]; omega
  rw [e2, e3]
  have g := lp_shift (X := X) (e := e) (h := h) (t := t) (x := (i : Int)) (y := (t : Int)) (z1 := ((n - 1 : Nat) : Int)) hi (show n - 1 < 5 by omega) (4 * (n - 1 - t)) (64 + 25 * i + 5 + 4 * t) (h 578) (by omega) (by omega) Q
  rw [rw8_id] at g
  refine g ?_
  refine lp_zero hi (show n - 1 < 5 by omega) 4 0 _ (by omega) Q ?_
  have e5 : rSet (fun z => if 64 + 25 * i + 5 + 4 * (n - 1) + 0 ≤ z ∧ z < 64 + 25 * i + 9 + 4 * (n - 1) then 0 else (fun z => if 64 + 25 * i + 5 + 4 * t ≤ z ∧ z < 64 + 25 * i + 5 + 4 * (n - 1) then h 578 (z + 4) else h 578 z) z) (64 + 25 * i + 2) ((n - 1 : Nat) : Int) = dTake (h 578) i t := by
    funext z
    unfold dTake rWell rSet rTake
    rw [hn, Int.toNat_natCast]
    dsimp only
    unfold wW
    by_cases a0 : z = 64 + 25 * i + 2
    · rw [if_pos a0, if_pos (by omega), if_neg (by omega), if_neg (by omega), if_pos (by omega)]; omega
    · rw [if_neg a0]
      by_cases a1 : 64 + 25 * i ≤ z ∧ z < 89 + 25 * i
      · rw [if_pos a1]
        by_cases a2 : 64 + 25 * i + 5 + 4 * (n - 1) + 0 ≤ z ∧ z < 64 + 25 * i + 9 + 4 * (n - 1)
        · rw [if_pos a2, if_neg (by omega), if_pos (by omega)]
        · rw [if_neg a2]
          by_cases a3 : 64 + 25 * i + 5 + 4 * t ≤ z ∧ z < 64 + 25 * i + 5 + 4 * (n - 1)
          · rw [if_pos a3, if_pos (by omega)]
            exact congrArg (h 578) (by omega)
          · rw [if_neg a3, if_neg (by omega), if_neg (by omega), if_neg (by omega)]
            exact congrArg (h 578) (by omega)
      · rw [if_neg a1, if_neg (by omega), if_neg (by omega)]
  rw [e5, show ((n - 1 : Nat) : Int) = (n : Int) - 1 by omega]
  exact H
set_option maxRecDepth 8000 in
theorem m_ropeComes {x : Int} (o : rOk (h 578) N R T) (hR : R < 3) (KI KX) : eCi X m_X13_ropeComes [vR 577, vI x] eNT e ewP h KI KX = KI (R : Int) eNT e ewP (rw8 h (rRope (h 578) R x)) := by
  refine eCi_eq X (fun Q H => ?_) KI KX
  refine bk_X13_ropeComes_0 X 577 x eNT e ewP h Q ?_
  have e0 : wr (55 + wr (3 * h 578 1)) = ((55 + 3 * R : Nat) : Int) := by
    rw [o.2.2.1, wrn (x := 3 * _) (by omega) (by omega), wrn (by omega) (by omega)]; omega
  have e1 : wr (((55 + 3 * R : Nat) : Int) + 1) = ((56 + 3 * R : Nat) : Int) := by rw [wrn (by omega) (by omega)]; omega
  have e2 : wr (((55 + 3 * R : Nat) : Int) + 2) = ((57 + 3 * R : Nat) : Int) := by rw [wrn (by omega) (by omega)]; omega
  simp only [mk577, mk578, mk579, mk580, mk581, mk582, mk583, mk584, mk585, mk586, mk587, mn578, mn579, mn580, mn581, mn582, mn583, mn584, mn585, mn586, mn587, mp578, mp579, mp580, mp581, mp582, mp583, mp584, mp585, mp586, mp587, ite_true, true_and, and_true, show (1 : Int).toNat = 1 from rfl, e0, e1, e2, Int.toNat_natCast, rw8_up8, up8, rw8_s, rSet_eq, rw8_rw8]
  rw [if_pos (by decide), if_pos ⟨by omega, by omega⟩, if_pos ⟨by omega, by omega⟩, if_pos ⟨by omega, by omega⟩, if_pos (by decide), if_pos (by decide), if_pos (by decide)]
  rw [rSet_ne (by omega), rSet_ne (by omega), rSet_ne (by omega), o.2.2.1, wrn (x := (R : Int) + 1) (by omega) (by omega), wrn (by omega) (by omega)]
  have e3 : rSet (rSet (rSet (rSet (h 578) (55 + 3 * R) x) (56 + 3 * R) 0) (57 + 3 * R) 0) 1 ((R : Int) + 1) = rRope (h 578) R x := by
    funext z
    unfold rSet rRope
    by_cases a0 : z = 1
    · rw [if_pos a0, if_neg (by omega), if_neg (by omega), if_neg (by omega), if_pos a0]
    · rw [if_neg a0]
      by_cases a1 : z = 57 + 3 * R
      · rw [if_pos a1, if_neg (by omega), if_neg (by omega), if_pos a1]
      · rw [if_neg a1]
        by_cases a2 : z = 56 + 3 * R
        · rw [if_pos a2, if_neg (by omega), if_pos a2]
        · rw [if_neg a2]
          by_cases a3 : z = 55 + 3 * R
          · rw [if_pos a3, if_pos a3]
          · rw [if_neg a3, if_neg a3, if_neg a2, if_neg a1, if_neg a0]
  rw [e3, show (R : Int) + 1 - 1 = R by omega]
  exact H
end
