/-! what is asked of the reference and changes nothing -/
def gM (g : Int × Int) (e : Nat) (h : Nat → Nat → Int) (KI : Int → Nat → Nat → (Nat → Nat → Nat) → (Nat → Nat → Int) → Prop) : Prop := KI (if g.1 = 0 then g.2 else 0) eNT e ewP (up h 577 0 g.1)
theorem upup {h : Nat → Nat → Int} {c k : Nat} {v v' : Int} : up (up h c k v) c k v' = up h c k v' := by
  funext a j
  unfold up
  split <;> rfl
section
variable {X : eX} {e : Nat} {h : Nat → Nat → Int} {w : Nat → Int} {N R : Nat} {T : Nat → Nat}
theorem h0w (q : h 578 = w) : (up h 577 0 0) 578 = w := by rw [up_ne (by omega)]; exact q
theorem mg_wellOf {x y : Int} (q8 : h 578 = w) (o : rOk w N R T) {KI KX} (H : gM (gW w x y) e h KI) : eCi X m_X13_wellOf [vR 577, vI x, vI y] eNT e ewP h KI KX := by
  refine bk_X13_wellOf_0 X 577 x y eNT e ewP h _ ?_
  have w1 := h0w q8
  have o1 : rOk ((up h 577 0 0) 578) N R T := by rw [w1]; exact o
  rw [if_pos mk577, if_pos mk577, m_wellQ o1, w1]
  unfold gM gW at H
  by_cases q : 0 ≤ x ∧ x < w 0
  · obtain ⟨v1, v2, v3, v4, v5, v6⟩ := wl_i o q
    rw [if_pos q] at H
    rw [if_pos q, if_neg (by decide)]
    have mo := fun j (hj : 0 ≤ j ∧ j < 25) KI KX => @m_of X e (up h 577 0 0) x.toNat j v1 hj KI KX
    rw [v2, w1] at mo
    have mc := fun k a KI KX => @m_countThings X e (up h 577 0 0) x.toNat (wW w x.toNat 2).toNat k a v1 (by rw [w1]; exact v4) v5 KI KX
    rw [v2, w1] at mc
    have mc0 := mc 0 0
    have mc1 := mc 1 1
    rw [mCt_c] at mc0
    rw [mCt_a v3] at mc1
    have mr := fun KI KX => @m_ropesAt X e (up h 577 0 0) R x o.2.2.2.1 (by rw [w1]; exact o.2.2.1) (fun r hr => by rw [w1]; have := (o.2.2.2.2.2.1 r hr).2; have := o.2.1; omega) KI KX
    rw [w1] at mr
    have e1 : sumF (fun r => if w (56 + 3 * r) - 1 = x then (1 : Int) else 0) 0 R = nRp w x := by
      unfold nRp
      rw [o.2.2.1, Int.toNat_natCast]
    rw [e1] at mr
    simp only [mk577, mk578, mk579, mk580, mk581, mk582, mk583, mk584, mk585, mk586, mk587, mn578, mn579, mn580, mn581, mn582, mn583, mn584, mn585, mn586, mn587, mp578, mp579, mp580, mp581, mp582, mp583, mp584, mp585, mp586, mp587, ite_true, true_and, and_true, nt0, nt1, nt2, nt3, nt4, nt5, nt6, nt7, mc0, mc1, mr, m_fails, upup, mo 3 (by decide), mo 4 (by decide), show (3 : Int).toNat = 3 from rfl, show (4 : Int).toNat = 4 from rfl]
    by_cases y0 : y = 0
    · rw [if_pos y0] at H ⊢; subst y0; rw [mo 0 (by decide)]; exact H
    · rw [if_neg y0] at H ⊢
      by_cases y1 : y = 1
      · rw [if_pos y1] at H ⊢; subst y1; rw [mo 1 (by decide)]; exact H
      · rw [if_neg y1] at H ⊢
        by_cases y2 : y = 2
        · rw [if_pos y2] at H ⊢; subst y2; rw [mo 2 (by decide)]; exact H
        · rw [if_neg y2] at H ⊢
          by_cases y3 : y = 3
          · rw [if_pos y3] at H ⊢; exact H
          · rw [if_neg y3] at H ⊢
            by_cases y4 : y = 4
            · rw [if_pos y4] at H ⊢; exact H
            · rw [if_neg y4] at H ⊢
              by_cases y5 : y = 5
              · rw [if_pos y5] at H ⊢; exact H
              · rw [if_neg y5] at H ⊢
                by_cases y6 : y = 6
                · rw [if_pos y6] at H ⊢; exact H
                · rw [if_neg y6] at H ⊢
                  by_cases y7 : y = 7
                  · rw [if_pos y7] at H ⊢; exact H
                  · rw [if_neg y7] at H ⊢; exact H
  · rw [if_neg q] at H
    rw [if_neg q, if_pos rfl, if_pos mk577, m_fails, upup]
    exact H
theorem mg_thingOf {x t y : Int} (q8 : h 578 = w) (o : rOk w N R T) {KI KX} (H : gM (gT w x t y) e h KI) : eCi X m_X13_thingOf [vR 577, vI x, vI t, vI y] eNT e ewP h KI KX := by
  refine bk_X13_thingOf_0 X 577 x t y eNT e ewP h _ ?_
  have w1 := h0w q8
  have o1 : rOk ((up h 577 0 0) 578) N R T := by rw [w1]; exact o
  rw [if_pos mk577, if_pos mk577, m_wellQ o1, w1]
  unfold gM gT at H
  by_cases q : 0 ≤ x ∧ x < w 0
  · obtain ⟨v1, v2, v3, v4, v5, v6⟩ := wl_i o q
    rw [if_pos q] at H
    have mt := fun KI KX => @m_isThing X e (up h 577 0 0) x.toNat (wW w x.toNat 2).toNat t v1 (by rw [w1]; exact v4) v5 KI KX
    rw [v2, ← v4] at mt
    rw [if_pos q, if_neg (by decide), if_pos mk577, mt]
    by_cases q2 : 0 ≤ t ∧ t < wW w x.toNat 2
    · rw [if_pos q2] at H ⊢
      rw [if_neg (by decide)]
      have ht : t.toNat < (wW w x.toNat 2).toNat := by omega
      have et : ((t.toNat : Nat) : Int) = t := by omega
      obtain ⟨p1, -, p3, p4, -, -⟩ := v3.2.2.2.2 t.toNat ht
      have i0 := fun KI KX => @m_is0 X e (up h 577 0 0) x.toNat t.toNat v1 (by omega) KI KX
      have i1 := fun KI KX => @m_is1 X e (up h 577 0 0) x.toNat t.toNat v1 (by omega) KI KX
      have i2 := fun KI KX => @m_is2 X e (up h 577 0 0) x.toNat t.toNat v1 (by omega) KI KX
      have i3 := fun KI KX => @m_is3 X e (up h 577 0 0) x.toNat t.toNat v1 (by omega) KI KX
      have mp := fun KI KX => @m_placeOf X e (up h 577 0 0) x.toNat (wW w x.toNat 2).toNat t.toNat v1 (by rw [w1]; exact v4) v5 (by omega) KI KX
      rw [v2, et, w1] at i0 i1 i2 i3 mp
      simp only [mk577, mk578, mk579, mk580, mk581, mk582, mk583, mk584, mk585, mk586, mk587, mn578, mn579, mn580, mn581, mn582, mn583, mn584, mn585, mn586, mn587, mp578, mp579, mp580, mp581, mp582, mp583, mp584, mp585, mp586, mp587, ite_true, true_and, and_true, nt0, nt1, nt2, nt3, nt4, i0, i1, i2, i3, mp, m_fails, upup]
      by_cases y0 : y = 0
      · rw [if_pos y0] at H ⊢; exact H
      · rw [if_neg y0] at H ⊢
        by_cases y1 : y = 1
        · rw [if_pos y1] at H ⊢; exact H
        · rw [if_neg y1] at H ⊢
          by_cases y2 : y = 2
          · rw [if_pos y2] at H ⊢
            by_cases k0 : wW w x.toNat (5 + 4 * t.toNat) = 1
            · rw [if_pos k0] at H ⊢
              have := p3 k0
              rw [wrn (by omega) (by omega)]
              exact H
            · rw [if_neg k0] at H ⊢
              have := p4 k0
              rw [Int.sub_zero, wrn (by omega) (by omega)]
              exact H
          · rw [if_neg y2] at H ⊢
            by_cases y3 : y = 3
            · rw [if_pos y3] at H ⊢; exact H
            · rw [if_neg y3] at H ⊢
              by_cases y4 : y = 4
              · rw [if_pos y4] at H ⊢; exact H
              · rw [if_neg y4] at H ⊢; exact H
    · rw [if_neg q2] at H ⊢
      rw [if_pos rfl, if_pos mk577, m_fails, upup]
      exact H
  · rw [if_neg q] at H
    rw [if_neg q, if_pos rfl, if_pos mk577, m_fails, upup]
    exact H
theorem mg_ropeOf {x y : Int} (q8 : h 578 = w) (o : rOk w N R T) {KI KX} (H : gM (gR w x y) e h KI) : eCi X m_X13_ropeOf [vR 577, vI x, vI y] eNT e ewP h KI KX := by
  refine bk_X13_ropeOf_0 X 577 x y eNT e ewP h _ ?_
  have w1 := h0w q8
  have o1 : rOk ((up h 577 0 0) 578) N R T := by rw [w1]; exact o
  rw [if_pos mk577, if_pos mk577, m_ropeQ o1, w1]
  unfold gM gR at H
  by_cases q : 0 ≤ x ∧ x < w 1
  · obtain ⟨v1, v2, v3, v4, v5⟩ := rp_i o q
    rw [if_pos q] at H
    have mb := fun KI KX => @m_boundTo X e (up h 577 0 0) x.toNat v1 (by rw [w1]; exact v3) KI KX
    have m0 := fun KI KX => @m_ropeIs X e (up h 577 0 0) x.toNat 0 v1 (by decide) KI KX
    have m2 := fun KI KX => @m_ropeIs X e (up h 577 0 0) x.toNat 2 v1 (by decide) KI KX
    rw [v2, w1] at mb m0 m2
    rw [if_pos q, if_neg (by decide), m_isBetween]
    by_cases y0 : y = 0
    · subst y0
      rw [if_pos rfl] at H
      rw [if_neg (show ¬ ((if (0 : Int) ≤ 0 ∧ (0 : Int) ≤ 2 then (1 : Int) else 0) = 0) by decide), if_neg (by decide), if_pos mk577]
      refine (m0 _ _).mpr ?_
      exact H
    · rw [if_neg y0] at H
      by_cases y1 : y = 1
      · subst y1
        rw [if_pos rfl] at H
        rw [if_neg (show ¬ ((if (0 : Int) ≤ 1 ∧ (1 : Int) ≤ 2 then (1 : Int) else 0) = 0) by decide), if_pos rfl, if_pos mk577, mb]
        exact H
      · rw [if_neg y1] at H
        by_cases y2 : y = 2
        · subst y2
          rw [if_pos rfl] at H
          rw [if_neg (show ¬ ((if (0 : Int) ≤ 2 ∧ (2 : Int) ≤ 2 then (1 : Int) else 0) = 0) by decide), if_neg (by decide), if_pos mk577]
          refine (m2 _ _).mpr ?_
          exact H
        · rw [if_neg y2] at H
          rw [if_neg (show ¬ (0 ≤ y ∧ y ≤ 2) by omega), if_pos rfl, if_pos mk577, m_fails, upup]
          exact H
  · rw [if_neg q] at H
    rw [if_neg q, if_pos rfl, if_pos mk577, m_fails, upup]
    exact H
theorem mg_bookOf {x y : Int} (q8 : h 578 = w) (o : rOk w N R T) {KI KX} (H : gM (gB w x y) e h KI) : eCi X m_X13_bookOf [vR 577, vI x, vI y] eNT e ewP h KI KX := by
  refine bk_X13_bookOf_0 X 577 x y eNT e ewP h _ ?_
  have w1 := h0w q8
  have w6 := o.2.2.2.2.2.2.1
  simp only [mk577, mk578, mk579, mk580, mk581, mk582, mk583, mk584, mk585, mk586, mk587, mn578, mn579, mn580, mn581, mn582, mn583, mn584, mn585, mn586, mn587, mp578, mp579, mp580, mp581, mp582, mp583, mp584, mp585, mp586, mp587, ite_true, true_and, and_true, w1, m_isBetween, show (10 : Int).toNat = 10 from rfl]
  rw [if_pos (by decide), wrn (x := w 10 - 1) (by omega) (by omega)]
  by_cases q : 0 ≤ x ∧ x < w 10
  · rw [if_pos (show 0 ≤ x ∧ x ≤ w 10 - 1 by omega), if_neg (by decide)]
    by_cases q2 : 0 ≤ y ∧ y < 5
    · rw [show gB w x y = (0, w (25 + 5 * x.toNat + y.toNat)) by unfold gB; rw [if_pos q, if_pos q2]] at H
      have e1 : wr (wr (25 + wr (5 * x)) + y) = ((25 + 5 * x.toNat + y.toNat : Nat) : Int) := by
        rw [wrn (x := 5 * x) (by omega) (by omega), wrn (x := 25 + _) (by omega) (by omega), wrn (by omega) (by omega)]; omega
      rw [if_pos (show 0 ≤ y ∧ y ≤ 4 by omega), if_neg (by decide), e1, if_pos ⟨by omega, by omega⟩, Int.toNat_natCast]
      exact H
    · rw [show gB w x y = (2, 0) by unfold gB; rw [if_pos q, if_neg q2]] at H
      rw [if_neg (show ¬ (0 ≤ y ∧ y ≤ 4) by omega), if_pos rfl, m_fails, upup]
      exact H
  · rw [show gB w x y = (1, 0) by unfold gB; rw [if_neg q]] at H
    rw [if_neg (show ¬ (0 ≤ x ∧ x ≤ w 10 - 1) by omega), if_pos rfl, m_fails, upup]
    exact H
theorem mg_time {x : Int} (q8 : h 578 = w) (o : rOk w N R T) {KI KX} (H : gM (gTi w x) e h KI) : eCi X m_X13_time [vR 577, vI x] eNT e ewP h KI KX := by
  refine bk_X13_time_0 X 577 x eNT e ewP h _ ?_
  have w1 := h0w q8
  have o1 : rOk ((up h 577 0 0) 578) N R T := by rw [w1]; exact o
  rw [if_pos mk577, if_pos mk577, m_wellQ o1, w1]
  unfold gM gTi at H
  by_cases q : 0 ≤ x ∧ x < w 0
  · obtain ⟨v1, v2, v3, v4, v5, v6⟩ := wl_i o q
    have mt := fun KI KX => @m_timeOf X e (up h 577 0 0) x.toNat (wW w x.toNat 2).toNat v1 (by rw [w1]; exact v3) KI KX
    rw [v2, w1] at mt
    rw [if_pos q] at H
    rw [if_pos q, if_neg (by decide), if_pos mk577, mt]
    exact H
  · rw [if_neg q] at H
    rw [if_neg q, if_pos rfl, if_pos mk577, m_fails, upup]
    exact H
theorem mg_timeAgain {x : Int} (q8 : h 578 = w) (o : rOk w N R T) {KI KX} (H : gM (gTi w x) e h KI) : eCi X m_X13_timeAgain [vR 577, vI x] eNT e ewP h KI KX := by
  refine bk_X13_timeAgain_0 X 577 x eNT e ewP h _ ?_
  rw [if_pos mk577]
  exact mg_time q8 o H
end
