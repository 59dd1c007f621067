/-! the reference's state as a whole; a change of it -/
def mV (h : Nat → Nat → Int) (b : Bool) (r : Nat → Int) : Prop := h 577 13 = (if b = true then 1 else 0) ∧ (b = true → ∀ k, k < 264 → h 580 k = r k)
def mK (h : Nat → Nat → Int) (k1 k2 : Int × Int) : Prop := h 577 1 = k1.1 ∧ (k1.1 ≠ 0 → h 577 2 = k1.2) ∧ h 577 3 = k2.1 ∧ (k2.1 ≠ 0 → h 577 4 = k2.2)
def mL (h : Nat → Nat → Int) (W I L : List Int) (f : Int) : Prop := h 577 16 = (W.length : Int) ∧ W.length ≤ 8 ∧ aR h 582 W ∧ h 577 24 = (I.length : Int) ∧ I.length ≤ 60 ∧ aR h 586 I ∧ h 577 22 = (L.length : Int) ∧ L.length ≤ 60 ∧ aR h 585 L ∧ h 577 26 = f
def MI (h : Nat → Nat → Int) (w : Nat → Int) (c : Nat) (U : Nat → Nat → Int) (b : Bool) (r : Nat → Int) (k1 k2 : Int × Int) (W I L : List Int) (f : Int) : Prop := h 578 = w ∧ mH h c U ∧ mV h b r ∧ mK h k1 k2 ∧ mL h W I L f
theorem mH_f {h h' : Nat → Nat → Int} {c : Nat} {U : Nat → Nat → Int} (q1 : h' 577 11 = h 577 11) (q2 : h' 577 12 = h 577 12) (q3 : h' 579 = h 579) (l : mH h c U) : mH h' c U := by
  unfold mH
  rw [q1, q2, q3]
  exact l
theorem mV_f {h h' : Nat → Nat → Int} {b : Bool} {r : Nat → Int} (q1 : h' 577 13 = h 577 13) (q2 : h' 580 = h 580) (l : mV h b r) : mV h' b r := by
  unfold mV
  rw [q1, q2]
  exact l
theorem mK_f {h h' : Nat → Nat → Int} {k1 k2 : Int × Int} (q : ∀ k, 1 ≤ k → k < 5 → h' 577 k = h 577 k) (l : mK h k1 k2) : mK h' k1 k2 := by
  unfold mK
  rw [q 1 (by omega) (by omega), q 2 (by omega) (by omega), q 3 (by omega) (by omega), q 4 (by omega) (by omega)]
  exact l
theorem mL_f {h h' : Nat → Nat → Int} {W I L : List Int} {f : Int} (q1 : h' 577 16 = h 577 16) (q2 : h' 577 24 = h 577 24) (q3 : h' 577 22 = h 577 22) (q4 : h' 577 26 = h 577 26) (q5 : h' 582 = h 582) (q6 : h' 586 = h 586) (q7 : h' 585 = h 585) (l : mL h W I L f) : mL h' W I L f := by
  unfold mL aR
  rw [q1, q2, q3, q4, q5, q6, q7]
  exact l
/-- what is beside the state -/
def mB (h h' : Nat → Nat → Int) : Prop := ∀ z, (z < 577 ∨ 588 ≤ z) → h' z = h z
theorem mB_m {C F : List Nat} {h h' : Nat → Nat → Int} (f : mfr C F h h') (q : ∀ z, z ∈ C → 577 ≤ z ∧ z < 588) : mB h h' := fun z hz => f.1 z (fun h1 => by have := q z h1; omega) (by omega)
theorem mB_tr {h h1 h2 : Nat → Nat → Int} (a : mB h h1) (b : mB h1 h2) : mB h h2 := fun z hz => by rw [b z hz, a z hz]
theorem mB_up {h h1 : Nat → Nat → Int} {c k : Nat} {v : Int} (a : mB h h1) (q : 577 ≤ c ∧ c < 588) : mB h (up h1 c k v) := fun z hz => by rw [up_ne (by omega), a z hz]
theorem mB_rw {h h1 : Nat → Nat → Int} {w : Nat → Int} (a : mB h h1) : mB h (rw8 h1 w) := fun z hz => by rw [rw8_o (by omega), a z hz]
section
variable {w : Nat → Int}
theorem nDig_ok {d b : Int} (q : nDig w d b = (0, 0)) : w 0 < 8 := by
  unfold nDig at q
  split at q
  · split at q
    · split at q
      · assumption
      · exact absurd (congrArg Prod.fst q) (by intro z; simp at z)
    · exact absurd (congrArg Prod.fst q) (by intro z; simp at z)
  · exact absurd (congrArg Prod.fst q) (by intro z; simp at z)
theorem nDeepen_ok {x m : Int} (q : nDeepen w x m = (0, 0)) : (0 ≤ x ∧ x < w 0) ∧ 1 ≤ m ∧ m ≤ 29 := by
  unfold nDeepen at q
  split at q
  · split at q
    · exact ⟨by assumption, by assumption⟩
    · exact absurd (congrArg Prod.fst q) (by intro z; simp at z)
  · exact absurd (congrArg Prod.fst q) (by intro z; simp at z)
theorem nThing_ok {x d v lo hi : Int} (q : nThing w x d v lo hi = (0, 0)) : (0 ≤ x ∧ x < w 0) ∧ wW w x.toNat 2 < 5 := by
  unfold nThing at q
  split at q
  · split at q
    · split at q
      · split at q
        · split at q
          · exact ⟨by assumption, by assumption⟩
          · exact absurd (congrArg Prod.fst q) (by intro z; simp at z)
        · exact absurd (congrArg Prod.fst q) (by intro z; simp at z)
      · exact absurd (congrArg Prod.fst q) (by intro z; simp at z)
    · exact absurd (congrArg Prod.fst q) (by intro z; simp at z)
  · exact absurd (congrArg Prod.fst q) (by intro z; simp at z)
theorem nTake_ok {x t : Int} (q : nTake w x t = (0, 0)) : (0 ≤ x ∧ x < w 0) ∧ 0 ≤ t ∧ t < wW w x.toNat 2 := by
  unfold nTake at q
  split at q
  · split at q
    · exact ⟨by assumption, by assumption⟩
    · exact absurd (congrArg Prod.fst q) (by intro z; simp at z)
  · exact absurd (congrArg Prod.fst q) (by intro z; simp at z)
theorem nRope_ok {x : Int} (q : nRope w x = (0, 0)) : w 1 < 3 := by
  unfold nRope at q
  split at q
  · split at q
    · assumption
    · exact absurd (congrArg Prod.fst q) (by intro z; simp at z)
  · exact absurd (congrArg Prod.fst q) (by intro z; simp at z)
theorem nBind_ok {y x : Int} (q : nBind w y x = (0, 0)) : (0 ≤ y ∧ y < w 1) ∧ 0 ≤ x ∧ x < w 0 := by
  unfold nBind at q
  split at q
  · split at q
    · exact ⟨by assumption, by assumption⟩
    · exact absurd (congrArg Prod.fst q) (by intro z; simp at z)
  · exact absurd (congrArg Prod.fst q) (by intro z; simp at z)
theorem nShout_ok {x : Int} {m : Nat} (q : nShout w x m = (0, 0)) : 0 ≤ x ∧ x < w 0 := by
  unfold nShout at q
  split at q
  · assumption
  · exact absurd (congrArg Prod.fst q) (by intro z; simp at z)
end
section
variable {X : eX} {e : Nat} {h : Nat → Nat → Int} {w : Nat → Int} {c : Nat} {U : Nat → Nat → Int} {b : Bool} {r : Nat → Int} {k1 k2 : Int × Int} {W I L : List Int} {f : Int} {N R : Nat} {T : Nat → Nat}
/-- the doing of an order, as an equation -/
theorem d_dig {a1 a2 : Int} (o : rOk (h 578) N R T) (q : nDig (h 578) a1 a2 = (0, 0)) (KI KX) : eCi X m_X13_digs [vR 577, vI a1, vI a2] eNT e ewP h KI KX = KI (h 578 0) eNT e ewP (rw8 h (rDig (h 578) (h 578 0).toNat a1 a2)) := by
  have e1 := o.1
  have e2 := nDig_ok q
  rw [m_digs o (by omega), show (h 578 0).toNat = N by omega, e1]
theorem d_deepen {a1 a2 : Int} (o : rOk (h 578) N R T) (q : nDeepen (h 578) a1 a2 = (0, 0)) (KI KX) : eCi X m_X13_deepens [vR 577, vI a1, vI a2] eNT e ewP h KI KX = KI (wW (h 578) a1.toNat 0 + a2) eNT e ewP (rw8 h (dDeepen (h 578) a1.toNat a2)) := m_deepens o (nDeepen_ok q).1 (nDeepen_ok q).2 KI KX
theorem d_fill {a1 : Int} (o : rOk (h 578) N R T) (q : nFill (h 578) a1 = (0, 0)) (KI KX) : eCi X m_X13_fills [vR 577, vI a1] eNT e ewP h KI KX = KI (h 578 0 - 1) eNT e ewP (rw8 h (rFill (h 578) (h 578 0).toNat (h 578 1).toNat a1.toNat)) := by
  obtain ⟨w1, w2, w3, w4, w5, w6⟩ := wl_i o (nFill_w q)
  have e1 := o.1
  have e2 := o.2.2.1
  have := m_fills (X := X) (e := e) o w6 KI KX
  rw [w2] at this
  rw [this, show (h 578 0).toNat = N by omega, show (h 578 1).toNat = R by omega, e1]
theorem d_comes {a1 a2 a3 k lo hi : Int} (o : rOk (h 578) N R T) (q : nThing (h 578) a1 a2 a3 lo hi = (0, 0)) (KI KX) : eCi X m_X13_comes [vR 577, vI a1, vI a2, vI a3, vI k] eNT e ewP h KI KX = KI (wW (h 578) a1.toNat 2) eNT e ewP (rw8 h (dComes (h 578) a1.toNat k a2 a3)) := by
  obtain ⟨w1, w2, w3, w4, w5, w6⟩ := wl_i o (nThing_ok q).1
  have := m_comes (X := X) (e := e) (k := k) (d := a2) (v := a3) w1 w4 (by have := (nThing_ok q).2; omega) KI KX
  rw [w2, ← w4] at this
  exact this
theorem d_take {a1 a2 : Int} (o : rOk (h 578) N R T) (q : nTake (h 578) a1 a2 = (0, 0)) (KI KX) : eCi X m_X13_takes [vR 577, vI a1, vI a2] eNT e ewP h KI KX = KI (wW (h 578) a1.toNat 2 - 1) eNT e ewP (rw8 h (dTake (h 578) a1.toNat a2.toNat)) := by
  obtain ⟨w1, w2, w3, w4, w5, w6⟩ := wl_i o (nTake_ok q).1
  have q2 := (nTake_ok q).2
  have := m_takes (X := X) (e := e) (t := a2.toNat) w1 w4 w5 (by omega) KI KX
  rw [w2, show ((a2.toNat : Nat) : Int) = a2 by omega, ← w4] at this
  exact this
theorem d_rope {a1 : Int} (o : rOk (h 578) N R T) (q : nRope (h 578) a1 = (0, 0)) (KI KX) : eCi X m_X13_ropeComes [vR 577, vI a1] eNT e ewP h KI KX = KI (h 578 1) eNT e ewP (rw8 h (rRope (h 578) (h 578 1).toNat a1)) := by
  have e1 := o.2.2.1
  have e2 := nRope_ok q
  rw [m_ropeComes o (by omega), show (h 578 1).toNat = R by omega, e1]
theorem d_bind {a1 a2 : Int} (o : rOk (h 578) N R T) (q : nBind (h 578) a1 a2 = (0, 0)) (KI KX) : eCi X m_X13_binds [vR 577, vI a1, vI a2] eNT e ewP h KI KX = KI (nRp (dBind (h 578) a1.toNat a2) a2) eNT e ewP (rw8 h (dBind (h 578) a1.toNat a2)) := by
  obtain ⟨w1, w2, w3, w4, w5⟩ := rp_i o (nBind_ok q).1
  have q2 := (nBind_ok q).2
  have := m_binds (X := X) (e := e) (x := a2) o w5 (by have := o.1; omega) KI KX
  rw [w2] at this
  exact this
/-- refused -/
theorem t_ref {x y : Int} (l : MI h w c U b r k1 k2 W I L f) {KI KX} (H : ∀ h', mB h h' → h' 577 0 = 1 → MI h' w c U b r (x, y) (0, 0) W I L f → KI 0 eNT e ewP h') : eCi X m_X13_throwsNow [vR 577] eNT e ewP (up (up (up h 577 0 0) 577 5 x) 577 6 y) KI KX := by
  rw [m_throwsNow]
  have hk : ∀ k, k ≠ 0 → k ≠ 1 → k ≠ 2 → k ≠ 3 → k ≠ 5 → k ≠ 6 → (up (up (up (up (up (up (up h 577 0 0) 577 5 x) 577 6 y) 577 1 ((up (up (up h 577 0 0) 577 5 x) 577 6 y) 577 5)) 577 2 ((up (up (up h 577 0 0) 577 5 x) 577 6 y) 577 6)) 577 3 0) 577 0 1) 577 k = h 577 k := by
    intro k h0 h1 h2 h3 h5 h6
    rw [up_nk h0, up_nk h3, up_nk h2, up_nk h1, up_nk h6, up_nk h5, up_nk h0]
  have hc : ∀ z, z ≠ 577 → (up (up (up (up (up (up (up h 577 0 0) 577 5 x) 577 6 y) 577 1 ((up (up (up h 577 0 0) 577 5 x) 577 6 y) 577 5)) 577 2 ((up (up (up h 577 0 0) 577 5 x) 577 6 y) 577 6)) 577 3 0) 577 0 1) z = h z := by
    intro z hz
    rw [up_ne hz, up_ne hz, up_ne hz, up_ne hz, up_ne hz, up_ne hz, up_ne hz]
  obtain ⟨l1, l2, l3, l4, l5⟩ := l
  refine H _ (fun z hz => hc z (by omega)) up_eq ⟨by rw [hc _ (by omega)]; exact l1, mH_f (hk _ (by omega) (by omega) (by omega) (by omega) (by omega) (by omega)) (hk _ (by omega) (by omega) (by omega) (by omega) (by omega) (by omega)) (hc _ (by omega)) l2, mV_f (hk _ (by omega) (by omega) (by omega) (by omega) (by omega) (by omega)) (hc _ (by omega)) l3, ⟨?_, fun _ => ?_, ?_, fun q => absurd rfl q⟩, mL_f (hk _ (by omega) (by omega) (by omega) (by omega) (by omega) (by omega)) (hk _ (by omega) (by omega) (by omega) (by omega) (by omega) (by omega)) (hk _ (by omega) (by omega) (by omega) (by omega) (by omega) (by omega)) (hk _ (by omega) (by omega) (by omega) (by omega) (by omega) (by omega)) (hc _ (by omega)) (hc _ (by omega)) (hc _ (by omega)) l5⟩
  · rw [up_nk (by omega), up_nk (by omega), up_nk (by omega), up_eq, up_nk (by omega), up_eq]
  · rw [up_nk (by omega), up_nk (by omega), up_eq, up_eq]
  · rw [up_nk (by omega), up_eq]
/-- remembered, and the row another -/
theorem t_rem {h1 h2 h3 : Nat → Nat → Int} {w' : Nat → Int} (l : MI h w c U b r k1 k2 W I L f) (e1 : h1 = up h 577 0 0) (f2 : mfr [579, 581] [11, 12] h1 h2) (g2 : mH h2 (pC c) (pU2 c U (h1 578))) (e3 : h3 = rw8 h2 w') : mB h h3 ∧ h3 577 0 = 0 ∧ MI h3 w' (pC c) (pU2 c U w) b r k1 k2 W I L f := by
  obtain ⟨l1, l2, l3, l4, l5⟩ := l
  subst e1
  subst e3
  have hk : ∀ k, k ≠ 0 → k ≠ 11 → k ≠ 12 → (rw8 h2 w') 577 k = h 577 k := by
    intro k h0 h3 h4
    rw [rw8_o (by omega), f2.2 k (by simp [h3, h4]), up_nk h0]
  have hc : ∀ z, z ≠ 577 → z ≠ 578 → z ≠ 579 → z ≠ 581 → (rw8 h2 w') z = h z := by
    intro z h0 h3 h4 h5
    rw [rw8_o h3, f2.1 z (by simp [h4, h5]) h0, up_ne h0]
  refine ⟨fun z hz => hc z (by omega) (by omega) (by omega) (by omega), ?_, rw8_s, ?_, mV_f (hk _ (by omega) (by omega) (by omega)) (hc _ (by omega) (by omega) (by omega) (by omega)) l3, mK_f (fun k h3 h4 => hk k (by omega) (by omega) (by omega)) l4, mL_f (hk _ (by omega) (by omega) (by omega)) (hk _ (by omega) (by omega) (by omega)) (hk _ (by omega) (by omega) (by omega)) (hk _ (by omega) (by omega) (by omega)) (hc _ (by omega) (by omega) (by omega) (by omega)) (hc _ (by omega) (by omega) (by omega) (by omega)) (hc _ (by omega) (by omega) (by omega) (by omega)) l5⟩
  · rw [rw8_o (by omega), f2.2 0 (by decide), up_eq]
  · rw [show w = (up h 577 0 0) 578 by rw [up_ne (by omega)]; exact l1.symm]
    exact mH_f (by rw [rw8_o (by omega)]) (by rw [rw8_o (by omega)]) (rw8_o (by omega)) g2
theorem mH_0 {v : Int} (l : mH h c U) : mH (up h 577 0 v) c U := mH_f (up_nk (by omega)) (up_nk (by omega)) (up_ne (by omega)) l
theorem m_dig {a1 a2 : Int} (o : rOk w N R T) (l : MI h w c U b r k1 k2 W I L f) {KI KX} (HR : ∀ x y, nOrd 0 w a1 a2 0 W.length = (x, y) → x ≠ 0 → ∀ h', mB h h' → h' 577 0 = 1 → MI h' w c U b r (x, y) (0, 0) W I L f → KI 0 eNT e ewP h') (HD : nOrd 0 w a1 a2 0 W.length = (0, 0) → ∀ h', mB h h' → h' 577 0 = 0 → MI h' (dOrd 0 w a1 a2 0 W) (pC c) (pU2 c U w) b r k1 k2 W I L f → KI (aOrd 0 w a1 a2 0 W) eNT e ewP h') : eCi X m_X13_dig [vR 577, vI a1, vI a2] eNT e ewP h KI KX := by
  refine bk_X13_dig_0 X 577 a1 a2 eNT e ewP h _ ?_
  have w1 : (up h 577 0 0) 578 = w := by rw [up_ne (by omega)]; exact l.1
  have o1 : rOk ((up h 577 0 0) 578) N R T := by rw [w1]; exact o
  rw [if_pos mk577, if_pos mk577]
  refine n_dig o1 (fun x y hn hx => ?_) (fun hn => ?_)
  · rw [if_neg (by decide), if_pos mk577]
    exact t_ref l (HR x y (by rw [w1] at hn; exact hn) hx)
  · rw [if_pos rfl, if_pos mk577]
    refine m_remembers (mH_0 l.2.1) (fun h2 f2 g2 => ?_)
    have w2 : h2 578 = w := by rw [f2.1 578 (by decide) (by decide)]; exact w1
    have hn2 := hn
    rw [w1] at hn
    rw [w1, ← w2] at hn2
    rw [if_pos mk577, d_dig (h := h2) (by rw [w2]; exact o) hn2]
    obtain ⟨t1, t2, t3⟩ := t_rem (w' := dOrd 0 w a1 a2 0 W) l rfl f2 g2 rfl
    rw [w2]
    exact HD hn _ t1 t2 t3
theorem m_deepen {a1 a2 : Int} (o : rOk w N R T) (l : MI h w c U b r k1 k2 W I L f) {KI KX} (HR : ∀ x y, nOrd 1 w a1 a2 0 W.length = (x, y) → x ≠ 0 → ∀ h', mB h h' → h' 577 0 = 1 → MI h' w c U b r (x, y) (0, 0) W I L f → KI 0 eNT e ewP h') (HD : nOrd 1 w a1 a2 0 W.length = (0, 0) → ∀ h', mB h h' → h' 577 0 = 0 → MI h' (dOrd 1 w a1 a2 0 W) (pC c) (pU2 c U w) b r k1 k2 W I L f → KI (aOrd 1 w a1 a2 0 W) eNT e ewP h') : eCi X m_X13_deepen [vR 577, vI a1, vI a2] eNT e ewP h KI KX := by
  refine bk_X13_deepen_0 X 577 a1 a2 eNT e ewP h _ ?_
  have w1 : (up h 577 0 0) 578 = w := by rw [up_ne (by omega)]; exact l.1
  have o1 : rOk ((up h 577 0 0) 578) N R T := by rw [w1]; exact o
  rw [if_pos mk577, if_pos mk577]
  refine n_deepen o1 (fun x y hn hx => ?_) (fun hn => ?_)
  · rw [if_neg (by decide), if_pos mk577]
    exact t_ref l (HR x y (by rw [w1] at hn; exact hn) hx)
  · rw [if_pos rfl, if_pos mk577]
    refine m_remembers (mH_0 l.2.1) (fun h2 f2 g2 => ?_)
    have w2 : h2 578 = w := by rw [f2.1 578 (by decide) (by decide)]; exact w1
    have hn2 := hn
    rw [w1] at hn
    rw [w1, ← w2] at hn2
    rw [if_pos mk577, d_deepen (h := h2) (by rw [w2]; exact o) hn2]
    obtain ⟨t1, t2, t3⟩ := t_rem (w' := dOrd 1 w a1 a2 0 W) l rfl f2 g2 rfl
    rw [w2]
    exact HD hn _ t1 t2 t3
theorem m_fill {a1 : Int} (o : rOk w N R T) (l : MI h w c U b r k1 k2 W I L f) {KI KX} (HR : ∀ x y, nOrd 2 w a1 0 0 W.length = (x, y) → x ≠ 0 → ∀ h', mB h h' → h' 577 0 = 1 → MI h' w c U b r (x, y) (0, 0) W I L f → KI 0 eNT e ewP h') (HD : nOrd 2 w a1 0 0 W.length = (0, 0) → ∀ h', mB h h' → h' 577 0 = 0 → MI h' (dOrd 2 w a1 0 0 W) (pC c) (pU2 c U w) b r k1 k2 W I L f → KI (aOrd 2 w a1 0 0 W) eNT e ewP h') : eCi X m_X13_fill [vR 577, vI a1] eNT e ewP h KI KX := by
  refine bk_X13_fill_0 X 577 a1 eNT e ewP h _ ?_
  have w1 : (up h 577 0 0) 578 = w := by rw [up_ne (by omega)]; exact l.1
  have o1 : rOk ((up h 577 0 0) 578) N R T := by rw [w1]; exact o
  rw [if_pos mk577, if_pos mk577]
  refine n_fill o1 (fun x y hn hx => ?_) (fun hn => ?_)
  · rw [if_neg (by decide), if_pos mk577]
    exact t_ref l (HR x y (by rw [w1] at hn; exact hn) hx)
  · rw [if_pos rfl, if_pos mk577]
    refine m_remembers (mH_0 l.2.1) (fun h2 f2 g2 => ?_)
    have w2 : h2 578 = w := by rw [f2.1 578 (by decide) (by decide)]; exact w1
    have hn2 := hn
    rw [w1] at hn
    rw [w1, ← w2] at hn2
    rw [if_pos mk577, d_fill (h := h2) (by rw [w2]; exact o) hn2]
    obtain ⟨t1, t2, t3⟩ := t_rem (w' := dOrd 2 w a1 0 0 W) l rfl f2 g2 rfl
    rw [w2]
    exact HD hn _ t1 t2 t3
theorem m_coin {a1 a2 a3 : Int} (o : rOk w N R T) (l : MI h w c U b r k1 k2 W I L f) {KI KX} (HR : ∀ x y, nOrd 3 w a1 a2 a3 W.length = (x, y) → x ≠ 0 → ∀ h', mB h h' → h' 577 0 = 1 → MI h' w c U b r (x, y) (0, 0) W I L f → KI 0 eNT e ewP h') (HD : nOrd 3 w a1 a2 a3 W.length = (0, 0) → ∀ h', mB h h' → h' 577 0 = 0 → MI h' (dOrd 3 w a1 a2 a3 W) (pC c) (pU2 c U w) b r k1 k2 W I L f → KI (aOrd 3 w a1 a2 a3 W) eNT e ewP h') : eCi X m_X13_coin [vR 577, vI a1, vI a2, vI a3] eNT e ewP h KI KX := by
  refine bk_X13_coin_0 X 577 a1 a2 a3 eNT e ewP h _ ?_
  have w1 : (up h 577 0 0) 578 = w := by rw [up_ne (by omega)]; exact l.1
  have o1 : rOk ((up h 577 0 0) 578) N R T := by rw [w1]; exact o
  rw [if_pos mk577, if_pos mk577]
  refine n_thing o1 (fun x y hn hx => ?_) (fun hn => ?_)
  · rw [if_neg (by decide), if_pos mk577]
    exact t_ref l (HR x y (by rw [w1] at hn; exact hn) hx)
  · rw [if_pos rfl, if_pos mk577]
    refine m_remembers (mH_0 l.2.1) (fun h2 f2 g2 => ?_)
    have w2 : h2 578 = w := by rw [f2.1 578 (by decide) (by decide)]; exact w1
    have hn2 := hn
    rw [w1] at hn
    rw [w1, ← w2] at hn2
    rw [if_pos mk577, d_comes (h := h2) (by rw [w2]; exact o) hn2]
    obtain ⟨t1, t2, t3⟩ := t_rem (w' := dOrd 3 w a1 a2 a3 W) l rfl f2 g2 rfl
    rw [w2]
    exact HD hn _ t1 t2 t3
theorem m_frog {a1 a2 a3 : Int} (o : rOk w N R T) (l : MI h w c U b r k1 k2 W I L f) {KI KX} (HR : ∀ x y, nOrd 4 w a1 a2 a3 W.length = (x, y) → x ≠ 0 → ∀ h', mB h h' → h' 577 0 = 1 → MI h' w c U b r (x, y) (0, 0) W I L f → KI 0 eNT e ewP h') (HD : nOrd 4 w a1 a2 a3 W.length = (0, 0) → ∀ h', mB h h' → h' 577 0 = 0 → MI h' (dOrd 4 w a1 a2 a3 W) (pC c) (pU2 c U w) b r k1 k2 W I L f → KI (aOrd 4 w a1 a2 a3 W) eNT e ewP h') : eCi X m_X13_frog [vR 577, vI a1, vI a2, vI a3] eNT e ewP h KI KX := by
  refine bk_X13_frog_0 X 577 a1 a2 a3 eNT e ewP h _ ?_
  have w1 : (up h 577 0 0) 578 = w := by rw [up_ne (by omega)]; exact l.1
  have o1 : rOk ((up h 577 0 0) 578) N R T := by rw [w1]; exact o
  rw [if_pos mk577, if_pos mk577]
  refine n_thing o1 (fun x y hn hx => ?_) (fun hn => ?_)
  · rw [if_neg (by decide), if_pos mk577]
    exact t_ref l (HR x y (by rw [w1] at hn; exact hn) hx)
  · rw [if_pos rfl, if_pos mk577]
    refine m_remembers (mH_0 l.2.1) (fun h2 f2 g2 => ?_)
    have w2 : h2 578 = w := by rw [f2.1 578 (by decide) (by decide)]; exact w1
    have hn2 := hn
    rw [w1] at hn
    rw [w1, ← w2] at hn2
    rw [if_pos mk577, d_comes (h := h2) (by rw [w2]; exact o) hn2]
    obtain ⟨t1, t2, t3⟩ := t_rem (w' := dOrd 4 w a1 a2 a3 W) l rfl f2 g2 rfl
    rw [w2]
    exact HD hn _ t1 t2 t3
theorem m_moss {a1 a2 a3 : Int} (o : rOk w N R T) (l : MI h w c U b r k1 k2 W I L f) {KI KX} (HR : ∀ x y, nOrd 5 w a1 a2 a3 W.length = (x, y) → x ≠ 0 → ∀ h', mB h h' → h' 577 0 = 1 → MI h' w c U b r (x, y) (0, 0) W I L f → KI 0 eNT e ewP h') (HD : nOrd 5 w a1 a2 a3 W.length = (0, 0) → ∀ h', mB h h' → h' 577 0 = 0 → MI h' (dOrd 5 w a1 a2 a3 W) (pC c) (pU2 c U w) b r k1 k2 W I L f → KI (aOrd 5 w a1 a2 a3 W) eNT e ewP h') : eCi X m_X13_moss [vR 577, vI a1, vI a2, vI a3] eNT e ewP h KI KX := by
  refine bk_X13_moss_0 X 577 a1 a2 a3 eNT e ewP h _ ?_
  have w1 : (up h 577 0 0) 578 = w := by rw [up_ne (by omega)]; exact l.1
  have o1 : rOk ((up h 577 0 0) 578) N R T := by rw [w1]; exact o
  rw [if_pos mk577, if_pos mk577]
  refine n_thing o1 (fun x y hn hx => ?_) (fun hn => ?_)
  · rw [if_neg (by decide), if_pos mk577]
    exact t_ref l (HR x y (by rw [w1] at hn; exact hn) hx)
  · rw [if_pos rfl, if_pos mk577]
    refine m_remembers (mH_0 l.2.1) (fun h2 f2 g2 => ?_)
    have w2 : h2 578 = w := by rw [f2.1 578 (by decide) (by decide)]; exact w1
    have hn2 := hn
    rw [w1] at hn
    rw [w1, ← w2] at hn2
    rw [if_pos mk577, d_comes (h := h2) (by rw [w2]; exact o) hn2]
    obtain ⟨t1, t2, t3⟩ := t_rem (w' := dOrd 5 w a1 a2 a3 W) l rfl f2 g2 rfl
    rw [w2]
    exact HD hn _ t1 t2 t3
theorem m_take {a1 a2 : Int} (o : rOk w N R T) (l : MI h w c U b r k1 k2 W I L f) {KI KX} (HR : ∀ x y, nOrd 6 w a1 a2 0 W.length = (x, y) → x ≠ 0 → ∀ h', mB h h' → h' 577 0 = 1 → MI h' w c U b r (x, y) (0, 0) W I L f → KI 0 eNT e ewP h') (HD : nOrd 6 w a1 a2 0 W.length = (0, 0) → ∀ h', mB h h' → h' 577 0 = 0 → MI h' (dOrd 6 w a1 a2 0 W) (pC c) (pU2 c U w) b r k1 k2 W I L f → KI (aOrd 6 w a1 a2 0 W) eNT e ewP h') : eCi X m_X13_take [vR 577, vI a1, vI a2] eNT e ewP h KI KX := by
  refine bk_X13_take_0 X 577 a1 a2 eNT e ewP h _ ?_
  have w1 : (up h 577 0 0) 578 = w := by rw [up_ne (by omega)]; exact l.1
  have o1 : rOk ((up h 577 0 0) 578) N R T := by rw [w1]; exact o
  rw [if_pos mk577, if_pos mk577]
  refine n_take o1 (fun x y hn hx => ?_) (fun hn => ?_)
  · rw [if_neg (by decide), if_pos mk577]
    exact t_ref l (HR x y (by rw [w1] at hn; exact hn) hx)
  · rw [if_pos rfl, if_pos mk577]
    refine m_remembers (mH_0 l.2.1) (fun h2 f2 g2 => ?_)
    have w2 : h2 578 = w := by rw [f2.1 578 (by decide) (by decide)]; exact w1
    have hn2 := hn
    rw [w1] at hn
    rw [w1, ← w2] at hn2
    rw [if_pos mk577, d_take (h := h2) (by rw [w2]; exact o) hn2]
    obtain ⟨t1, t2, t3⟩ := t_rem (w' := dOrd 6 w a1 a2 0 W) l rfl f2 g2 rfl
    rw [w2]
    exact HD hn _ t1 t2 t3
theorem m_rope {a1 : Int} (o : rOk w N R T) (l : MI h w c U b r k1 k2 W I L f) {KI KX} (HR : ∀ x y, nOrd 8 w a1 0 0 W.length = (x, y) → x ≠ 0 → ∀ h', mB h h' → h' 577 0 = 1 → MI h' w c U b r (x, y) (0, 0) W I L f → KI 0 eNT e ewP h') (HD : nOrd 8 w a1 0 0 W.length = (0, 0) → ∀ h', mB h h' → h' 577 0 = 0 → MI h' (dOrd 8 w a1 0 0 W) (pC c) (pU2 c U w) b r k1 k2 W I L f → KI (aOrd 8 w a1 0 0 W) eNT e ewP h') : eCi X m_X13_rope [vR 577, vI a1] eNT e ewP h KI KX := by
  refine bk_X13_rope_0 X 577 a1 eNT e ewP h _ ?_
  have w1 : (up h 577 0 0) 578 = w := by rw [up_ne (by omega)]; exact l.1
  have o1 : rOk ((up h 577 0 0) 578) N R T := by rw [w1]; exact o
  rw [if_pos mk577, if_pos mk577]
  refine n_rope o1 (fun x y hn hx => ?_) (fun hn => ?_)
  · rw [if_neg (by decide), if_pos mk577]
    exact t_ref l (HR x y (by rw [w1] at hn; exact hn) hx)
  · rw [if_pos rfl, if_pos mk577]
    refine m_remembers (mH_0 l.2.1) (fun h2 f2 g2 => ?_)
    have w2 : h2 578 = w := by rw [f2.1 578 (by decide) (by decide)]; exact w1
    have hn2 := hn
    rw [w1] at hn
    rw [w1, ← w2] at hn2
    rw [if_pos mk577, d_rope (h := h2) (by rw [w2]; exact o) hn2]
    obtain ⟨t1, t2, t3⟩ := t_rem (w' := dOrd 8 w a1 0 0 W) l rfl f2 g2 rfl
    rw [w2]
    exact HD hn _ t1 t2 t3
theorem m_bind {a1 a2 : Int} (o : rOk w N R T) (l : MI h w c U b r k1 k2 W I L f) {KI KX} (HR : ∀ x y, nOrd 9 w a1 a2 0 W.length = (x, y) → x ≠ 0 → ∀ h', mB h h' → h' 577 0 = 1 → MI h' w c U b r (x, y) (0, 0) W I L f → KI 0 eNT e ewP h') (HD : nOrd 9 w a1 a2 0 W.length = (0, 0) → ∀ h', mB h h' → h' 577 0 = 0 → MI h' (dOrd 9 w a1 a2 0 W) (pC c) (pU2 c U w) b r k1 k2 W I L f → KI (aOrd 9 w a1 a2 0 W) eNT e ewP h') : eCi X m_X13_bind [vR 577, vI a1, vI a2] eNT e ewP h KI KX := by
  refine bk_X13_bind_0 X 577 a1 a2 eNT e ewP h _ ?_
  have w1 : (up h 577 0 0) 578 = w := by rw [up_ne (by omega)]; exact l.1
  have o1 : rOk ((up h 577 0 0) 578) N R T := by rw [w1]; exact o
  rw [if_pos mk577, if_pos mk577]
  refine n_bind o1 (fun x y hn hx => ?_) (fun hn => ?_)
  · rw [if_neg (by decide), if_pos mk577]
    exact t_ref l (HR x y (by rw [w1] at hn; exact hn) hx)
  · rw [if_pos rfl, if_pos mk577]
    refine m_remembers (mH_0 l.2.1) (fun h2 f2 g2 => ?_)
    have w2 : h2 578 = w := by rw [f2.1 578 (by decide) (by decide)]; exact w1
    have hn2 := hn
    rw [w1] at hn
    rw [w1, ← w2] at hn2
    rw [if_pos mk577, d_bind (h := h2) (by rw [w2]; exact o) hn2]
    obtain ⟨t1, t2, t3⟩ := t_rem (w' := dOrd 9 w a1 a2 0 W) l rfl f2 g2 rfl
    rw [w2]
    exact HD hn _ t1 t2 t3
theorem m_fish {a1 : Int} (o : rOk w N R T) (l : MI h w c U b r k1 k2 W I L f) {KI KX} (HR : ∀ x y, nOrd 10 w a1 0 0 W.length = (x, y) → x ≠ 0 → ∀ h', mB h h' → h' 577 0 = 1 → MI h' w c U b r (x, y) (0, 0) W I L f → KI 0 eNT e ewP h') (HD : nOrd 10 w a1 0 0 W.length = (0, 0) → ∀ h', mB h h' → h' 577 0 = 0 → MI h' (dOrd 10 w a1 0 0 W) (pC c) (pU2 c U w) b r k1 k2 W I L f → KI (aOrd 10 w a1 0 0 W) eNT e ewP h') : eCi X m_X13_fish [vR 577, vI a1] eNT e ewP h KI KX := by
  refine bk_X13_fish_0 X 577 a1 eNT e ewP h _ ?_
  have w1 : (up h 577 0 0) 578 = w := by rw [up_ne (by omega)]; exact l.1
  have o1 : rOk ((up h 577 0 0) 578) N R T := by rw [w1]; exact o
  rw [if_pos mk577, if_pos mk577]
  refine n_fish o1 (fun x y hn hx => ?_) (fun hn => ?_)
  · rw [if_neg (by decide), if_pos mk577]
    exact t_ref l (HR x y (by rw [w1] at hn; exact hn) hx)
  · rw [if_pos rfl, if_pos mk577]
    refine m_remembers (mH_0 l.2.1) (fun h2 f2 g2 => ?_)
    have w2 : h2 578 = w := by rw [f2.1 578 (by decide) (by decide)]; exact w1
    have hn2 := hn
    rw [w1] at hn
    rw [w1, ← w2] at hn2
    rw [if_pos mk577, m_fishes (h := h2) (by rw [w2]; exact o) hn2]
    obtain ⟨t1, t2, t3⟩ := t_rem (w' := dOrd 10 w a1 0 0 W) l rfl f2 g2 rfl
    rw [w2]
    exact HD hn _ t1 t2 t3
theorem m_wake (o : rOk w N R T) (l : MI h w c U b r k1 k2 W I L f) {KI KX} (HD : ∀ h', mB h h' → h' 577 0 = 0 → MI h' (dOrd 7 w 0 0 0 W) (pC c) (pU2 c U w) b r k1 k2 W I L f → KI (aOrd 7 w 0 0 0 W) eNT e ewP h') : eCi X m_X13_wake [vR 577] eNT e ewP h KI KX := by
  refine bk_X13_wake_0 X 577 eNT e ewP h _ ?_
  have w1 : (up h 577 0 0) 578 = w := by rw [up_ne (by omega)]; exact l.1
  rw [if_pos mk577, if_pos mk577]
  refine m_remembers (mH_0 l.2.1) (fun h2 f2 g2 => ?_)
  have w2 : h2 578 = w := by rw [f2.1 578 (by decide) (by decide)]; exact w1
  rw [if_pos mk577, m_wakes (h := h2) (by rw [w2]; exact o)]
  obtain ⟨t1, t2, t3⟩ := t_rem (w' := dOrd 7 w 0 0 0 W) l rfl f2 g2 rfl
  rw [w2]
  exact HD _ t1 t2 t3
theorem m_shout {a1 : Int} (o : rOk w N R T) (l : MI h w c U b r k1 k2 W I L f) {KI KX} (HR : ∀ x y, nOrd 11 w a1 0 0 W.length = (x, y) → x ≠ 0 → ∀ h', mB h h' → h' 577 0 = 1 → MI h' w c U b r (x, y) (0, 0) W I L f → KI 0 eNT e ewP h') (HD : nOrd 11 w a1 0 0 W.length = (0, 0) → ∀ h', mB h h' → h' 577 0 = 0 → MI h' (dOrd 11 w a1 0 0 W) (pC c) (pU2 c U w) b r k1 k2 [] I L f → KI (aOrd 11 w a1 0 0 W) eNT e ewP h') : eCi X m_X13_shout [vR 577, vI a1] eNT e ewP h KI KX := by
  refine bk_X13_shout_0 X 577 a1 eNT e ewP h _ ?_
  have w1 : (up h 577 0 0) 578 = w := by rw [up_ne (by omega)]; exact l.1
  have o1 : rOk ((up h 577 0 0) 578) N R T := by rw [w1]; exact o
  rw [if_pos mk577, if_pos mk577, if_pos mk577]
  have l5 := l.2.2.2.2
  have lw : (up h 577 0 0) 577 16 = (W.length : Int) := by rw [up_nk (by omega)]; exact l5.1
  rw [lw]
  refine n_shout o1 (fun x y hn hx => ?_) (fun hn => ?_)
  · rw [if_neg (by decide), if_pos mk577]
    exact t_ref l (HR x y (by rw [w1] at hn; exact hn) hx)
  · rw [if_pos rfl, if_pos mk577]
    refine m_remembers (mH_0 l.2.1) (fun h2 f2 g2 => ?_)
    have w2 : h2 578 = w := by rw [f2.1 578 (by decide) (by decide)]; exact w1
    rw [if_pos mk577]
    refine m_saysWord l5.2.1 (by rw [f2.2 _ (by decide)]; exact lw) (aR_h (by rw [f2.1 _ (by decide) (by decide), up_ne (by omega)]) l5.2.2.1) (fun h3 f3 s3 => ?_)
    rw [if_pos mk577, if_pos mk577]
    rw [w1] at hn
    obtain ⟨v1, v2, v3, v4, v5, v6⟩ := wl_i o (nShout_ok hn)
    have w4 : (up h3 577 16 0) 578 = w := by rw [up_ne (by omega), f3.1 578 (by decide) (by decide)]; exact w2
    have ms := @m_shouts X e (up h3 577 16 0) a1.toNat (wW w a1.toNat 2).toNat W v1 (by rw [w4]; exact v3) (by rw [w4]; exact o.2.2.2.2.2.2.1) ⟨by rw [up_nk (by omega)]; exact s3.1, s3.2.1, aR_h (up_ne (by omega)) s3.2.2⟩
    rw [v2, w4] at ms
    refine ms (fun h5 f5 g5 => ?_)
    have hk : ∀ k, k ≠ 0 → k ≠ 11 → k ≠ 12 → k ≠ 16 → k ≠ 17 → k ≠ 19 → k ≠ 20 → h5 577 k = h 577 k := by
      intro k h0 h11 h12 h16 h17 h19 h20
      rw [f5.2 k (by simp [h19, h20]), up_nk h16, f3.2 k (by simp [h17]), f2.2 k (by simp [h11, h12]), up_nk h0]
    have hc : ∀ z, z ≠ 577 → z ≠ 578 → z ≠ 579 → z ≠ 581 → z ≠ 583 → z ≠ 584 → h5 z = h z := by
      intro z h0 h78 h79 h81 h83 h84
      rw [f5.1 z (by simp [h78, h84]) h0, up_ne h0, f3.1 z (by simp [h83]) h0, f2.1 z (by simp [h79, h81]) h0, up_ne h0]
    obtain ⟨p1, p2, p3, p4, p5⟩ := l
    refine HD hn h5 (fun z hz => hc z (by omega) (by omega) (by omega) (by omega) (by omega) (by omega)) ?_ ⟨g5, ?_, mV_f (hk _ (by omega) (by omega) (by omega) (by omega) (by omega) (by omega) (by omega)) (hc _ (by omega) (by omega) (by omega) (by omega) (by omega) (by omega)) p3, mK_f (fun k h6 h7 => hk k (by omega) (by omega) (by omega) (by omega) (by omega) (by omega) (by omega)) p4, ?_⟩
    · rw [f5.2 0 (by decide), up_nk (by omega), f3.2 0 (by decide), f2.2 0 (by decide), up_eq]
    · rw [w1] at g2
      exact mH_f (by rw [f5.2 _ (by decide), up_nk (by omega), f3.2 _ (by decide)]) (by rw [f5.2 _ (by decide), up_nk (by omega), f3.2 _ (by decide)]) (by rw [f5.1 _ (by decide) (by decide), up_ne (by omega), f3.1 _ (by decide) (by decide)]) g2
    · obtain ⟨q1, q2, q3, q4, q5, q6, q7, q8, q9, q10⟩ := p5
      refine ⟨?_, by decide, fun k hk => absurd hk (Nat.not_lt_zero _), ?_, q5, aR_h (hc _ (by omega) (by omega) (by omega) (by omega) (by omega) (by omega)) q6, ?_, q8, aR_h (hc _ (by omega) (by omega) (by omega) (by omega) (by omega) (by omega)) q9, ?_⟩
      · rw [f5.2 16 (by decide), up_eq]; rfl
      · rw [hk _ (by omega) (by omega) (by omega) (by omega) (by omega) (by omega) (by omega)]; exact q4
      · rw [hk _ (by omega) (by omega) (by omega) (by omega) (by omega) (by omega) (by omega)]; exact q7
      · rw [hk _ (by omega) (by omega) (by omega) (by omega) (by omega) (by omega) (by omega)]; exact q10
end
