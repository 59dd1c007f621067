/-! whole words, later echoes -/
def gIW (w : Nat → Int) (W : List Int) (x : Int) : Int × Int := if 0 ≤ x ∧ x < w 0 then (if W.length = 0 then (2, 0) else (0, if eE w x W = W then 1 else 0)) else (1, 0)
def tm (w : Nat → Int) (x : Int) : Int := fTime (wW w x.toNat) (wW w x.toNat 2).toNat
def gIL (w : Nat → Int) (x y : Int) : Int × Int := if 0 ≤ x ∧ x < w 0 then (if 0 ≤ y ∧ y < w 0 then (0, if tm w x ≤ tm w y then 0 else 1) else (1, 0)) else (1, 0)
theorem gIW_k {w : Nat → Int} {W : List Int} {x : Int} : (gIW w W x).1 = 0 ∨ (gIW w W x).1 = 1 ∨ (gIW w W x).1 = 2 := by
  unfold gIW
  split
  · split
    · exact Or.inr (Or.inr rfl)
    · exact Or.inl rfl
  · exact Or.inr (Or.inl rfl)
theorem gIL_k {w : Nat → Int} {x y : Int} : (gIL w x y).1 = 0 ∨ (gIL w x y).1 = 1 := by
  unfold gIL
  split
  · split
    · exact Or.inl rfl
    · exact Or.inr rfl
  · exact Or.inr rfl
theorem gIW_v {w : Nat → Int} {W : List Int} {x : Int} : (gIW w W x).2 = 0 ∨ (gIW w W x).2 = 1 := by
  unfold gIW
  split
  · split
    · exact Or.inl rfl
    · dsimp only
      split
      · exact Or.inr rfl
      · exact Or.inl rfl
  · exact Or.inl rfl
theorem gIL_v {w : Nat → Int} {x y : Int} : (gIL w x y).2 = 0 ∨ (gIL w x y).2 = 1 := by
  unfold gIL
  split
  · split
    · dsimp only
      split
      · exact Or.inl rfl
      · exact Or.inr rfl
    · exact Or.inl rfl
  · exact Or.inl rfl
section
variable {X : eX} {e : Nat} {h : Nat → Nat → Int} {w : Nat → Int} {c : Nat} {U : Nat → Nat → Int} {b : Bool} {r : Nat → Int} {k1 k2 : Int × Int} {W I L : List Int} {f : Int} {N R : Nat} {T : Nat → Nat}
theorem cg_isWhole {x : Int} (l : CI h w c U b r k1 k2 W I L f) {KI KX} (H : ∀ h', (∀ z, 577 ≤ z → h' z = h z) → CI h' w c U b r k1 k2 W I L f → gC (gIW w W x) 4 5 e h' KI KX) : eCi X m_X12_isWhole [vR 1, vI x] eNT e ewP h KI KX := by
  refine bk_X12_isWhole_0 X 1 x eNT e ewP h _ ?_
  rw [if_pos ck1]
  refine w_sendWord l (fun q => ?_) (fun q q2 => ?_) (fun q q2 h' f1 l1 y1 => ?_)
  · have := H h (fun _ _ => rfl) l
    rw [show gIW w W x = (1, 0) by unfold gIW; rw [if_neg q]] at this
    exact this
  · have := H h (fun _ _ => rfl) l
    rw [show gIW w W x = (2, 0) by unfold gIW; rw [if_pos q, if_pos q2]] at this
    exact this
  · have := H h' (fun z hz => f1 z (by omega)) l1
    rw [show gIW w W x = (0, if eE w x W = W then 1 else 0) by unfold gIW; rw [if_pos q, if_neg (by omega)]] at this
    simp only [ck1, ck2, ck52, ck102, ck554, ck560, ck566, ck569, ck571, ck573, ck575, ck567, cp0, cp1, cp2, cp3, cp4, cp5, cp6, cp7, cp8, cp9, cy566, ite_true, true_and, and_true]
    rw [c_isSame cl567 cl569 y1.1 l1.2.2.2.2.1, if_pos (by split <;> simp)]
    exact this
theorem cg_isLater {x y : Int} (l : CI h w c U b r k1 k2 W I L f) {KI KX} (H : ∀ h', (∀ z, 577 ≤ z → h' z = h z) → CI h' w c U b r k1 k2 W I L f → gC (gIL w x y) 4 5 e h' KI KX) : eCi X m_X12_isLater [vR 1, vI x, vI y] eNT e ewP h KI KX := by
  refine bk_X12_isLater_0 X 1 x y eNT e ewP h _ ?_
  rw [if_pos ck1]
  refine c_asked l.1 ?_
  by_cases q : 0 ≤ x ∧ x < w 0
  · rw [if_pos q, if_pos ck1]
    refine c_asked l.1 ?_
    by_cases q2 : 0 ≤ y ∧ y < w 0
    · rw [if_pos q2, if_pos ck1]
      refine w_timeOn l q (fun h1 f1 l1 => ?_)
      rw [if_pos ck1]
      refine w_timeOn l1 q2 (fun h2 f2 l2 => ?_)
      have := H h2 (fun z hz => by rw [f2 z (by omega), f1 z (by omega)]) l2
      rw [show gIL w x y = (0, if tm w x ≤ tm w y then 0 else 1) by unfold gIL; rw [if_pos q, if_pos q2]] at this
      by_cases q3 : tm w x ≤ tm w y
      · rw [if_pos q3] at this
        have q3' : fTime (wW w x.toNat) (wW w x.toNat 2).toNat ≤ fTime (wW w y.toNat) (wW w y.toNat 2).toNat := q3
        rw [if_pos q3', if_pos (by decide)]
        exact this
      · rw [if_neg q3] at this
        have q3' : ¬ fTime (wW w x.toNat) (wW w x.toNat 2).toNat ≤ fTime (wW w y.toNat) (wW w y.toNat 2).toNat := q3
        rw [if_neg q3', if_pos (by decide)]
        exact this
    · rw [if_neg q2]
      have := H h (fun _ _ => rfl) l
      rw [show gIL w x y = (1, 0) by unfold gIL; rw [if_pos q, if_neg q2]] at this
      exact this
  · rw [if_neg q]
    have := H h (fun _ _ => rfl) l
    rw [show gIL w x y = (1, 0) by unfold gIL; rw [if_neg q]] at this
    exact this
theorem lp_isWhole {E : List Int} (hl : E.length = W.length) (h8 : W.length ≤ 8) (h1 : h 577 16 = (W.length : Int)) (hE : aR h 584 E) (hW : aR h 582 W) : ∀ (B B' A : List Int), A ++ B = E → A ++ B' = W → ∀ Q, Q (.inl (some (vI (if E = W then 1 else 0)))) (eNT, e, ewP, h) → ∀ x, eP X m_X13_isWhole 13 [vR 577, vI x, vI (A.length : Int)] [] (eNT, e, ewP, h) Q := by
  intro B
  induction B with
  | nil =>
    intro B' A e1 e2 Q H x
    rw [List.append_nil] at e1
    subst e1
    have h3 : B' = [] := by
      rw [← e2] at hl
      simp at hl
      exact hl
    subst h3
    rw [List.append_nil] at e2
    refine bk_X13_isWhole_13 X 577 x _ eNT e ewP h Q ?_
    rw [if_pos mk577, if_neg (by omega), if_pos (by decide)]
    rw [if_pos e2] at H
    exact H
  | cons y B ih =>
    intro B' A e1 e2 Q H x
    cases B' with
    | nil =>
      exfalso
      rw [← e1, ← e2] at hl
      simp at hl
    | cons z B' =>
      refine bk_X13_isWhole_13 X 577 x _ eNT e ewP h Q ?_
      have hlen : A.length + (B.length + 1) = E.length := by rw [← e1]; simp
      have hy : E[A.length]? = some y := by rw [← e1]; simp
      have hz : W[A.length]? = some z := by rw [← e2]; simp
      rw [if_pos mk577, if_pos (by omega)]
      simp only [mk577, mk578, mk579, mk580, mk581, mk582, mk583, mk584, mk585, mk586, mk587, mn578, mn579, mn580, mn581, mn582, mn583, mn584, mn585, mn586, mn587, mp578, mp579, mp580, mp581, mp582, mp583, mp584, mp585, mp586, mp587, ite_true, true_and, and_true, Int.toNat_natCast]
      rw [if_pos ⟨by omega, by omega⟩, if_pos ⟨by omega, by omega⟩, aR_g hE hy, aR_g hW hz]
      by_cases q : y = z
      · subst q
        have e3 : wr ((A.length : Int) + 1) = (((A ++ [y]).length : Nat) : Int) := by rw [wrn (by omega) (by omega)]; simp
        rw [if_pos rfl, e3]
        exact ih B' (A ++ [y]) (by simpa using e1) (by simpa using e2) Q H x
      · rw [if_neg q, if_pos (by decide)]
        rw [if_neg (by rw [← e1, ← e2]; simp [q])] at H
        exact H
theorem mg_isWhole {x : Int} (o : rOk w N R T) (l : MI h w c U b r k1 k2 W I L f) {KI KX} (H : ∀ h', mB h h' → MI h' w c U b r k1 k2 W I L f → h' 577 0 = (gIW w W x).1 → KI (if (gIW w W x).1 = 0 then (gIW w W x).2 else 0) eNT e ewP h') : eCi X m_X13_isWhole [vR 577, vI x] eNT e ewP h KI KX := by
  refine bk_X13_isWhole_0 X 577 x eNT e ewP h _ ?_
  rw [if_pos mk577]
  refine m_hasEcho o l (fun q => ?_) (fun q q2 => ?_) (fun q q2 h' f1 t1 l1 s1 e1 => ?_)
  · rw [show gIW w W x = (1, 0) by unfold gIW; rw [if_neg q]] at H
    rw [if_pos rfl, if_pos (by decide)]
    exact H _ (mB_up (fun _ _ => rfl) (by omega)) (MI_0 l) up_eq
  · rw [show gIW w W x = (2, 0) by unfold gIW; rw [if_pos q, if_pos q2]] at H
    rw [if_pos rfl, if_pos (by decide)]
    exact H _ (mB_up (fun _ _ => rfl) (by omega)) (MI_0 l) up_eq
  · rw [show gIW w W x = (0, if eE w x W = W then 1 else 0) by unfold gIW; rw [if_pos q, if_neg (by omega)]] at H
    have H := H h' f1 l1 t1
    rw [if_neg (by decide), if_pos mk577, if_pos mk577, e1.1, l1.2.2.2.2.1]
    by_cases q3 : (eE w x W).length = W.length
    · rw [if_pos (by omega)]
      exact lp_isWhole q3 s1.2.1 l1.2.2.2.2.1 e1.2.2.2 l1.2.2.2.2.2.2.1 (eE w x W) W [] rfl rfl _ H x
    · rw [if_neg (by omega), if_pos (by decide)]
      rw [if_neg (show ¬ eE w x W = W from fun z => q3 (by rw [z]))] at H
      exact H
theorem mg_isLater {x y : Int} (o : rOk w N R T) (l : MI h w c U b r k1 k2 W I L f) {KI KX} (H : ∀ h', mB h h' → MI h' w c U b r k1 k2 W I L f → h' 577 0 = (gIL w x y).1 → KI (if (gIL w x y).1 = 0 then (gIL w x y).2 else 0) eNT e ewP h') : eCi X m_X13_isLater [vR 577, vI x, vI y] eNT e ewP h KI KX := by
  refine bk_X13_isLater_0 X 577 x y eNT e ewP h _ ?_
  have w1 := h0w l.1
  have o1 : rOk ((up h 577 0 0) 578) N R T := by rw [w1]; exact o
  have H : ∀ v, (gIL w x y).1 = v → KI (if (gIL w x y).1 = 0 then (gIL w x y).2 else 0) eNT e ewP (up h 577 0 v) := fun v hv => H _ (mB_up (fun _ _ => rfl) (by omega)) (MI_0 l) (by rw [up_eq, hv])
  rw [if_pos mk577, if_pos mk577, m_wellQ o1, w1]
  by_cases q : 0 ≤ x ∧ x < w 0
  · obtain ⟨v1, v2, v3, v4, v5, v6⟩ := wl_i o q
    have m1 := fun KI KX => @m_timeOf X e (up h 577 0 0) x.toNat (wW w x.toNat 2).toNat v1 (by rw [w1]; exact v3) KI KX
    rw [v2, w1] at m1
    rw [if_pos q, if_neg (by decide), if_pos mk577, m_wellQ o1, w1]
    by_cases q2 : 0 ≤ y ∧ y < w 0
    · obtain ⟨u1, u2, u3, u4, u5, u6⟩ := wl_i o q2
      have m2 := fun KI KX => @m_timeOf X e (up h 577 0 0) y.toNat (wW w y.toNat 2).toNat u1 (by rw [w1]; exact u3) KI KX
      rw [u2, w1] at m2
      have hg : gIL w x y = (0, if tm w x ≤ tm w y then 0 else 1) := by unfold gIL; rw [if_pos q, if_pos q2]
      rw [hg] at H
      have H := H 0 rfl
      rw [if_pos q2, if_neg (by decide), if_pos mk577, m1, if_pos mk577, m2]
      by_cases q3 : tm w x ≤ tm w y
      · rw [if_pos q3] at H
        have q3' : fTime (wW w x.toNat) (wW w x.toNat 2).toNat ≤ fTime (wW w y.toNat) (wW w y.toNat 2).toNat := q3
        rw [if_pos q3', if_pos (by decide)]
        exact H
      · rw [if_neg q3] at H
        have q3' : ¬ fTime (wW w x.toNat) (wW w x.toNat 2).toNat ≤ fTime (wW w y.toNat) (wW w y.toNat 2).toNat := q3
        rw [if_neg q3', if_pos (by decide)]
        exact H
    · have hg : gIL w x y = (1, 0) := by unfold gIL; rw [if_pos q, if_neg q2]
      rw [hg] at H
      rw [if_neg q2, if_pos rfl, if_pos mk577, m_fails, upup, if_pos (by decide), if_pos (by decide)]
      exact H 1 rfl
  · have hg : gIL w x y = (1, 0) := by unfold gIL; rw [if_neg q]
    rw [hg] at H
    rw [if_neg q, if_pos rfl, if_pos mk577, m_fails, upup, if_pos (by decide), if_pos (by decide)]
    exact H 1 rfl
end
