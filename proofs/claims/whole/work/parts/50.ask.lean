/-! reach, signs of the line, reasons, accounts, orders of wells -/
def gRe (w : Nat → Int) (x : Int) : Int × Int := if 0 ≤ x ∧ x < w 1 then (if w (56 + 3 * x.toNat) - 1 < 0 then (2, 0) else if wRch w x.toNat = -1 then (2, 0) else (0, wRch w x.toNat)) else (1, 0)
def gCh (L : List Int) (x : Int) : Int × Int := if 0 ≤ x ∧ x < (L.length : Int) then (0, L.getD x.toNat 0) else (1, 0)
def gRs (k1 k2 : Int × Int) (d s : Int) : Int × Int := if 0 ≤ d ∧ d ≤ 1 then (if d = 0 then (if k1.1 = 0 then (2, 0) else (0, if s = 0 then k1.1 else k1.2)) else (if k2.1 = 0 then (2, 0) else (0, if s = 0 then k2.1 else k2.2))) else (1, 0)
def tAll (w : Nat → Int) : Int := sumF (fun i => wW w i 2) 0 (w 0).toNat
def gAc (w : Nat → Int) (W I : List Int) (c : Nat) (x : Int) : Int × Int := if x = 0 then (0, w 0) else if x = 1 then (0, tAll w) else if x = 2 then (0, slp w) else if x = 3 then (0, w 1) else if x = 4 then (0, (W.length : Int)) else if x = 5 then (0, w 2) else if x = 6 then (0, w 3) else if x = 7 then (0, w 4) else if x = 8 then (0, w 5) else if x = 9 then (0, w 6) else if x = 10 then (0, w 7) else if x = 11 then (0, w 8) else if x = 12 then (0, (I.length : Int)) else if x = 13 then (0, (c : Int)) else (1, 0)
section
variable {X : eX} {e : Nat} {h : Nat → Nat → Int} {w : Nat → Int} {c : Nat} {U : Nat → Nat → Int} {b : Bool} {r : Nat → Int} {k1 k2 : Int × Int} {W I L : List Int} {f : Int} {N R : Nat} {T : Nat → Nat}
theorem cg_reach {x : Int} (l : CI h w c U b r k1 k2 W I L f) {KI KX} (H : ∀ h', (∀ z, 577 ≤ z → h' z = h z) → CI h' w c U b r k1 k2 W I L f → gC (gRe w x) 4 5 e h' KI KX) : eCi X m_X12_reach [vR 1, vI x] eNT e ewP h KI KX := by
  have H := H h (fun _ _ => rfl) l
  refine bk_X12_reach_0 X 1 x eNT e ewP h _ ?_
  rw [if_pos ck1]
  refine c_askedR l.1 ?_
  by_cases q : 0 ≤ x ∧ x < w 1
  · obtain ⟨N, R, T, o, rr⟩ := id l.1
    have hR : x.toNat < R := by have := o.2.2.1; omega
    have h3 := o.2.2.2.1
    have rp := rr.2.2.2.1 x.toNat hR
    rw [show 2 + 43 + x.toNat = 45 + x.toNat by omega] at rp
    have oy := o.2.2.2.2.2.1 x.toNat hR
    rw [if_pos q]
    simp only [ck1, ck2, ck52, ck102, ck554, ck560, ck566, ck569, ck571, ck573, ck575, ck567, cp0, cp1, cp2, cp3, cp4, cp5, cp6, cp7, cp8, cp9, cy566, ite_true, true_and, and_true, k8 (rpK (show x.toNat < 3 by omega))]
    rw [rp.2.1, c_wellQ o rr]
    by_cases q2 : w (56 + 3 * x.toNat) - 1 < 0
    · rw [show gRe w x = (2, 0) by unfold gRe; rw [if_pos q, if_pos q2]] at H
      rw [if_neg (show ¬ (0 ≤ w (56 + 3 * x.toNat) - 1 ∧ w (56 + 3 * x.toNat) - 1 < w 0) by omega), if_pos rfl]
      exact H
    · have q2' : 0 ≤ w (56 + 3 * x.toNat) - 1 ∧ w (56 + 3 * x.toNat) - 1 < w 0 := by have := o.1; omega
      obtain ⟨hk, wl, wo, x8⟩ := wR_well l.1 q2'
      rw [if_pos q2', if_neg (by omega), if_pos (k8 (rpK (show x.toNat < 3 by omega))), if_pos (w10 hk).1, rp.1, c_uppermostCoin hk wl]
      have eR : rchF (wW w (w (56 + 3 * x.toNat) - 1).toNat) (wW w (w (56 + 3 * x.toNat) - 1).toNat 2).toNat (w (55 + 3 * x.toNat)) 0 (wW w (w (56 + 3 * x.toNat) - 1).toNat 2).toNat = wRch w x.toNat := rfl
      rw [eR]
      by_cases q3 : wRch w x.toNat = -1
      · rw [show gRe w x = (2, 0) by unfold gRe; rw [if_pos q, if_neg q2, if_pos q3]] at H
        rw [if_pos q3]
        exact H
      · rw [show gRe w x = (0, wRch w x.toNat) by unfold gRe; rw [if_pos q, if_neg q2, if_neg q3]] at H
        rw [if_neg q3]
        exact H
  · rw [show gRe w x = (1, 0) by unfold gRe; rw [if_neg q]] at H
    rw [if_neg q]
    exact H
theorem mg_reach {x : Int} (o : rOk w N R T) (l : MI h w c U b r k1 k2 W I L f) {KI KX} (H : ∀ h', mB h h' → MI h' w c U b r k1 k2 W I L f → h' 577 0 = (gRe w x).1 → KI (if (gRe w x).1 = 0 then (gRe w x).2 else 0) eNT e ewP h') : eCi X m_X13_reach [vR 577, vI x] eNT e ewP h KI KX := by
  refine bk_X13_reach_0 X 577 x eNT e ewP h _ ?_
  have w1 := h0w l.1
  have o1 : rOk ((up h 577 0 0) 578) N R T := by rw [w1]; exact o
  rw [if_pos mk577, if_pos mk577, m_ropeQ o1, w1]
  by_cases q : 0 ≤ x ∧ x < w 1
  · obtain ⟨v1, v2, v3, v4, v5⟩ := rp_i o q
    have mb := fun KI KX => @m_boundTo X e (up h 577 0 0) x.toNat v1 (by rw [w1]; exact v3) KI KX
    rw [v2, w1] at mb
    rw [if_pos q, if_neg (by decide), if_pos mk577, mb]
    by_cases q2 : w (56 + 3 * x.toNat) - 1 < 0
    · rw [show gRe w x = (2, 0) by unfold gRe; rw [if_pos q, if_pos q2]] at H
      rw [if_pos q2, if_pos mk577, m_fails, upup]
      exact H _ (mB_up (fun _ _ => rfl) (by omega)) (MI_0 l) up_eq
    · obtain ⟨u1, u2, u3, u4, u5, u6⟩ := wl_i o (show 0 ≤ w (56 + 3 * x.toNat) - 1 ∧ w (56 + 3 * x.toNat) - 1 < w 0 by omega)
      have mr := fun KI KX => @m_reached X e (up h 577 0 0) (w (56 + 3 * x.toNat) - 1).toNat (wW w (w (56 + 3 * x.toNat) - 1).toNat 2).toNat x.toNat u1 v1 (by rw [w1]; exact u4) u5 (by rw [w1]; omega) (by rw [w1]; exact fAt_ex) KI KX
      rw [v2, w1] at mr
      have eR : rchF (wW w (w (56 + 3 * x.toNat) - 1).toNat) (wW w (w (56 + 3 * x.toNat) - 1).toNat 2).toNat (w (55 + 3 * x.toNat)) 0 (wW w (w (56 + 3 * x.toNat) - 1).toNat 2).toNat = wRch w x.toNat := rfl
      rw [eR] at mr
      rw [if_neg q2, if_pos mk577, mr]
      by_cases q3 : wRch w x.toNat = -1
      · rw [show gRe w x = (2, 0) by unfold gRe; rw [if_pos q, if_neg q2, if_pos q3]] at H
        rw [if_pos (by omega), if_pos mk577, m_fails, upup]
        exact H _ (mB_up (fun _ _ => rfl) (by omega)) (MI_0 l) up_eq
      · have : 0 ≤ wRch w x.toNat := by
          rcases rch_rng (f := wW w (w (56 + 3 * x.toNat) - 1).toNat) (n := (wW w (w (56 + 3 * x.toNat) - 1).toNat 2).toNat) (len := w (55 + 3 * x.toNat)) with q4 | ⟨t, ht, q4, q5⟩
          · exact absurd q4 q3
          · rw [eR] at q4; omega
        rw [show gRe w x = (0, wRch w x.toNat) by unfold gRe; rw [if_pos q, if_neg q2, if_neg q3]] at H
        rw [if_neg (by omega), if_pos mk577, mr]
        exact H _ (mB_up (fun _ _ => rfl) (by omega)) (MI_0 l) up_eq
  · rw [show gRe w x = (1, 0) by unfold gRe; rw [if_neg q]] at H
    rw [if_neg q, if_pos rfl, if_pos mk577, m_fails, upup]
    exact H _ (mB_up (fun _ _ => rfl) (by omega)) (MI_0 l) up_eq
theorem cg_character {x : Int} (l : CI h w c U b r k1 k2 W I L f) {KI KX} (H : ∀ h', (∀ z, 577 ≤ z → h' z = h z) → CI h' w c U b r k1 k2 W I L f → gC (gCh L x) 4 5 e h' KI KX) : eCi X m_X12_character [vR 1, vI x] eNT e ewP h KI KX := by
  have H := H h (fun _ _ => rfl) l
  refine bk_X12_character_0 X 1 x eNT e ewP h _ ?_
  have l5 := l.2.2.2.2.2.2.2.2.1
  have bad : ¬ (0 ≤ x ∧ x < (L.length : Int)) → KX 4 eNT (e + 1) ewP h := by
    intro q
    rw [show gCh L x = (1, 0) by unfold gCh; rw [if_neg q]] at H
    exact H
  by_cases y0 : x < 0
  · rw [if_pos y0]
    exact bad (by omega)
  · rw [if_neg y0]
    simp only [ck1, ck2, ck52, ck102, ck554, ck560, ck566, ck569, ck571, ck573, ck575, ck567, cp0, cp1, cp2, cp3, cp4, cp5, cp6, cp7, cp8, cp9, cy566, ite_true, true_and, and_true]
    rw [c_size1 cl575 l5]
    by_cases y2 : x < (L.length : Int)
    · rw [if_pos y2]
      simp only [ck1, ck2, ck52, ck102, ck554, ck560, ck566, ck569, ck571, ck573, ck575, ck567, cp0, cp1, cp2, cp3, cp4, cp5, cp6, cp7, cp8, cp9, cy566, ite_true, true_and, and_true]
      have hx : L[x.toNat]? = some (L.getD x.toNat 0) := by
        rw [List.getD_eq_getElem?_getD, List.getElem?_eq_getElem (by omega)]
        rfl
      have ca := fun KI KX => @c_at1 X e h 575 x.toNat _ _ cl575 l5 hx KI KX
      rw [show ((x.toNat : Nat) : Int) = x by omega] at ca
      rw [ca, if_pos (lR_x l5 (List.mem_of_getElem? hx))]
      rw [show gCh L x = (0, L.getD x.toNat 0) by unfold gCh; rw [if_pos (by omega)]] at H
      exact H
    · rw [if_neg y2]
      exact bad (by omega)
theorem mg_character {x : Int} (o : rOk w N R T) (l : MI h w c U b r k1 k2 W I L f) (hL : ∀ z, z ∈ L → 0 ≤ z ∧ z < 65536) {KI KX} (H : ∀ h', mB h h' → MI h' w c U b r k1 k2 W I L f → h' 577 0 = (gCh L x).1 → KI (if (gCh L x).1 = 0 then (gCh L x).2 else 0) eNT e ewP h') : eCi X m_X13_character [vR 577, vI x] eNT e ewP h KI KX := by
  refine bk_X13_character_0 X 577 x eNT e ewP h _ ?_
  have l7 := l.2.2.2.2.2.2.2.2.2.2.1
  have l8 := l.2.2.2.2.2.2.2.2.2.2.2.1
  have l9 := l.2.2.2.2.2.2.2.2.2.2.2.2.1
  rw [if_pos mk577, if_pos mk577, up_nk (show 22 ≠ 0 by decide), l7, m_isBetween, wrn (by omega) (by omega)]
  by_cases q : 0 ≤ x ∧ x < (L.length : Int)
  · have hx : L[x.toNat]? = some (L.getD x.toNat 0) := by
      rw [List.getD_eq_getElem?_getD, List.getElem?_eq_getElem (by omega)]
      rfl
    have hr := hL _ (List.mem_of_getElem? hx)
    rw [show gCh L x = (0, L.getD x.toNat 0) by unfold gCh; rw [if_pos q]] at H
    rw [if_pos (show 0 ≤ x ∧ x ≤ (L.length : Int) - 1 by omega), if_neg (by decide)]
    simp only [mk577, mk578, mk579, mk580, mk581, mk582, mk583, mk584, mk585, mk586, mk587, mn578, mn579, mn580, mn581, mn582, mn583, mn584, mn585, mn586, mn587, mp578, mp579, mp580, mp581, mp582, mp583, mp584, mp585, mp586, mp587, ite_true, true_and, and_true]
    rw [up_ne (show 585 ≠ 577 by decide), aR_g l9 hx, if_pos ⟨by omega, by omega⟩, if_pos hr]
    exact H _ (mB_up (fun _ _ => rfl) (by omega)) (MI_0 l) up_eq
  · rw [show gCh L x = (1, 0) by unfold gCh; rw [if_neg q]] at H
    rw [if_neg (show ¬ (0 ≤ x ∧ x ≤ (L.length : Int) - 1) by omega), if_pos rfl, if_pos mk577, m_fails, upup, if_pos (by decide)]
    exact H _ (mB_up (fun _ _ => rfl) (by omega)) (MI_0 l) up_eq
theorem cg_reason {d s : Int} (l : CI h w c U b r k1 k2 W I L f) {KI KX} (H : ∀ h', (∀ z, 577 ≤ z → h' z = h z) → CI h' w c U b r k1 k2 W I L f → gC (gRs k1 k2 d s) 2 5 e h' KI KX) : eCi X m_X12_reason [vR 1, vI d, vI s] eNT e ewP h KI KX := by
  have H := H h (fun _ _ => rfl) l
  refine bk_X12_reason_0 X 1 d s eNT e ewP h _ ?_
  obtain ⟨a1, a2, a3, a4, a5⟩ := l.2.2.2.1
  have bad : ¬ (0 ≤ d ∧ d ≤ 1) → KX 2 eNT (e + 1) ewP h := by
    intro q
    rw [show gRs k1 k2 d s = (1, 0) by unfold gRs; rw [if_neg q]] at H
    exact H
  by_cases y0 : d < 0
  · rw [if_pos y0]
    exact bad (by omega)
  · rw [if_neg y0]
    by_cases y1 : d ≤ 1
    · rw [if_pos y1]
      simp only [ck1, ck2, ck52, ck102, ck554, ck560, ck566, ck569, ck571, ck573, ck575, ck567, cp0, cp1, cp2, cp3, cp4, cp5, cp6, cp7, cp8, cp9, cy566, ite_true, true_and, and_true, kp0, kp1, kk555, kk556, a1, a3]
      by_cases d0 : d = 0
      · rw [if_pos d0]
        by_cases k0 : k1.1 = 0
        · rw [show gRs k1 k2 d s = (2, 0) by unfold gRs; rw [if_pos (by omega), if_pos d0, if_pos k0]] at H
          rw [if_pos k0]
          exact H
        · rw [show gRs k1 k2 d s = (0, if s = 0 then k1.1 else k1.2) by unfold gRs; rw [if_pos (by omega), if_pos d0, if_neg k0]] at H
          rw [if_neg k0]
          by_cases s0 : s = 0
          · rw [if_pos s0] at H ⊢; exact H
          · rw [if_neg s0] at H ⊢
            rw [a2 k0]; exact H
      · rw [if_neg d0]
        by_cases k0 : k2.1 = 0
        · rw [show gRs k1 k2 d s = (2, 0) by unfold gRs; rw [if_pos (by omega), if_neg d0, if_pos k0]] at H
          rw [if_pos k0]
          exact H
        · rw [show gRs k1 k2 d s = (0, if s = 0 then k2.1 else k2.2) by unfold gRs; rw [if_pos (by omega), if_neg d0, if_neg k0]] at H
          rw [if_neg k0]
          by_cases s0 : s = 0
          · rw [if_pos s0] at H ⊢; exact H
          · rw [if_neg s0] at H ⊢
            rw [a4 k0]; exact H
    · rw [if_neg y1]
      exact bad (by omega)
theorem mg_reason {d s : Int} (o : rOk w N R T) (l : MI h w c U b r k1 k2 W I L f) (k12 : k1.1 = 0 → k2.1 = 0) {KI KX} (H : ∀ h', mB h h' → MI h' w c U b r k1 k2 W I L f → h' 577 0 = (gRs k1 k2 d s).1 → KI (if (gRs k1 k2 d s).1 = 0 then (gRs k1 k2 d s).2 else 0) eNT e ewP h') : eCi X m_X13_reason [vR 577, vI d, vI s] eNT e ewP h KI KX := by
  refine bk_X13_reason_0 X 577 d s eNT e ewP h _ ?_
  obtain ⟨a1, a2, a3, a4⟩ := l.2.2.2.1
  simp only [mk577, mk578, mk579, mk580, mk581, mk582, mk583, mk584, mk585, mk586, mk587, mn578, mn579, mn580, mn581, mn582, mn583, mn584, mn585, mn586, mn587, mp578, mp579, mp580, mp581, mp582, mp583, mp584, mp585, mp586, mp587, ite_true, true_and, and_true, m_isBetween, m_fails, upup, up_nk (show 1 ≠ 0 by decide), up_nk (show 2 ≠ 0 by decide), up_nk (show 3 ≠ 0 by decide), up_nk (show 4 ≠ 0 by decide), a1, a3]
  have fin := fun v => H (up h 577 0 v) (mB_up (fun _ _ => rfl) (by omega)) (MI_0 l)
  by_cases q : 0 ≤ d ∧ d ≤ 1
  · rw [if_pos q, if_neg (by decide)]
    by_cases k0 : k1.1 = 0
    · rw [if_pos k0]
      have g : gRs k1 k2 d s = (2, 0) := by
        unfold gRs
        rw [if_pos q]
        by_cases d0 : d = 0
        · rw [if_pos d0, if_pos k0]
        · rw [if_neg d0, if_pos (k12 k0)]
      rw [g] at fin
      exact fin 2 up_eq
    · rw [if_neg k0]
      by_cases d0 : d = 0
      · have g : gRs k1 k2 d s = (0, if s = 0 then k1.1 else k1.2) := by unfold gRs; rw [if_pos q, if_pos d0, if_neg k0]
        rw [g] at fin
        rw [if_neg (show ¬ d = 1 by omega), if_pos d0]
        by_cases s0 : s = 0
        · rw [if_pos s0] at fin ⊢; exact fin 0 up_eq
        · rw [if_neg s0] at fin ⊢
          rw [a2 k0]; exact fin 0 up_eq
      · rw [if_pos (show d = 1 by omega)]
        by_cases k20 : k2.1 = 0
        · have g : gRs k1 k2 d s = (2, 0) := by unfold gRs; rw [if_pos q, if_neg d0, if_pos k20]
          rw [g] at fin
          rw [if_pos k20]
          exact fin 2 up_eq
        · have g : gRs k1 k2 d s = (0, if s = 0 then k2.1 else k2.2) := by unfold gRs; rw [if_pos q, if_neg d0, if_neg k20]
          rw [g] at fin
          rw [if_neg k20, if_neg d0]
          by_cases s0 : s = 0
          · rw [if_pos s0] at fin ⊢; exact fin 0 up_eq
          · rw [if_neg s0] at fin ⊢
            rw [a4 k20]; exact fin 0 up_eq
  · have g : gRs k1 k2 d s = (1, 0) := by unfold gRs; rw [if_neg q]
    rw [g] at fin
    rw [if_neg q, if_pos rfl]
    exact fin 1 up_eq
end
