/-! reach, signs of the line, reasons, accounts, orders of wells -/
def gRe (w : Nat → Int) (x : Int) : Int × Int := if 0 ≤ x ∧ x < w 1 then (if w (56 + 3 * x.toNat) - 1 < 0 then (2, 0) else if wRch w x.toNat = -1 then (2, 0) else (0, wRch w x.toNat)) else (1, 0)
def gCh (L : List Int) (x : Int) : Int × Int := if 0 ≤ x ∧ x < (L.length : Int) then (0, L.getD x.toNat 0) else (1, 0)
def gRs (k1 k2 : Int × Int) (d s : Int) : Int × Int := if 0 ≤ d ∧ d ≤ 1 then (if d = 0 then (if k1.1 = 0 then (2, 0) else (0, if s = 0 then k1.1 else k1.2)) else (if k2.1 = 0 then (2, 0) else (0, if s = 0 then k2.1 else k2.2))) else (1, 0)
def tAll (w : Nat → Int) : Int := sumF (fun i => wW w i 2) 0 (w 0).toNat
def gAc (w : Nat → Int) (W I : List Int) (c : Nat) (x : Int) : Int × Int := if x = 0 then (0, w 0) else if x = 1 then (0, tAll w) else if x = 2 then (0, slp w) else if x = 3 then (0, w 1) else if x = 4 then (0, (W.length : Int)) else if x = 5 then (0, w 2) else if x = 6 then (0, w 3) else if x = 7 then (0, w 4) else if x = 8 then (0, w 5) else if x = 9 then (0, w 6) else if x = 10 then (0, w 7) else if x = 11 then (0, w 8) else if x = 12 then (0, (I.length : Int)) else if x = 13 then (0, (c : Int)) else (1, 0)
section
variable {X : eX} {e : Nat} {h : Nat → Nat → Int} {w : Nat → Int} {c : Nat} {U : Nat → Nat → Int} {b : Bool} {r : Nat → Int} {k1 k2 : Int × Int} {W I L : List Int} {f : Int} {N R : Nat} {T : Nat → Nat}
theorem cg_reach {x : Int} (l : CI h w c U b r k1 k2 W I L f) {KI KX} (H : ∀ h', (∀ z, 577 ≤ z → h' z = h z) → CI h' w c U b r k1 k2 W I L f → gC (gRe w x) 4 5 e h' KI KX) : eCi X m_X12_reach [vR 1, vI x] eNT e ewP h KI KX := by
  have H := H h (fun _ _ => rfl) l
  refine bk_X12_reach_0 X 1 x eNT e ewP h _ ?_
  rw [if_pos ck1]
  refine c_askedR l.1 ?_
  by_cases q : 0 ≤ x ∧ x < w 1
  · obtain ⟨N, R, T, o, rr⟩ := id l.1
    have hR : x.toNat < R := by have := o.2.2.1; omega
    have h3 := o.2.2.2.1
    have rp := rr.2.2.2.1 x.toNat hR
    rw [show 2 + 43 + x.toNat = 45 + x.toNat by omega] at rp
    have oy := o.2.2.2.2.2.1 x.toNat hR
    rw [if_pos q]
    simp only [ck1, ck2, ck52, ck102, ck554, ck560, ck566, ck569, ck571, ck573, ck575, ck567, cp0, cp1, cp2, cp3, cp4, cp5, cp6, cp7, cp8, cp9, cy566, ite_true, true_and, and_true, k8 (rpK (show x.toNat < 3 by omega))]
    rw [rp.2.1, c_wellQ o rr]
    by_cases q2 : w (56 + 3 * x.toNat) - 1 < 0
    · rw [show gRe w x = (2, 0) by unfold gRe; rw [if_pos q, if_pos q2]] at H
      rw [if_neg (show ¬ (0 ≤ w (56 + 3 * x.toNat) - 1 ∧ w (56 + 3 * x.toNat) - 1 < w 0) by omega), if_pos rfl]
      exact H
    · have q2' : 0 ≤ w (56 + 3 * x.toNat) - 1 ∧ w (56 + 3 * x.toNat) - 1 < w 0 := by have := o.1; omega
      obtain ⟨hk, wl, wo, x8⟩ := wR_well l.1 q2'
      rw [if_pos q2', if_neg (by omega), if_pos (k8 (rpK (show x.toNat < 3 by omega))), if_pos (w10 hk).1, rp.1, c_uppermostCoin hk wl]
      have eR : rchF (wW w (w (56 + 3 * x.toNat) - 1).toNat) (wW w (w (56 + 3 * x.toNat) - 1).toNat 2).toNat (w (55 + 3 * x.toNat)) 0 (wW w (w (56 + 3 * x.toNat) - 1).toNat 2).toNat = wRch w x.toNat := rfl
      rw [eR]
      by_cases q3 : wRch w x.toNat = -1
      · rw [show gRe w x = (2, 0) by unfold gRe; rw [if_pos q, if_neg q2, if_pos q3]] at H
        rw [if_pos q3]
        exact H
      · rw [show gRe w x = (0, wRch w x.toNat) by unfold gRe; rw [if_pos q, if_neg q2, if_neg q3]] at H
        rw [if_neg q3]
        exact H
  · rw [show gRe w x = (1, 0) by unfold gRe; rw [if_neg q]] at H
    rw [if_neg q]
    exact H
theorem cg_character {x : Int} (l : CI h w c U b r k1 k2 W I L f) {KI KX} (H : ∀ h', (∀ z, 577 ≤ z → h' z = h z) → CI h' w c U b r k1 k2 W I L f → gC (gCh L x) 4 5 e h' KI KX) : eCi X m_X12_character [vR 1, vI x] eNT e ewP h KI KX := by
  have H := H h (fun _ _ => rfl) l
  refine bk_X12_character_0 X 1 x eNT e ewP h _ ?_
  have l5 := l.2.2.2.2.2.2.2.2.1
  have bad : ¬ (0 ≤ x ∧ x < (L.length : Int)) → KX 4 eNT (e + 1) ewP h := by
    intro q
    rw [show gCh L x = (1, 0) by unfold gCh; rw [if_neg q]] at H
    exact H
  by_cases y0 : x < 0
  · rw [if_pos y0]
    exact bad (by omega)
  · rw [if_neg y0]
    simp only [ck1, ck2, ck52, ck102, ck554, ck560, ck566, ck569, ck571, ck573, ck575, ck567, cp0, cp1, cp2, cp3, cp4, cp5, cp6, cp7, cp8, cp9, cy566, ite_true, true_and, and_true]
    rw [c_size1 cl575 l5]
    by_cases y2 : x < (L.length : Int)
    · rw [if_pos y2]
      simp only [ck1, ck2, ck52, ck102, ck554, ck560, ck566, ck569, ck571, ck573, ck575, ck567, cp0, cp1, cp2, cp3, cp4, cp5, cp6, cp7, cp8, cp9, cy566, ite_true, true_and, and_true]
      have hx : L[x.toNat]? = some (L.getD x.toNat 0) := by
        rw [List.getD_eq_getElem?_getD, List.getElem?_eq_getElem (by omega)]
        rfl
      have ca := fun KI KX => @c_at1 X e h 575 x.toNat _ _ cl575 l5 hx KI KX
      rw [show ((x.toNat : Nat) : Int) = x by omega] at ca
      rw [ca, if_pos (lR_x l5 (List.mem_of_getElem? hx))]
      rw [show gCh L x = (0, L.getD x.toNat 0) by unfold gCh; rw [if_pos (by omega)]] at H
      exact H
    · rw [if_neg y2]
      exact bad (by omega)
end
