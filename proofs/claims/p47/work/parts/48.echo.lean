/-! what would become of the word -/
def eE (w : Nat → Int) (x : Int) (W : List Int) : List Int := eEc (wW w x.toNat) (wW w x.toNat 2).toNat W
def gEL (w : Nat → Int) (W : List Int) (x : Int) : Int × Int := if 0 ≤ x ∧ x < w 0 then (if W.length = 0 then (2, 0) else (0, (eE w x W).length)) else (1, 0)
def gEC (w : Nat → Int) (W : List Int) (x y : Int) : Int × Int := if 0 ≤ x ∧ x < w 0 then (if W.length = 0 then (2, 0) else if 0 ≤ y ∧ y < (eE w x W).length then (0, (eE w x W).getD y.toNat 0) else (2, 0)) else (1, 0)
def gLo (w : Nat → Int) (W : List Int) (x : Int) : Int × Int := if 0 ≤ x ∧ x < w 0 then (if W.length = 0 then (2, 0) else (0, W.length + fFrg (wW w x.toNat) 1 (wW w x.toNat 2).toNat - (eE w x W).length)) else (1, 0)
def gWG (w : Nat → Int) (W : List Int) (x : Int) : Int × Int := if 0 ≤ x ∧ x < w 0 then (if W.length = 0 then (2, 0) else (0, gSh w x.toNat W)) else (1, 0)
section
variable {X : eX} {e : Nat} {h : Nat → Nat → Int} {w : Nat → Int} {c : Nat} {U : Nat → Nat → Int} {b : Bool} {r : Nat → Int} {k1 k2 : Int × Int} {W I L : List Int} {f : Int} {N R : Nat} {T : Nat → Nat}
theorem CI_y {h' : Nat → Nat → Int} (l : CI h w c U b r k1 k2 W I L f) (q : frm 566 569 h h') (hc : lCh h' 567) : CI h' w c U b r k1 k2 W I L f := by
  obtain ⟨l1, l2, l3, l4, p1, p2, p3, p4, p5, p6, p7, p8, p9⟩ := l
  exact ⟨wR_f (fun z h1 h2 => q z (by omega)) l1, cH_f (fun z h1 h2 => q z (by omega)) l2, cV_f (by rw [q 1 (by omega)]) (fun z h1 h2 => q z (by omega)) l3, cK_f (fun z h1 h2 => q z (by omega)) l4, lR_f (q _ (by omega)) (q _ (by omega)) p1, p2, lR_f (q _ (by omega)) (q _ (by omega)) p3, lR_f (q _ (by omega)) (q _ (by omega)) p4, lR_f (q _ (by omega)) (q _ (by omega)) p5, by rw [q 1 (by omega)]; exact p6, lCh_f (q _ (by omega)) p7, lCh_f (q _ (by omega)) p8, hc⟩
theorem w_sendWord {x : Int} (l : CI h w c U b r k1 k2 W I L f) {KV KX} (H1 : ¬ (0 ≤ x ∧ x < w 0) → KX 4 eNT (e + 1) ewP h) (H2 : (0 ≤ x ∧ x < w 0) → W.length = 0 → KX 5 eNT (e + 1) ewP h) (H0 : (0 ≤ x ∧ x < w 0) → 0 < W.length → ∀ h', frm 566 569 h h' → CI h' w c U b r k1 k2 W I L f → yR h' 566 (eE w x W) (W.length + fFrg (wW w x.toNat) 1 (wW w x.toNat 2).toNat - (eE w x W).length) (fFrg (wW w x.toNat) 1 (wW w x.toNat 2).toNat) (fTime (wW w x.toNat) (wW w x.toNat 2).toNat) → KV eNT e ewP h') : eCv X m_X12_sendWord [vR 1, vI x] eNT e ewP h KV KX := by
  refine bk_X12_sendWord_0 X 1 x eNT e ewP h _ ?_
  rw [if_pos ck1]
  refine c_asked l.1 ?_
  have l' := l
  obtain ⟨l1, l2, l3, l4, p1, p2, p3, p4, p5, p6, p7, p8, p9⟩ := l
  by_cases q : 0 ≤ x ∧ x < w 0
  · obtain ⟨hk, wl, wo, x8⟩ := wR_well l1 q
    rw [if_pos q]
    simp only [ck1, ck2, ck52, ck102, ck554, ck560, ck566, ck569, ck571, ck573, ck575, ck567, cp0, cp1, cp2, cp3, cp4, cp5, cp6, cp7, cp8, cp9, cy566, ite_true, true_and, and_true]
    rw [c_size1 cl569 p1]
    by_cases q2 : W.length = 0
    · rw [if_pos (by omega)]
      exact H2 q q2
    · rw [if_neg (by omega)]
      simp only [ck1, ck2, ck52, ck102, ck554, ck560, ck566, ck569, ck571, ck573, ck575, ck567, cp0, cp1, cp2, cp3, cp4, cp5, cp6, cp7, cp8, cp9, cy566, ite_true, true_and, and_true]
      refine w_go cl566 hk cl569 (by omega) (by omega) wo wl p1 (by omega) p9 (fun h' f1 b1 y1 => ?_)
      exact H0 q (by omega) h' f1 (CI_y l' f1 y1.1.2.2.2) y1
  · rw [if_neg q]
    exact H1 q
theorem w_timeOn {x : Int} (l : CI h w c U b r k1 k2 W I L f) (q : 0 ≤ x ∧ x < w 0) {KI KX} (H : ∀ h', frm 566 569 h h' → CI h' w c U b r k1 k2 W I L f → KI (fTime (wW w x.toNat) (wW w x.toNat 2).toNat) eNT e ewP h') : eCi X m_X12_timeOnTheWay [vR 1, vR (4 + 5 * x.toNat)] eNT e ewP h KI KX := by
  refine bk_X12_timeOnTheWay_0 X 1 (4 + 5 * x.toNat) eNT e ewP h _ ?_
  have l' := l
  obtain ⟨l1, l2, l3, l4, p1, p2, p3, p4, p5, p6, p7, p8, p9⟩ := l
  obtain ⟨hk, wl, wo, x8⟩ := wR_well l1 q
  simp only [ck1, ck2, ck52, ck102, ck554, ck560, ck566, ck569, ck571, ck573, ck575, ck567, cp0, cp1, cp2, cp3, cp4, cp5, cp6, cp7, cp8, cp9, cy566, ite_true, true_and, and_true]
  refine w_go cl566 hk cl571 (by omega) (by omega) wo wl p3 (by decide) p9 (fun h' f1 b1 y1 => ?_)
  simp only [ck1, ck2, ck52, ck102, ck554, ck560, ck566, ck569, ck571, ck573, ck575, ck567, cp0, cp1, cp2, cp3, cp4, cp5, cp6, cp7, cp8, cp9, cy566, ite_true, true_and, and_true]
  rw [y1.2.2.2]
  exact H h' f1 (CI_y l' f1 y1.1.2.2.2)
theorem cg_echoLength {x : Int} (l : CI h w c U b r k1 k2 W I L f) {KI KX} (H : ∀ h', (∀ z, 577 ≤ z → h' z = h z) → CI h' w c U b r k1 k2 W I L f → gC (gEL w W x) 4 5 e h' KI KX) : eCi X m_X12_echoLength [vR 1, vI x] eNT e ewP h KI KX := by
  refine bk_X12_echoLength_0 X 1 x eNT e ewP h _ ?_
  rw [if_pos ck1]
  refine w_sendWord l (fun q => ?_) (fun q q2 => ?_) (fun q q2 h' f1 l1 y1 => ?_)
  · have := H h (fun _ _ => rfl) l
    rw [show gEL w W x = (1, 0) by unfold gEL; rw [if_neg q]] at this
    exact this
  · have := H h (fun _ _ => rfl) l
    rw [show gEL w W x = (2, 0) by unfold gEL; rw [if_pos q, if_pos q2]] at this
    exact this
  · have := H h' (fun z hz => f1 z (by omega)) l1
    rw [show gEL w W x = (0, ((eE w x W).length : Int)) by unfold gEL; rw [if_pos q, if_neg (by omega)]] at this
    simp only [ck1, ck2, ck52, ck102, ck554, ck560, ck566, ck569, ck571, ck573, ck575, ck567, cp0, cp1, cp2, cp3, cp4, cp5, cp6, cp7, cp8, cp9, cy566, ite_true, true_and, and_true]
    rw [c_size1 cl567 y1.1]
    exact this
theorem cg_echoLetter {x y : Int} (l : CI h w c U b r k1 k2 W I L f) {KI KX} (H : ∀ h', (∀ z, 577 ≤ z → h' z = h z) → CI h' w c U b r k1 k2 W I L f → gC (gEC w W x y) 4 5 e h' KI KX) : eCi X m_X12_echoLetter [vR 1, vI x, vI y] eNT e ewP h KI KX := by
  refine bk_X12_echoLetter_0 X 1 x y eNT e ewP h _ ?_
  rw [if_pos ck1]
  refine w_sendWord l (fun q => ?_) (fun q q2 => ?_) (fun q q2 h' f1 l1 y1 => ?_)
  · have := H h (fun _ _ => rfl) l
    rw [show gEC w W x y = (1, 0) by unfold gEC; rw [if_neg q]] at this
    exact this
  · have := H h (fun _ _ => rfl) l
    rw [show gEC w W x y = (2, 0) by unfold gEC; rw [if_pos q, if_pos q2]] at this
    exact this
  · have := H h' (fun z hz => f1 z (by omega)) l1
    have bad : ¬ (0 ≤ y ∧ y < ((eE w x W).length : Int)) → KX 5 eNT (e + 1) ewP h' := by
      intro q3
      rw [show gEC w W x y = (2, 0) by unfold gEC; rw [if_pos q, if_neg (by omega), if_neg q3]] at this
      exact this
    by_cases y0 : y < 0
    · rw [if_pos y0]
      exact bad (by omega)
    · rw [if_neg y0]
      simp only [ck1, ck2, ck52, ck102, ck554, ck560, ck566, ck569, ck571, ck573, ck575, ck567, cp0, cp1, cp2, cp3, cp4, cp5, cp6, cp7, cp8, cp9, cy566, ite_true, true_and, and_true]
      rw [c_size1 cl567 y1.1]
      by_cases y2 : y < ((eE w x W).length : Int)
      · rw [if_pos y2]
        simp only [ck1, ck2, ck52, ck102, ck554, ck560, ck566, ck569, ck571, ck573, ck575, ck567, cp0, cp1, cp2, cp3, cp4, cp5, cp6, cp7, cp8, cp9, cy566, ite_true, true_and, and_true]
        have hx : (eE w x W)[y.toNat]? = some ((eE w x W).getD y.toNat 0) := by
          rw [List.getD_eq_getElem?_getD, List.getElem?_eq_getElem (by omega)]
          rfl
        have ca := fun KI KX => @c_at1 X e h' 567 y.toNat _ _ cl567 y1.1 hx KI KX
        rw [show ((y.toNat : Nat) : Int) = y by omega] at ca
        rw [ca, if_pos (lR_x y1.1 (List.mem_of_getElem? hx))]
        rw [show gEC w W x y = (0, (eE w x W).getD y.toNat 0) by unfold gEC; rw [if_pos q, if_neg (by omega), if_pos (by omega)]] at this
        exact this
      · rw [if_neg y2]
        exact bad (by omega)
theorem cg_losses {x : Int} (l : CI h w c U b r k1 k2 W I L f) {KI KX} (H : ∀ h', (∀ z, 577 ≤ z → h' z = h z) → CI h' w c U b r k1 k2 W I L f → gC (gLo w W x) 4 5 e h' KI KX) : eCi X m_X12_losses [vR 1, vI x] eNT e ewP h KI KX := by
  refine bk_X12_losses_0 X 1 x eNT e ewP h _ ?_
  rw [if_pos ck1]
  refine w_sendWord l (fun q => ?_) (fun q q2 => ?_) (fun q q2 h' f1 l1 y1 => ?_)
  · have := H h (fun _ _ => rfl) l
    rw [show gLo w W x = (1, 0) by unfold gLo; rw [if_neg q]] at this
    exact this
  · have := H h (fun _ _ => rfl) l
    rw [show gLo w W x = (2, 0) by unfold gLo; rw [if_pos q, if_pos q2]] at this
    exact this
  · have := H h' (fun z hz => f1 z (by omega)) l1
    rw [show gLo w W x = (0, (W.length : Int) + fFrg (wW w x.toNat) 1 (wW w x.toNat 2).toNat - (eE w x W).length) by unfold gLo; rw [if_pos q, if_neg (by omega)]] at this
    simp only [ck1, ck2, ck52, ck102, ck554, ck560, ck566, ck569, ck571, ck573, ck575, ck567, cp0, cp1, cp2, cp3, cp4, cp5, cp6, cp7, cp8, cp9, cy566, ite_true, true_and, and_true]
    rw [y1.2.1]
    exact this
theorem cg_wouldGrade {x : Int} (l : CI h w c U b r k1 k2 W I L f) {KI KX} (H : ∀ h', (∀ z, 577 ≤ z → h' z = h z) → CI h' w c U b r k1 k2 W I L f → gC (gWG w W x) 4 5 e h' KI KX) : eCi X m_X12_wouldGrade [vR 1, vI x] eNT e ewP h KI KX := by
  refine bk_X12_wouldGrade_0 X 1 x eNT e ewP h _ ?_
  rw [if_pos ck1]
  refine w_sendWord l (fun q => ?_) (fun q q2 => ?_) (fun q q2 h' f1 l1 y1 => ?_)
  · have := H h (fun _ _ => rfl) l
    rw [show gWG w W x = (1, 0) by unfold gWG; rw [if_neg q]] at this
    exact this
  · have := H h (fun _ _ => rfl) l
    rw [show gWG w W x = (2, 0) by unfold gWG; rw [if_pos q, if_pos q2]] at this
    exact this
  · have := H h' (fun z hz => f1 z (by omega)) l1
    rw [show gWG w W x = (0, gSh w x.toNat W) by unfold gWG; rw [if_pos q, if_neg (by omega)]] at this
    simp only [ck1, ck2, ck52, ck102, ck554, ck560, ck566, ck569, ck571, ck573, ck575, ck567, cp0, cp1, cp2, cp3, cp4, cp5, cp6, cp7, cp8, cp9, cy566, ite_true, true_and, and_true]
    have wo := wR_wl l.1 q
    have tb := fTime_b wo
    rw [c_gradeFor cl566 cl569 y1 l1.2.2.2.2.1 (by omega)]
    exact this
theorem cg_time {x : Int} (l : CI h w c U b r k1 k2 W I L f) {KI KX} (H : ∀ h', (∀ z, 577 ≤ z → h' z = h z) → CI h' w c U b r k1 k2 W I L f → gC (gTi w x) 4 5 e h' KI KX) : eCi X m_X12_time [vR 1, vI x] eNT e ewP h KI KX := by
  refine bk_X12_time_0 X 1 x eNT e ewP h _ ?_
  rw [if_pos ck1]
  refine c_asked l.1 ?_
  by_cases q : 0 ≤ x ∧ x < w 0
  · rw [if_pos q, if_pos ck1]
    refine w_timeOn l q (fun h' f1 l1 => ?_)
    have := H h' (fun z hz => f1 z (by omega)) l1
    rw [show gTi w x = (0, fTime (wW w x.toNat) (wW w x.toNat 2).toNat) by unfold gTi; rw [if_pos q]] at this
    exact this
  · rw [if_neg q]
    have := H h (fun _ _ => rfl) l
    rw [show gTi w x = (1, 0) by unfold gTi; rw [if_neg q]] at this
    exact this
end
