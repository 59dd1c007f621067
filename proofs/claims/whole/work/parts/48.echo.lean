/-! what would become of the word -/
def eE (w : Nat → Int) (x : Int) (W : List Int) : List Int := eEc (wW w x.toNat) (wW w x.toNat 2).toNat W
def gEL (w : Nat → Int) (W : List Int) (x : Int) : Int × Int := if 0 ≤ x ∧ x < w 0 then (if W.length = 0 then (2, 0) else (0, (eE w x W).length)) else (1, 0)
def gEC (w : Nat → Int) (W : List Int) (x y : Int) : Int × Int := if 0 ≤ x ∧ x < w 0 then (if W.length = 0 then (2, 0) else if 0 ≤ y ∧ y < (eE w x W).length then (0, (eE w x W).getD y.toNat 0) else (2, 0)) else (1, 0)
def gLo (w : Nat → Int) (W : List Int) (x : Int) : Int × Int := if 0 ≤ x ∧ x < w 0 then (if W.length = 0 then (2, 0) else (0, W.length + fFrg (wW w x.toNat) 1 (wW w x.toNat 2).toNat - (eE w x W).length)) else (1, 0)
def gWG (w : Nat → Int) (W : List Int) (x : Int) : Int × Int := if 0 ≤ x ∧ x < w 0 then (if W.length = 0 then (2, 0) else (0, gSh w x.toNat W)) else (1, 0)
section
variable {X : eX} {e : Nat} {h : Nat → Nat → Int} {w : Nat → Int} {c : Nat} {U : Nat → Nat → Int} {b : Bool} {r : Nat → Int} {k1 k2 : Int × Int} {W I L : List Int} {f : Int} {N R : Nat} {T : Nat → Nat}
theorem CI_y {h' : Nat → Nat → Int} (l : CI h w c U b r k1 k2 W I L f) (q : frm 566 569 h h') (hc : lCh h' 567) : CI h' w c U b r k1 k2 W I L f := by
  obtain ⟨l1, l2, l3, l4, p1, p2, p3, p4, p5, p6, p7, p8, p9⟩ := l
  exact ⟨wR_f (fun z h1 h2 => q z (by omega)) l1, cH_f (fun z h1 h2 => q z (by omega)) l2, cV_f (by rw [q 1 (by omega)]) (fun z h1 h2 => q z (by omega)) l3, cK_f (fun z h1 h2 => q z (by omega)) l4, lR_f (q _ (by omega)) (q _ (by omega)) p1, p2, lR_f (q _ (by omega)) (q _ (by omega)) p3, lR_f (q _ (by omega)) (q _ (by omega)) p4, lR_f (q _ (by omega)) (q _ (by omega)) p5, by rw [q 1 (by omega)]; exact p6, lCh_f (q _ (by omega)) p7, lCh_f (q _ (by omega)) p8, hc⟩
theorem w_sendWord {x : Int} (l : CI h w c U b r k1 k2 W I L f) {KV KX} (H1 : ¬ (0 ≤ x ∧ x < w 0) → KX 4 eNT (e + 1) ewP h) (H2 : (0 ≤ x ∧ x < w 0) → W.length = 0 → KX 5 eNT (e + 1) ewP h) (H0 : (0 ≤ x ∧ x < w 0) → 0 < W.length → ∀ h', frm 566 569 h h' → CI h' w c U b r k1 k2 W I L f → yR h' 566 (eE w x W) (W.length + fFrg (wW w x.toNat) 1 (wW w x.toNat 2).toNat - (eE w x W).length) (fFrg (wW w x.toNat) 1 (wW w x.toNat 2).toNat) (fTime (wW w x.toNat) (wW w x.toNat 2).toNat) → KV eNT e ewP h') : eCv X m_X12_sendWord [vR 1, vI x] eNT e ewP h KV KX := by
  refine bk_X12_sendWord_0 X 1 x eNT e ewP h _ ?_
  rw [if_pos ck1]
  refine c_asked l.1 ?_
  have l' := l
  obtain ⟨l1, l2, l3, l4, p1, p2, p3, p4, p5, p6, p7, p8, p9⟩ := l
  by_cases q : 0 ≤ x ∧ x < w 0
  · obtain ⟨hk, wl, wo, x8⟩ := wR_well l1 q
    rw [if_pos q]
    simp only [ck1, ck2, ck52, ck102, ck554, ck560, ck566, ck569, ck571, ck573, ck575, ck567, cp0, cp1, cp2, cp3, cp4, cp5, cp6, cp7, cp8, cp9, cy566, ite_true, true_and, and_true]
    rw [c_size1 cl569 p1]
    by_cases q2 : W.length = 0
    · rw [if_pos (by omega)]
      exact H2 q q2
    · rw [if_neg (by omega)]
      simp only [ck1, ck2, ck52, ck102, ck554, ck560, ck566, ck569, ck571, ck573, ck575, ck567, cp0, cp1, cp2, cp3, cp4, cp5, cp6, cp7, cp8, cp9, cy566, ite_true, true_and, and_true]
      refine w_go cl566 hk cl569 (by omega) (by omega) wo wl p1 (by omega) p9 (fun h' f1 b1 y1 => ?_)
      exact H0 q (by omega) h' f1 (CI_y l' f1 y1.1.2.2.2) y1
  · rw [if_neg q]
    exact H1 q
theorem w_timeOn {x : Int} (l : CI h w c U b r k1 k2 W I L f) (q : 0 ≤ x ∧ x < w 0) {KI KX} (H : ∀ h', frm 566 569 h h' → CI h' w c U b r k1 k2 W I L f → KI (fTime (wW w x.toNat) (wW w x.toNat 2).toNat) eNT e ewP h') : eCi X m_X12_timeOnTheWay [vR 1, vR (4 + 5 * x.toNat)] eNT e ewP h KI KX := by
  refine bk_X12_timeOnTheWay_0 X 1 (4 + 5 * x.toNat) eNT e ewP h _ ?_
  have l' := l
  obtain ⟨l1, l2, l3, l4, p1, p2, p3, p4, p5, p6, p7, p8, p9⟩ := l
  obtain ⟨hk, wl, wo, x8⟩ := wR_well l1 q
  simp only [ck1, ck2, ck52, ck102, ck554, ck560, ck566, ck569, ck571, ck573, ck575, ck567, cp0, cp1, cp2, cp3, cp4, cp5, cp6, cp7, cp8, cp9, cy566, ite_true, true_and, and_true]
  refine w_go cl566 hk cl571 (by omega) (by omega) wo wl p3 (by decide) p9 (fun h' f1 b1 y1 => ?_)
  simp only [ck1, ck2, ck52, ck102, ck554, ck560, ck566, ck569, ck571, ck573, ck575, ck567, cp0, cp1, cp2, cp3, cp4, cp5, cp6, cp7, cp8, cp9, cy566, ite_true, true_and, and_true]
  rw [y1.2.2.2]
  exact H h' f1 (CI_y l' f1 y1.1.2.2.2)
theorem cg_echoLength {x : Int} (l : CI h w c U b r k1 k2 W I L f) {KI KX} (H : ∀ h', (∀ z, 577 ≤ z → h' z = h z) → CI h' w c U b r k1 k2 W I L f → gC (gEL w W x) 4 5 e h' KI KX) : eCi X m_X12_echoLength [vR 1, vI x] eNT e ewP h KI KX := by
  refine bk_X12_echoLength_0 X 1 x eNT e ewP h _ ?_
  rw [if_pos ck1]
  refine w_sendWord l (fun q => ?_) (fun q q2 => ?_) (fun q q2 h' f1 l1 y1 => ?_)
  · have := H h (fun _ _ => rfl) l
    rw [show gEL w W x = (1, 0) by unfold gEL; rw [if_neg q]] at this
    exact this
  · have := H h (fun _ _ => rfl) l
    rw [show gEL w W x = (2, 0) by unfold gEL; rw [if_pos q, if_pos q2]] at this
    exact this
  · have := H h' (fun z hz => f1 z (by omega)) l1
    rw [show gEL w W x = (0, ((eE w x W).length : Int)) by unfold gEL; rw [if_pos q, if_neg (by omega)]] at this
    simp only [ck1, ck2, ck52, ck102, ck554, ck560, ck566, ck569, ck571, ck573, ck575, ck567, cp0, cp1, cp2, cp3, cp4, cp5, cp6, cp7, cp8, cp9, cy566, ite_true, true_and, and_true]
    rw [c_size1 cl567 y1.1]
    exact this
theorem cg_echoLetter {x y : Int} (l : CI h w c U b r k1 k2 W I L f) {KI KX} (H : ∀ h', (∀ z, 577 ≤ z → h' z = h z) → CI h' w c U b r k1 k2 W I L f → gC (gEC w W x y) 4 5 e h' KI KX) : eCi X m_X12_echoLetter [vR 1, vI x, vI y] eNT e ewP h KI KX := by
  refine bk_X12_echoLetter_0 X 1 x y eNT e ewP h _ ?_
  rw [if_pos ck1]
  refine w_sendWord l (fun q => ?_) (fun q q2 => ?_) (fun q q2 h' f1 l1 y1 => ?_)
  · have := H h (fun _ _ => rfl) l
    rw [show gEC w W x y = (1, 0) by unfold gEC; rw [if_neg q]] at this
    exact this
  · have := H h (fun _ _ => rfl) l
    rw [show gEC w W x y = (2, 0) by unfold gEC; rw [if_pos q, if_pos q2]] at this
    exact this
  · have := H h' (fun z hz => f1 z (by omega)) l1
    have bad : ¬ (0 ≤ y ∧ y < ((eE w x W).length : Int)) → KX 5 eNT (e + 1) ewP h' := by
      intro q3
      rw [show gEC w W x y = (2, 0) by unfold gEC; rw [if_pos q, if_neg (by omega), if_neg q3]] at this
      exact this
    by_cases y0 : y < 0
    · rw [if_pos y0]
      exact bad (by omega)
    · rw [if_neg y0]
      simp only [ck1, ck2, ck52, ck102, ck554, ck560, ck566, ck569, ck571, ck573, ck575, ck567, cp0, cp1, cp2, cp3, cp4, cp5, cp6, cp7, cp8, cp9, cy566, ite_true, true_and, and_true]
      rw [c_size1 cl567 y1.1]
      by_cases y2 : y < ((eE w x W).length : Int)
      · rw [if_pos y2]
        simp only [ck1, ck2, ck52, ck102, ck554, ck560, ck566, ck569, ck571, ck573, ck575, ck567, cp0, cp1, cp2, cp3, cp4, cp5, cp6, cp7, cp8, cp9, cy566, ite_true, true_and, and_true]
        have hx : (eE w x W)[y.toNat]? = some ((eE w x W).getD y.toNat 0) := by
          rw [List.getD_eq_getElem?_getD, List.getElem?_eq_getElem (by omega)]
          rfl
        have ca := fun KI KX => @c_at1 X e h' 567 y.toNat _ _ cl567 y1.1 hx KI KX
        rw [show ((y.toNat : Nat) : Int) = y by omega] at ca
        rw [ca, if_pos (lR_x y1.1 (List.mem_of_getElem? hx))]
        rw [show gEC w W x y = (0, (eE w x W).getD y.toNat 0) by unfold gEC; rw [if_pos q, if_neg (by omega), if_pos (by omega)]] at this
        exact this
      · rw [if_neg y2]
        exact bad (by omega)
theorem cg_losses {x : Int} (l : CI h w c U b r k1 k2 W I L f) {KI KX} (H : ∀ h', (∀ z, 577 ≤ z → h' z = h z) → CI h' w c U b r k1 k2 W I L f → gC (gLo w W x) 4 5 e h' KI KX) : eCi X m_X12_losses [vR 1, vI x] eNT e ewP h KI KX := by
  refine bk_X12_losses_0 X 1 x eNT e ewP h _ ?_
  rw [if_pos ck1]
  refine w_sendWord l (fun q => ?_) (fun q q2 => ?_) (fun q q2 h' f1 l1 y1 => ?_)
  · have := H h (fun _ _ => rfl) l
    rw [show gLo w W x = (1, 0) by unfold gLo; rw [if_neg q]] at this
    exact this
  · have := H h (fun _ _ => rfl) l
    rw [show gLo w W x = (2, 0) by unfold gLo; rw [if_pos q, if_pos q2]] at this
    exact this
  · have := H h' (fun z hz => f1 z (by omega)) l1
    rw [show gLo w W x = (0, (W.length : Int) + fFrg (wW w x.toNat) 1 (wW w x.toNat 2).toNat - (eE w x W).length) by unfold gLo; rw [if_pos q, if_neg (by omega)]] at this
    simp only [ck1, ck2, ck52, ck102, ck554, ck560, ck566, ck569, ck571, ck573, ck575, ck567, cp0, cp1, cp2, cp3, cp4, cp5, cp6, cp7, cp8, cp9, cy566, ite_true, true_and, and_true]
    rw [y1.2.1]
    exact this
theorem cg_wouldGrade {x : Int} (l : CI h w c U b r k1 k2 W I L f) {KI KX} (H : ∀ h', (∀ z, 577 ≤ z → h' z = h z) → CI h' w c U b r k1 k2 W I L f → gC (gWG w W x) 4 5 e h' KI KX) : eCi X m_X12_wouldGrade [vR 1, vI x] eNT e ewP h KI KX := by
  refine bk_X12_wouldGrade_0 X 1 x eNT e ewP h _ ?_
  rw [if_pos ck1]
  refine w_sendWord l (fun q => ?_) (fun q q2 => ?_) (fun q q2 h' f1 l1 y1 => ?_)
  · have := H h (fun _ _ => rfl) l
    rw [show gWG w W x = (1, 0) by unfold gWG; rw [if_neg q]] at this
    exact this
  · have := H h (fun _ _ => rfl) l
    rw [show gWG w W x = (2, 0) by unfold gWG; rw [if_pos q, if_pos q2]] at this
    exact this
  · have := H h' (fun z hz => f1 z (by omega)) l1
    rw [show gWG w W x = (0, gSh w x.toNat W) by unfold gWG; rw [if_pos q, if_neg (by omega)]] at this
    simp only [ck1, ck2, ck52, ck102, ck554, ck560, ck566, ck569, ck571, ck573, ck575, ck567, cp0, cp1, cp2, cp3, cp4, cp5, cp6, cp7, cp8, cp9, cy566, ite_true, true_and, and_true]
    have wo := wR_wl l.1 q
    have tb := fTime_b wo
    rw [c_gradeFor cl566 cl569 y1 l1.2.2.2.2.1 (by omega)]
    exact this
theorem cg_time {x : Int} (l : CI h w c U b r k1 k2 W I L f) {KI KX} (H : ∀ h', (∀ z, 577 ≤ z → h' z = h z) → CI h' w c U b r k1 k2 W I L f → gC (gTi w x) 4 5 e h' KI KX) : eCi X m_X12_time [vR 1, vI x] eNT e ewP h KI KX := by
  refine bk_X12_time_0 X 1 x eNT e ewP h _ ?_
  rw [if_pos ck1]
  refine c_asked l.1 ?_
  by_cases q : 0 ≤ x ∧ x < w 0
  · rw [if_pos q, if_pos ck1]
    refine w_timeOn l q (fun h' f1 l1 => ?_)
    have := H h' (fun z hz => f1 z (by omega)) l1
    rw [show gTi w x = (0, fTime (wW w x.toNat) (wW w x.toNat 2).toNat) by unfold gTi; rw [if_pos q]] at this
    exact this
  · rw [if_neg q]
    have := H h (fun _ _ => rfl) l
    rw [show gTi w x = (1, 0) by unfold gTi; rw [if_neg q]] at this
    exact this
/-- the reference's echo -/
theorem m_hasEcho {x : Int} (o : rOk w N R T) (l : MI h w c U b r k1 k2 W I L f) {KI KX} (H1 : ¬ (0 ≤ x ∧ x < w 0) → KI 0 eNT e ewP (up h 577 0 1)) (H2 : (0 ≤ x ∧ x < w 0) → W.length = 0 → KI 0 eNT e ewP (up h 577 0 2)) (H0 : (0 ≤ x ∧ x < w 0) → 0 < W.length → ∀ h', mB h h' → h' 577 0 = 0 → MI h' w c U b r k1 k2 W I L f → sR h' W → eR h' (eE w x W) (W.length + fFrg (wW w x.toNat) 1 (wW w x.toNat 2).toNat - (eE w x W).length) → KI 1 eNT e ewP h') : eCi X m_X13_hasEcho [vR 577, vI x] eNT e ewP h KI KX := by
  have l' := l
  obtain ⟨l1, l2, l3, l4, l5⟩ := l
  obtain ⟨p1, p2, p3, p4, p5, p6, p7, p8, p9, p10⟩ := l5
  refine bk_X13_hasEcho_0 X 577 x eNT e ewP h _ ?_
  have w1 := h0w l1
  have o1 : rOk ((up h 577 0 0) 578) N R T := by rw [w1]; exact o
  rw [if_pos mk577, if_pos mk577, m_wellQ o1, w1]
  by_cases q : 0 ≤ x ∧ x < w 0
  · obtain ⟨v1, v2, v3, v4, v5, v6⟩ := wl_i o q
    rw [if_pos q, if_neg (by decide), if_pos mk577, up_nk (show 16 ≠ 0 by decide), p1]
    by_cases q2 : W.length = 0
    · rw [if_pos (by omega), if_pos mk577, m_fails, upup, if_pos (by decide), if_pos (by decide)]
      exact H2 q q2
    · rw [if_neg (by omega), if_pos mk577]
      refine m_saysWord p2 (by rw [up_nk (by omega)]; exact p1) (aR_h (up_ne (by omega)) p3) (fun h2 f2 s2 => ?_)
      rw [if_pos mk577]
      have w2 : h2 578 = w := by rw [f2.1 578 (by decide) (by decide)]; exact w1
      have ms := @m_sounds X e h2 x.toNat (wW w x.toNat 2).toNat (wW w x.toNat) W v1 (by rw [w2]) v3 s2
      rw [v2] at ms
      refine ms (fun h3 f3 e3 => ?_)
      rw [if_pos (by decide)]
      have gk : ∀ k, k ≠ 0 → k ≠ 17 → k ≠ 19 → k ≠ 20 → h3 577 k = h 577 k := fun k h4 h5 h6 h7 => by rw [f3.2 k (by simp [h6, h7]), f2.2 k (by simp [h5]), up_nk h4]
      have gc : ∀ z, z ≠ 577 → z ≠ 583 → z ≠ 584 → h3 z = h z := fun z h4 h5 h6 => by rw [f3.1 z (by simp [h6]) h4, f2.1 z (by simp [h5]) h4, up_ne h4]
      refine H0 q (by omega) h3 (fun z hz => gc z (by omega) (by omega) (by omega)) (by rw [f3.2 0 (by decide), f2.2 0 (by decide), up_eq]) ⟨by rw [gc _ (by omega) (by omega) (by omega)]; exact l1, mH_f (gk _ (by omega) (by omega) (by omega) (by omega)) (gk _ (by omega) (by omega) (by omega) (by omega)) (gc _ (by omega) (by omega) (by omega)) l2, mV_f (gk _ (by omega) (by omega) (by omega) (by omega)) (gc _ (by omega) (by omega) (by omega)) l3, mK_f (fun k h4 h5 => gk k (by omega) (by omega) (by omega) (by omega)) l4, mL_f (gk _ (by omega) (by omega) (by omega) (by omega)) (gk _ (by omega) (by omega) (by omega) (by omega)) (gk _ (by omega) (by omega) (by omega) (by omega)) (gk _ (by omega) (by omega) (by omega) (by omega)) (gc _ (by omega) (by omega) (by omega)) (gc _ (by omega) (by omega) (by omega)) (gc _ (by omega) (by omega) (by omega)) l'.2.2.2.2⟩ ⟨by rw [f3.2 17 (by decide)]; exact s2.1, s2.2.1, aR_h (f3.1 _ (by decide) (by decide)) s2.2.2⟩ e3
  · rw [if_neg q, if_pos rfl, if_pos mk577, m_fails, upup, if_pos (by decide), if_pos (by decide)]
    exact H1 q
theorem mg_echoLength {x : Int} (o : rOk w N R T) (l : MI h w c U b r k1 k2 W I L f) {KI KX} (H : ∀ h', mB h h' → MI h' w c U b r k1 k2 W I L f → h' 577 0 = (gEL w W x).1 → KI (if (gEL w W x).1 = 0 then (gEL w W x).2 else 0) eNT e ewP h') : eCi X m_X13_echoLength [vR 577, vI x] eNT e ewP h KI KX := by
  refine bk_X13_echoLength_0 X 577 x eNT e ewP h _ ?_
  rw [if_pos mk577]
  refine m_hasEcho o l (fun q => ?_) (fun q q2 => ?_) (fun q q2 h' f1 t1 l1 s1 e1 => ?_)
  · rw [show gEL w W x = (1, 0) by unfold gEL; rw [if_neg q]] at H
    rw [if_pos rfl]
    exact H _ (mB_up (fun _ _ => rfl) (by omega)) (MI_0 l) up_eq
  · rw [show gEL w W x = (2, 0) by unfold gEL; rw [if_pos q, if_pos q2]] at H
    rw [if_pos rfl]
    exact H _ (mB_up (fun _ _ => rfl) (by omega)) (MI_0 l) up_eq
  · rw [show gEL w W x = (0, ((eE w x W).length : Int)) by unfold gEL; rw [if_pos q, if_neg (by omega)]] at H
    rw [if_neg (by decide), if_pos mk577, e1.1]
    exact H h' f1 l1 t1
theorem mg_echoLetter {x y : Int} (o : rOk w N R T) (l : MI h w c U b r k1 k2 W I L f) (hE : ∀ z, z ∈ eE w x W → (0 ≤ x ∧ x < w 0) → 0 ≤ z ∧ z < 65536) {KI KX} (H : ∀ h', mB h h' → MI h' w c U b r k1 k2 W I L f → h' 577 0 = (gEC w W x y).1 → KI (if (gEC w W x y).1 = 0 then (gEC w W x y).2 else 0) eNT e ewP h') : eCi X m_X13_echoLetter [vR 577, vI x, vI y] eNT e ewP h KI KX := by
  refine bk_X13_echoLetter_0 X 577 x y eNT e ewP h _ ?_
  rw [if_pos mk577]
  refine m_hasEcho o l (fun q => ?_) (fun q q2 => ?_) (fun q q2 h' f1 t1 l1 s1 e1 => ?_)
  · rw [show gEC w W x y = (1, 0) by unfold gEC; rw [if_neg q]] at H
    rw [if_pos rfl, if_pos (by decide)]
    exact H _ (mB_up (fun _ _ => rfl) (by omega)) (MI_0 l) up_eq
  · rw [show gEC w W x y = (2, 0) by unfold gEC; rw [if_pos q, if_pos q2]] at H
    rw [if_pos rfl, if_pos (by decide)]
    exact H _ (mB_up (fun _ _ => rfl) (by omega)) (MI_0 l) up_eq
  · have l16 := e1.2.1
    rw [if_neg (by decide), if_pos mk577, m_isBetween, e1.1, wrn (by omega) (by omega)]
    by_cases q3 : 0 ≤ y ∧ y < ((eE w x W).length : Int)
    · rw [show gEC w W x y = (0, (eE w x W).getD y.toNat 0) by unfold gEC; rw [if_pos q, if_neg (by omega), if_pos q3]] at H
      have hx : (eE w x W)[y.toNat]? = some ((eE w x W).getD y.toNat 0) := by
        rw [List.getD_eq_getElem?_getD, List.getElem?_eq_getElem (by omega)]
        rfl
      have hr := hE _ (List.mem_of_getElem? hx) q
      rw [if_pos (show 0 ≤ y ∧ y ≤ ((eE w x W).length : Int) - 1 by omega), if_neg (by decide)]
      simp only [mk577, mk578, mk579, mk580, mk581, mk582, mk583, mk584, mk585, mk586, mk587, mn578, mn579, mn580, mn581, mn582, mn583, mn584, mn585, mn586, mn587, mp578, mp579, mp580, mp581, mp582, mp583, mp584, mp585, mp586, mp587, ite_true, true_and, and_true]
      rw [aR_g e1.2.2.2 hx, Int.emod_eq_of_lt hr.1 hr.2, if_pos ⟨by omega, by omega⟩, if_pos hr]
      exact H h' f1 l1 t1
    · rw [show gEC w W x y = (2, 0) by unfold gEC; rw [if_pos q, if_neg (by omega), if_neg q3]] at H
      rw [if_neg (show ¬ (0 ≤ y ∧ y ≤ ((eE w x W).length : Int) - 1) by omega), if_pos rfl, if_pos mk577, m_fails, if_pos (by decide)]
      exact H _ (mB_up f1 (by omega)) (MI_0 l1) up_eq
theorem mg_losses {x : Int} (o : rOk w N R T) (l : MI h w c U b r k1 k2 W I L f) {KI KX} (H : ∀ h', mB h h' → MI h' w c U b r k1 k2 W I L f → h' 577 0 = (gLo w W x).1 → KI (if (gLo w W x).1 = 0 then (gLo w W x).2 else 0) eNT e ewP h') : eCi X m_X13_losses [vR 577, vI x] eNT e ewP h KI KX := by
  refine bk_X13_losses_0 X 577 x eNT e ewP h _ ?_
  rw [if_pos mk577]
  refine m_hasEcho o l (fun q => ?_) (fun q q2 => ?_) (fun q q2 h' f1 t1 l1 s1 e1 => ?_)
  · rw [show gLo w W x = (1, 0) by unfold gLo; rw [if_neg q]] at H
    rw [if_pos rfl]
    exact H _ (mB_up (fun _ _ => rfl) (by omega)) (MI_0 l) up_eq
  · rw [show gLo w W x = (2, 0) by unfold gLo; rw [if_pos q, if_pos q2]] at H
    rw [if_pos rfl]
    exact H _ (mB_up (fun _ _ => rfl) (by omega)) (MI_0 l) up_eq
  · rw [show gLo w W x = (0, (W.length : Int) + fFrg (wW w x.toNat) 1 (wW w x.toNat 2).toNat - (eE w x W).length) by unfold gLo; rw [if_pos q, if_neg (by omega)]] at H
    rw [if_neg (by decide), if_pos mk577, e1.2.2.1]
    exact H h' f1 l1 t1
theorem mg_wouldGrade {x : Int} (o : rOk w N R T) (l : MI h w c U b r k1 k2 W I L f) {KI KX} (H : ∀ h', mB h h' → MI h' w c U b r k1 k2 W I L f → h' 577 0 = (gWG w W x).1 → KI (if (gWG w W x).1 = 0 then (gWG w W x).2 else 0) eNT e ewP h') : eCi X m_X13_wouldGrade [vR 577, vI x] eNT e ewP h KI KX := by
  refine bk_X13_wouldGrade_0 X 577 x eNT e ewP h _ ?_
  rw [if_pos mk577]
  refine m_hasEcho o l (fun q => ?_) (fun q q2 => ?_) (fun q q2 h' f1 t1 l1 s1 e1 => ?_)
  · rw [show gWG w W x = (1, 0) by unfold gWG; rw [if_neg q]] at H
    rw [if_pos rfl]
    exact H _ (mB_up (fun _ _ => rfl) (by omega)) (MI_0 l) up_eq
  · rw [show gWG w W x = (2, 0) by unfold gWG; rw [if_pos q, if_pos q2]] at H
    rw [if_pos rfl]
    exact H _ (mB_up (fun _ _ => rfl) (by omega)) (MI_0 l) up_eq
  · rw [show gWG w W x = (0, gSh w x.toNat W) by unfold gWG; rw [if_pos q, if_neg (by omega)]] at H
    obtain ⟨v1, v2, v3, v4, v5, v6⟩ := wl_i o q
    have w8 := s1.2.1
    have e16 := e1.2.1
    have mg := fun KI KX => @m_gradeOf X e h' x.toNat (wW w x.toNat 2).toNat (wW w x.toNat) W.length (eE w x W).length v1 (by rw [l1.1]) v3 s1.1 e1.1 (by omega) (by omega) KI KX
    rw [v2] at mg
    rw [if_neg (by decide), if_pos mk577, mg]
    exact H h' f1 l1 t1
end
