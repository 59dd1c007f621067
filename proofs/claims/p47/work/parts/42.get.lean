/-! what is asked and changes nothing -/
def gC (g : Int × Int) (E1 E2 : Nat) (e : Nat) (h : Nat → Nat → Int) (KI : Int → Nat → Nat → (Nat → Nat → Nat) → (Nat → Nat → Int) → Prop) (KX : Nat → Nat → Nat → (Nat → Nat → Nat) → (Nat → Nat → Int) → Prop) : Prop := if g.1 = 0 then KI g.2 eNT e ewP h else if g.1 = 1 then KX E1 eNT (e + 1) ewP h else KX E2 eNT (e + 1) ewP h
def gW (w : Nat → Int) (x y : Int) : Int × Int := if 0 ≤ x ∧ x < w 0 then (if y = 0 then (0, wW w x.toNat 0) else if y = 1 then (0, wW w x.toNat 1) else if y = 2 then (0, wW w x.toNat 2) else if y = 3 then (0, fCnt (wW w x.toNat) 0 (wW w x.toNat 2).toNat) else if y = 4 then (0, fFrg (wW w x.toNat) 1 (wW w x.toNat 2).toNat) else if y = 5 then (0, wW w x.toNat 3) else if y = 6 then (0, wW w x.toNat 4) else if y = 7 then (0, nRp w x) else (2, 0)) else (1, 0)
def gT (w : Nat → Int) (x t y : Int) : Int × Int := if 0 ≤ x ∧ x < w 0 then (if 0 ≤ t ∧ t < wW w x.toNat 2 then (if y = 0 then (0, wW w x.toNat (5 + 4 * t.toNat)) else if y = 1 then (0, wW w x.toNat (6 + 4 * t.toNat)) else if y = 2 then (0, if wW w x.toNat (5 + 4 * t.toNat) = 1 then wW w x.toNat (7 + 4 * t.toNat) - 97 else wW w x.toNat (7 + 4 * t.toNat)) else if y = 3 then (0, wW w x.toNat (8 + 4 * t.toNat)) else if y = 4 then (0, fPl (wW w x.toNat) (wW w x.toNat 2).toNat t.toNat) else (2, 0)) else (1, 0)) else (1, 0)
def gR (w : Nat → Int) (x y : Int) : Int × Int := if 0 ≤ x ∧ x < w 1 then (if y = 0 then (0, w (55 + 3 * x.toNat)) else if y = 1 then (0, w (56 + 3 * x.toNat) - 1) else if y = 2 then (0, w (57 + 3 * x.toNat)) else (2, 0)) else (1, 0)
def gB (w : Nat → Int) (x y : Int) : Int × Int := if 0 ≤ x ∧ x < w 10 then (if 0 ≤ y ∧ y < 5 then (0, w (25 + 5 * x.toNat + y.toNat)) else (2, 0)) else (1, 0)
def gTi (w : Nat → Int) (x : Int) : Int × Int := if 0 ≤ x ∧ x < w 0 then (0, fTime (wW w x.toNat) (wW w x.toNat 2).toNat) else (1, 0)
section
variable {X : eX} {e : Nat} {h : Nat → Nat → Int} {w : Nat → Int} {c : Nat} {U : Nat → Nat → Int} {b : Bool} {r : Nat → Int} {k1 k2 : Int × Int} {W I L : List Int} {f : Int}
theorem c_asked {x : Int} (l : wR h 2 w) {KR KX} (H : if 0 ≤ x ∧ x < w 0 then KR (4 + 5 * x.toNat) eNT e ewP h else KX 4 eNT (e + 1) ewP h) : eCr X m_X12_askedWell [vR 1, vI x] eNT e ewP h KR KX := by
  obtain ⟨N, R, T, o, r⟩ := l
  refine bk_X12_askedWell_0 X 1 x eNT e ewP h _ ?_
  simp only [ck1, ck2, ck52, ck102, ck554, ck560, ck566, ck569, ck571, ck573, ck575, ck567, cp0, cp1, cp2, cp3, cp4, cp5, cp6, cp7, cp8, cp9, cy566, ite_true, true_and, and_true]
  rw [c_wellQ o r]
  by_cases q : 0 ≤ x ∧ x < w 0
  · rw [if_pos q] at H ⊢
    rw [if_neg (by omega)]
    exact H
  · rw [if_neg q] at H ⊢
    rw [if_pos rfl]
    exact H
theorem c_askedR {x : Int} (l : wR h 2 w) {KR KX} (H : if 0 ≤ x ∧ x < w 1 then KR (45 + x.toNat) eNT e ewP h else KX 4 eNT (e + 1) ewP h) : eCr X m_X12_askedRope [vR 1, vI x] eNT e ewP h KR KX := by
  obtain ⟨N, R, T, o, r⟩ := l
  refine bk_X12_askedRope_0 X 1 x eNT e ewP h _ ?_
  simp only [ck1, ck2, ck52, ck102, ck554, ck560, ck566, ck569, ck571, ck573, ck575, ck567, cp0, cp1, cp2, cp3, cp4, cp5, cp6, cp7, cp8, cp9, cy566, ite_true, true_and, and_true]
  rw [c_ropeQ o r]
  by_cases q : 0 ≤ x ∧ x < w 1
  · rw [if_pos q] at H ⊢
    rw [if_neg (by omega)]
    exact H
  · rw [if_neg q] at H ⊢
    rw [if_pos rfl]
    exact H
/-- a well that is there -/
theorem wR_well {x : Int} (l : wR h 2 w) (q : 0 ≤ x ∧ x < w 0) : ewK (4 + 5 * x.toNat) = 10 ∧ wlR h (4 + 5 * x.toNat) (wW w x.toNat) (wW w x.toNat 2).toNat ∧ wOk (wW w x.toNat) (wW w x.toNat 2).toNat ∧ x.toNat < 8 := by
  obtain ⟨N, R, T, o, r⟩ := l
  have hN : x.toNat < N := by have := o.1; omega
  have h8 := o.2.1
  have wl := r.2.2.1 x.toNat hN
  rw [show 2 + 2 + 5 * x.toNat = 4 + 5 * x.toNat by omega] at wl
  rw [rOk_T o hN]
  exact ⟨wlK (by omega), wl, o.2.2.2.2.1 x.toNat hN, by omega⟩
theorem nt0 : ((0 : Nat) : Int) = 0 := rfl
theorem nt1 : ((1 : Nat) : Int) = 1 := rfl
theorem nt2 : ((2 : Nat) : Int) = 2 := rfl
theorem nt3 : ((3 : Nat) : Int) = 3 := rfl
theorem nt4 : ((4 : Nat) : Int) = 4 := rfl
theorem nt5 : ((5 : Nat) : Int) = 5 := rfl
theorem nt6 : ((6 : Nat) : Int) = 6 := rfl
theorem nt7 : ((7 : Nat) : Int) = 7 := rfl
theorem cg_wellOf {x y : Int} (l : wR h 2 w) {KI KX} (H : gC (gW w x y) 4 2 e h KI KX) : eCi X m_X12_wellOf [vR 1, vI x, vI y] eNT e ewP h KI KX := by
  refine bk_X12_wellOf_0 X 1 x y eNT e ewP h _ ?_
  rw [if_pos ck1]
  refine c_asked l ?_
  unfold gC gW at H
  by_cases q : 0 ≤ x ∧ x < w 0
  · obtain ⟨hk, wl, wo, x8⟩ := wR_well l q
    obtain ⟨N, R, T, o, rr⟩ := id l
    have e1 : nRp w x = sumF (fun r => if w (56 + 3 * r) - 1 = x then (1 : Int) else 0) 0 R := by
      unfold nRp
      rw [o.2.2.1, Int.toNat_natCast]
    rw [if_pos q] at H ⊢
    simp only [nt0, nt1, nt2, nt3, nt4, nt5, nt6, nt7, ck1, ck2, ck52, ck102, ck554, ck560, ck566, ck569, ck571, ck573, ck575, ck567, cp0, cp1, cp2, cp3, cp4, cp5, cp6, cp7, cp8, cp9, cy566, ite_true, true_and, and_true, (w10 hk).1, c_countOfF hk wl, c_frogs hk wl, c_ropesAt kb2 rr o.2.2.2.1]
    rw [wl.2.2.2.1, wl.2.2.2.2.1, wl.2.2.1, wl.2.2.2.2.2.1, wl.2.2.2.2.2.2.1, ← wl.2.1, ← e1]
    by_cases y0 : y = 0
    · rw [if_pos y0] at H ⊢; exact H
    · rw [if_neg y0] at H ⊢
      by_cases y1 : y = 1
      · rw [if_pos y1] at H ⊢; exact H
      · rw [if_neg y1] at H ⊢
        by_cases y2 : y = 2
        · rw [if_pos y2] at H ⊢; exact H
        · rw [if_neg y2] at H ⊢
          by_cases y3 : y = 3
          · rw [if_pos y3] at H ⊢; exact H
          · rw [if_neg y3] at H ⊢
            by_cases y4 : y = 4
            · rw [if_pos y4] at H ⊢; exact H
            · rw [if_neg y4] at H ⊢
              by_cases y5 : y = 5
              · rw [if_pos y5] at H ⊢; exact H
              · rw [if_neg y5] at H ⊢
                by_cases y6 : y = 6
                · rw [if_pos y6] at H ⊢; exact H
                · rw [if_neg y6] at H ⊢
                  by_cases y7 : y = 7
                  · rw [if_pos y7] at H ⊢; exact H
                  · rw [if_neg y7] at H ⊢; exact H
  · rw [if_neg q] at H ⊢
    exact H
theorem cg_thingOf {x t y : Int} (l : wR h 2 w) {KI KX} (H : gC (gT w x t y) 4 2 e h KI KX) : eCi X m_X12_thingOf [vR 1, vI x, vI t, vI y] eNT e ewP h KI KX := by
  refine bk_X12_thingOf_0 X 1 x t y eNT e ewP h _ ?_
  rw [if_pos ck1]
  refine c_asked l ?_
  unfold gC gT at H
  by_cases q : 0 ≤ x ∧ x < w 0
  · obtain ⟨hk, wl, wo, x8⟩ := wR_well l q
    rw [if_pos q] at H ⊢
    rw [if_pos (w10 hk).1, c_hasThing hk, wl.2.2.1, ← wl.2.1]
    by_cases q2 : 0 ≤ t ∧ t < wW w x.toNat 2
    · rw [if_pos q2] at H ⊢
      rw [if_neg (by decide)]
      have h5 := wl.1
      have e2 := wl.2.1
      have ht : t.toNat < (wW w x.toNat 2).toNat := by omega
      have et : ((t.toNat : Nat) : Int) = t := by omega
      obtain ⟨t1, t2, t3, t4, t5⟩ := wl.2.2.2.2.2.2.2 t.toNat ht
      obtain ⟨o1, -, o3, o4, -, -⟩ := wo.2.2.2.2 t.toNat ht
      have ck := fun KI KX => @c_kindOf X e h (4 + 5 * x.toNat) t.toNat hk (by omega) KI KX
      have cd := fun KI KX => @c_depthOf X e h (4 + 5 * x.toNat) t.toNat hk (by omega) KI KX
      have cv := fun KI KX => @c_valueOf X e h (4 + 5 * x.toNat) t.toNat hk (by omega) KI KX
      have ca := fun KI KX => @c_isAwake X e h (4 + 5 * x.toNat) t.toNat hk (by omega) KI KX
      have cp := fun KI KX => @c_placeOf X e h (4 + 5 * x.toNat) _ t.toNat hk wl.2.2.1 h5 (by omega) KI KX
      rw [et] at ck cd cv ca cp
      have ep : sPl (h (4 + 5 * x.toNat + 2)) (wW w x.toNat 2).toNat t.toNat = fPl (wW w x.toNat) (wW w x.toNat 2).toNat t.toNat := by
        unfold fPl sPl
        refine sumF_congr _ 0 (fun s _ hs => ?_)
        unfold sAb
        rw [(wl.2.2.2.2.2.2.2 s (by omega)).2.1, t2]
      simp only [nt0, nt1, nt2, nt3, nt4, (w10 hk).1, ite_true, ck, cd, cv, ca, cp, t1, t2, t3, t4, ep]
      by_cases y0 : y = 0
      · rw [if_pos y0] at H ⊢; exact H
      · rw [if_neg y0] at H ⊢
        by_cases y1 : y = 1
        · rw [if_pos y1] at H ⊢; exact H
        · rw [if_neg y1] at H ⊢
          by_cases y2 : y = 2
          · rw [if_pos y2] at H ⊢
            by_cases k0 : wW w x.toNat (5 + 4 * t.toNat) = 1
            · rw [if_pos k0] at H ⊢
              have := o3 k0
              rw [wrn (by omega) (by omega)]
              exact H
            · rw [if_neg k0] at H ⊢
              exact H
          · rw [if_neg y2] at H ⊢
            by_cases y3 : y = 3
            · rw [if_pos y3] at H ⊢
              rcases t5 with t5 | t5
              · rw [t5] at H ⊢
                exact H
              · rw [t5] at H ⊢
                exact H
            · rw [if_neg y3] at H ⊢
              by_cases y4 : y = 4
              · rw [if_pos y4] at H ⊢; exact H
              · rw [if_neg y4] at H ⊢; exact H
    · rw [if_neg q2] at H ⊢
      rw [if_pos rfl]
      exact H
  · rw [if_neg q] at H ⊢
    exact H
theorem cg_ropeOf {x y : Int} (l : wR h 2 w) {KI KX} (H : gC (gR w x y) 4 2 e h KI KX) : eCi X m_X12_ropeOf [vR 1, vI x, vI y] eNT e ewP h KI KX := by
  refine bk_X12_ropeOf_0 X 1 x y eNT e ewP h _ ?_
  rw [if_pos ck1]
  refine c_askedR l ?_
  unfold gC gR at H
  by_cases q : 0 ≤ x ∧ x < w 1
  · obtain ⟨N, R, T, o, rr⟩ := id l
    have hR : x.toNat < R := by have := o.2.2.1; omega
    have h3 := o.2.2.2.1
    have rp := rr.2.2.2.1 x.toNat hR
    rw [show 2 + 43 + x.toNat = 45 + x.toNat by omega] at rp
    rw [if_pos q] at H ⊢
    simp only [nt0, nt1, nt2, k8 (rpK (show x.toNat < 3 by omega)), ite_true, rp.1, rp.2.1, rp.2.2]
    by_cases y0 : y = 0
    · rw [if_pos y0] at H ⊢; exact H
    · rw [if_neg y0] at H ⊢
      by_cases y1 : y = 1
      · rw [if_pos y1] at H ⊢; exact H
      · rw [if_neg y1] at H ⊢
        by_cases y2 : y = 2
        · rw [if_pos y2] at H ⊢; exact H
        · rw [if_neg y2] at H ⊢; exact H
  · rw [if_neg q] at H ⊢
    exact H
theorem kb48 : ewP 2 2 = 48 := (b11 kb2).2.2.2.1
theorem kk48 : kn ewK eNT 48 = 1 := kn_ly (by decide +kernel) (by decide)
theorem kl48 : ewK 48 = 1 := by decide +kernel
theorem cg_bookOf {x y : Int} (l : wR h 2 w) {KI KX} (H : gC (gB w x y) 5 2 e h KI KX) : eCi X m_X12_bookOf [vR 1, vI x, vI y] eNT e ewP h KI KX := by
  refine bk_X12_bookOf_0 X 1 x y eNT e ewP h _ ?_
  obtain ⟨N, R, T, o, rr⟩ := id l
  obtain ⟨bk1, bk2, -⟩ := rr.2.2.2.2.1
  have w6 := o.2.2.2.2.2.2.1
  by_cases a1 : x < 0
  · rw [if_pos a1]
    rw [show gB w x y = (1, 0) by unfold gB; rw [if_neg (by omega)]] at H
    exact H
  · rw [if_neg a1]
    simp only [ck1, ck2, ck52, ck102, ck554, ck560, ck566, ck569, ck571, ck573, ck575, ck567, cp0, cp1, cp2, cp3, cp4, cp5, cp6, cp7, cp8, cp9, cy566, ite_true, true_and, and_true, kb48, kk48]
    rw [show h 48 2 = w 10 from bk1]
    by_cases a2 : x < w 10
    · rw [if_pos a2]
      by_cases a3 : y < 0
      · rw [if_pos a3]
        rw [show gB w x y = (2, 0) by unfold gB; rw [if_pos (by omega), if_neg (by omega)]] at H
        exact H
      · rw [if_neg a3]
        by_cases a4 : y < 5
        · rw [if_pos a4]
          rw [show gB w x y = (0, w (25 + 5 * x.toNat + y.toNat)) by unfold gB; rw [if_pos (by omega), if_pos (by omega)]] at H
          refine bk_X1_numberAt_0 X 48 x y eNT e ewP h _ ?_
          obtain ⟨z1, z2, z3, z4, z5, z6, z7⟩ := k1 kl48
          have e1 : wr (wr (x * 5) + y) = ((5 * x.toNat + y.toNat : Nat) : Int) := by
            rw [wrn (x := x * 5) (by omega) (by omega), wrn (by omega) (by omega)]; omega
          rw [e1, if_neg (by omega), if_pos z1, z2, if_pos (by rw [z4]; decide), z5, if_pos (by omega), if_pos z1, if_pos ⟨z4, by omega, by omega⟩, Int.toNat_natCast]
          have e2 := bk2 (5 * x.toNat + y.toNat) (by omega)
          rw [show 25 + (5 * x.toNat + y.toNat) = 25 + 5 * x.toNat + y.toNat by omega] at e2
          rw [show h (48 + 1) (5 * x.toNat + y.toNat) = w (25 + 5 * x.toNat + y.toNat) from e2]
          exact H
        · rw [if_neg a4]
          rw [show gB w x y = (2, 0) by unfold gB; rw [if_pos (by omega), if_neg (by omega)]] at H
          exact H
    · rw [if_neg a2]
      rw [show gB w x y = (1, 0) by unfold gB; rw [if_neg (by omega)]] at H
      exact H
theorem c_timeK {d n : Nat} {f : Nat → Int} (hd : ewK d = 10) (wl : wlR h d f n) (wo : wOk f n) (KI KX) : eCi X m_X10_timeByKinds [vR d] eNT e ewP h KI KX = KI (fTime f n) eNT e ewP h := by
  have hv : ∀ t, t < n → 0 ≤ h (d + 3) t ∧ h (d + 3) t ≤ 1000 := by
    intro t ht
    rw [(wl.2.2.2.2.2.2.2 t ht).2.2.1]
    obtain ⟨o1, -, o3, o4, -, -⟩ := wo.2.2.2.2 t ht
    by_cases q : f (5 + 4 * t) = 1
    · have := o3 q; omega
    · have := o4 q; omega
  rw [c_timeByKinds hd wl.2.2.1 wl.1 hv (by rw [wl.2.2.2.1]; have := wo.2.2.1; omega)]
  have : sTime (h (d + 1)) (h (d + 3)) (h (d + 4)) (h d 5) n = fTime f n := by
    unfold fTime sTime
    rw [wl.2.2.2.1]
    have e1 : sumF (sThk (h (d + 1)) (h (d + 3))) 0 n = sumF (sThk (fun t => f (5 + 4 * t)) (fun t => f (7 + 4 * t))) 0 n := sumF_congr n 0 (fun t _ ht => by
      obtain ⟨t1, t2, t3, t4, t5⟩ := wl.2.2.2.2.2.2.2 t (by omega)
      unfold sThk
      rw [t1, t3])
    have e2 : sumF (sFrg (h (d + 1)) (h (d + 4)) 1) 0 n = sumF (sFrg (fun t => f (5 + 4 * t)) (fun t => f (8 + 4 * t)) 1) 0 n := sumF_congr n 0 (fun t _ ht => by
      obtain ⟨t1, t2, t3, t4, t5⟩ := wl.2.2.2.2.2.2.2 t (by omega)
      unfold sFrg
      rw [t1, t4])
    rw [e1, e2]
  rw [this]
theorem cg_timeAgain {x : Int} (l : wR h 2 w) {KI KX} (H : gC (gTi w x) 4 2 e h KI KX) : eCi X m_X12_timeAgain [vR 1, vI x] eNT e ewP h KI KX := by
  refine bk_X12_timeAgain_0 X 1 x eNT e ewP h _ ?_
  rw [if_pos ck1]
  refine c_asked l ?_
  unfold gC gTi at H
  by_cases q : 0 ≤ x ∧ x < w 0
  · obtain ⟨hk, wl, wo, x8⟩ := wR_well l q
    rw [if_pos q] at H ⊢
    rw [if_pos (w10 hk).1, c_timeK hk wl wo]
    exact H
  · rw [if_neg q] at H ⊢
    exact H
end
