/-! the class's keeper: orders refused or done -/
def nDig (w : Nat → Int) (d b : Int) : Int × Int := if 1 ≤ d ∧ d ≤ 30 then (if 0 ≤ b ∧ b ≤ 2 then (if w 0 < 8 then (0, 0) else (1, 8)) else (3, b)) else (3, d)
def nDeepen (w : Nat → Int) (x m : Int) : Int × Int := if 0 ≤ x ∧ x < w 0 then (if 1 ≤ m ∧ m ≤ 29 then (if wW w x.toNat 0 + m ≤ 30 then (0, 0) else (4, 30 - wW w x.toNat 0)) else (3, m)) else (2, x)
def nFill (w : Nat → Int) (x : Int) : Int × Int := if 0 ≤ x ∧ x < w 0 then (0, 0) else (2, x)
def nThing (w : Nat → Int) (x d v lo hi : Int) : Int × Int := if 0 ≤ x ∧ x < w 0 then (if 1 ≤ d ∧ d ≤ 30 then (if lo ≤ v ∧ v ≤ hi then (if d ≤ wW w x.toNat 0 then (if wW w x.toNat 2 < 5 then (0, 0) else (1, 5)) else (5, wW w x.toNat 0)) else (3, v)) else (3, d)) else (2, x)
def nTake (w : Nat → Int) (x t : Int) : Int × Int := if 0 ≤ x ∧ x < w 0 then (if 0 ≤ t ∧ t < wW w x.toNat 2 then (0, 0) else (2, t)) else (2, x)
def nRope (w : Nat → Int) (l : Int) : Int × Int := if 1 ≤ l ∧ l ≤ 30 then (if w 1 < 3 then (0, 0) else (1, 3)) else (3, l)
def nBind (w : Nat → Int) (r x : Int) : Int × Int := if 0 ≤ r ∧ r < w 1 then (if 0 ≤ x ∧ x < w 0 then (if w (56 + 3 * r.toNat) - 1 = x then (6, x) else (0, 0)) else (2, x)) else (2, r)
def wRch (w : Nat → Int) (r : Nat) : Int := rchF (wW w (w (56 + 3 * r) - 1).toNat) (wW w (w (56 + 3 * r) - 1).toNat 2).toNat (w (55 + 3 * r)) 0 (wW w (w (56 + 3 * r) - 1).toNat 2).toNat
def nFish (w : Nat → Int) (r : Int) : Int × Int := if 0 ≤ r ∧ r < w 1 then (if w (56 + 3 * r.toNat) - 1 < 0 then (7, w (55 + 3 * r.toNat)) else (if wRch w r.toNat = -1 then (8, fCnt (wW w (w (56 + 3 * r.toNat) - 1).toNat) 0 (wW w (w (56 + 3 * r.toNat) - 1).toNat 2).toNat) else (0, 0))) else (2, r)
def nShout (w : Nat → Int) (x : Int) (m : Nat) : Int × Int := if 0 ≤ x ∧ x < w 0 then (if m = 0 then (9, w 2) else (0, 0)) else (2, x)
def gDp (f : Nat → Int) (m : Int) : Nat → Int := fun j => if j = 0 then f 0 + m else f j
theorem gDp_0 {f : Nat → Int} {m : Int} : gDp f m 0 = f 0 + m := rfl
theorem gDp_o {f : Nat → Int} {m : Int} {j : Nat} (hj : j ≠ 0) : gDp f m j = f j := by unfold gDp; rw [if_neg hj]
def dDeepen (w : Nat → Int) (x : Nat) (m : Int) : Nat → Int := rWell w x (gDp (wW w x) m)
def dComes (w : Nat → Int) (x : Nat) (k d v : Int) : Nat → Int := rWell w x (rAdd (wW w x) (wW w x 2).toNat k d v)
def dTake (w : Nat → Int) (x t : Nat) : Nat → Int := rWell w x (rTake (wW w x) (wW w x 2).toNat t)
def dBind (w : Nat → Int) (r : Nat) (x : Int) : Nat → Int := rSet w (56 + 3 * r) (x + 1)
def dFish (w : Nat → Int) (r : Nat) : Nat → Int := rSet (rSet (dTake w (w (56 + 3 * r) - 1).toNat (wRch w r).toNat) (57 + 3 * r) (wr (w (57 + 3 * r) + 1))) 7 (wr (w 7 + wW w (w (56 + 3 * r) - 1).toNat (7 + 4 * (wRch w r).toNat)))
def gSh (w : Nat → Int) (x : Nat) (M : List Int) : Int := grd M.length (eEc (wW w x) (wW w x 2).toNat M).length (fTime (wW w x) (wW w x 2).toNat)
def fSh (f : Nat → Int) (n : Nat) (g : Int) : Nat → Int := fun j => if j = 3 then wr (f 3 + 1) else if j = 4 then wr (f 4 + g) else rFrg f n 0 j
def dShout (w : Nat → Int) (x : Nat) (M : List Int) : Nat → Int := rEnt (rWell w x (fSh (wW w x) (wW w x 2).toNat (gSh w x M))) x M.length (eEc (wW w x) (wW w x 2).toNat M) (M.length + fFrg (wW w x) 1 (wW w x 2).toNat - (eEc (wW w x) (wW w x 2).toNat M).length) (fFrg (wW w x) 1 (wW w x 2).toNat) (fTime (wW w x) (wW w x 2).toNat) (gSh w x M)
theorem rEnt_bk {w : Nat → Int} {i m k : Nat} {E : List Int} {lost given time g : Int} (hk : k < 30) : rEnt w i m E lost given time g (25 + k) = if k = 0 then (i : Int) else if k = 1 then (m : Int) else if k = 2 then (E.length : Int) else if k = 3 then time else if k = 4 then g else w (20 + k) := by
  have e : rEnt w i m E lost given time g (25 + k) = if 25 + k = 25 then (i : Int) else if 25 + k = 26 then (m : Int) else if 25 + k = 27 then (E.length : Int) else if 25 + k = 28 then time else if 25 + k = 29 then g else w (25 + k - 5) := by
    unfold rEnt
    rw [if_neg (by omega), if_neg (by omega), if_neg (by omega), if_neg (by omega), if_neg (by omega), if_neg (by omega), if_neg (by omega), if_neg (by omega), if_neg (by omega), if_neg (by omega), if_neg (by omega)]
  rw [e]
  by_cases e0 : k = 0
  · rw [if_pos e0, if_pos (by omega)]
  · rw [if_neg e0, if_neg (by omega)]
    by_cases e1 : k = 1
    · rw [if_pos e1, if_pos (by omega)]
    · rw [if_neg e1, if_neg (by omega)]
      by_cases e2 : k = 2
      · rw [if_pos e2, if_pos (by omega)]
      · rw [if_neg e2, if_neg (by omega)]
        by_cases e3 : k = 3
        · rw [if_pos e3, if_pos (by omega)]
        · rw [if_neg e3, if_neg (by omega)]
          by_cases e4 : k = 4
          · rw [if_pos e4, if_pos (by omega)]
          · rw [if_neg e4, if_neg (by omega), show 25 + k - 5 = 20 + k by omega]
/-- refused -/
def rfz (h : Nat → Nat → Int) (r d : Int) : Nat → Nat → Int := up (up (up (up h 555 0 r) 555 1 d) 556 0 0) 556 1 0
theorem kk554 : kn ewK eNT 554 = 3 := kn_ly (by decide +kernel) (by decide)
theorem kk555 : kn ewK eNT 555 = 7 := kn_ly (by decide +kernel) (by decide)
theorem kk556 : kn ewK eNT 556 = 7 := kn_ly (by decide +kernel) (by decide)
theorem kk557 : kn ewK eNT 557 = 9 := kn_ly (by decide +kernel) (by decide)
theorem kl557 : ewK 557 = 9 := by decide +kernel
theorem kp0 : ewP 554 0 = 555 := by decide +kernel
theorem kp1 : ewP 554 1 = 556 := by decide +kernel
theorem kp2 : ewP 554 2 = 557 := by decide +kernel
section
variable {X : eX} {e : Nat} {h : Nat → Nat → Int}
theorem c_isIn {v l u : Int} (KI KX) : eCi X m_X3_isIn [vI v, vI l, vI u] eNT e ewP h KI KX = KI (if l ≤ v ∧ v ≤ u then 1 else 0) eNT e ewP h := by
  refine eCi_eq X (fun Q H => ?_) KI KX
  refine bk_X3_isIn_0 X v l u eNT e ewP h Q ?_
  by_cases a : v < l
  · rw [if_pos a, if_pos (by decide)]
    rw [if_neg (by omega)] at H
    exact H
  · rw [if_neg a]
    by_cases b : v ≤ u
    · rw [if_pos b, if_pos (by decide)]
      rw [if_pos (by omega)] at H
      exact H
    · rw [if_neg b, if_pos (by decide)]
      rw [if_neg (by omega)] at H
      exact H
theorem c_refuse {r d : Int} (KI KX) : eCi X m_X3_refuse [vR 554, vI r, vI d] eNT e ewP h KI KX = KI (-1) eNT e ewP (rfz h r d) := by
  refine eCi_eq X (fun Q H => ?_) KI KX
  refine bk_X3_refuse_0 X 554 r d eNT e ewP h Q ?_
  rw [if_pos kk554, kp0, if_pos kk555]
  refine bk_X7_set_0 X 555 r d eNT e ewP h _ ?_
  rw [if_pos kk555, if_pos kk555]
  show if kn ewK eNT 554 = 3 then _ else _
  rw [if_pos kk554, kp1, if_pos kk556]
  refine bk_X7_set_0 X 556 0 0 eNT e ewP _ _ ?_
  rw [if_pos kk556, if_pos kk556]
  exact H
theorem w_enter {b m y N R : Nat} {w : Nat → Int} {T : Nat → Nat} {i : Nat} {g : Int} {M E : List Int} {lost given time : Int} (hb : ewK b = 11) (hm : ewK m = 4) (hy : ewK y = 9) (hbm : m + 2 ≤ b ∨ b + 50 ≤ m) (hby : y + 3 ≤ b ∨ b + 50 ≤ y) (h8 : N ≤ 8) (h3 : R ≤ 3) (wd : wRel h b w N R T) (hE : E.length ≤ 13) (h10 : 0 ≤ w 10 ∧ w 10 ≤ 6) (lm : lR h m M) (ly : yR h y E lost given time) {KV KX} (H : ∀ h', frm b (b + 50) h h' → wRel h' b (rEnt w i M.length E lost given time g) N R T → KV eNT e ewP h') : eCv X m_X11_enter [vR b, vI (i : Int), vR m, vR y, vI g] eNT e ewP h KV KX := by
  obtain ⟨a1, a2, a3, a4, ⟨b1, b2, L, b3, b4, b5, b6⟩, s1, s2, s3, s4, s5, s6, s7, s8⟩ := wd
  obtain ⟨z1, z2, z3, z4⟩ := y9 hy
  have kb := b11 hb
  have kc := k1 kb.2.2.2.2.2.2.2.2
  refine bk_X11_enter_0 X b i m y g eNT e ewP h _ ?_
  simp only [kb.1, (l4 hm).1, ite_true]
  have f0 : ∀ v1 v2, frm b (b + 1) h (up (up h b 5 v1) b 6 v2) := fun v1 v2 => frm_up (frm_up frm_rfl (by omega)) (by omega)
  rw [c_size1 hm (lR_frm (f0 _ _) (by omega) lm)]
  have ne : y ≠ b := by omega
  simp only [kb.1, z1, z2, z4, ite_true, up_ne ne]
  obtain ⟨y1, y2, y3, y4⟩ := id ly
  rw [y2, y3]
  have nk : ∀ v1 v2 : Int, (up (up h b 5 v1) b 6 v2) b 7 = h b 7 := fun v1 v2 => by rw [up_nk (by omega), up_nk (by omega)]
  simp only [up_nk (show (6 : Nat) ≠ 5 by decide), up_nk (show (7 : Nat) ≠ 6 by decide), up_nk (show (7 : Nat) ≠ 5 by decide), up_nk (show (8 : Nat) ≠ 7 by decide), up_nk (show (8 : Nat) ≠ 6 by decide), up_nk (show (8 : Nat) ≠ 5 by decide), up_nk (show (9 : Nat) ≠ 8 by decide), up_nk (show (9 : Nat) ≠ 7 by decide), up_nk (show (9 : Nat) ≠ 6 by decide), up_nk (show (9 : Nat) ≠ 5 by decide), up_nk (show (10 : Nat) ≠ 9 by decide), up_nk (show (10 : Nat) ≠ 8 by decide), up_nk (show (10 : Nat) ≠ 7 by decide), up_nk (show (10 : Nat) ≠ 6 by decide), up_nk (show (10 : Nat) ≠ 5 by decide), s1, s2, s3, s4, s5, s6]
  have f1 : ∀ v1 v2 v3 v4 v5, frm b (b + 1) h (up (up (up (up (up h b 5 v1) b 6 v2) b 7 v3) b 8 v4) b 9 v5) := fun v1 v2 v3 v4 v5 => frm_up (frm_up (frm_up (frm_up (frm_up frm_rfl (by omega)) (by omega)) (by omega)) (by omega)) (by omega)
  rw [c_size1 z3 (lR_frm (f1 _ _ _ _ _) (by omega) y1)]
  have f2 : ∀ v1 v2 v3 v4 v5 v6, frm b (b + 1) h (up (up (up (up (up (up h b 5 v1) b 6 v2) b 7 v3) b 8 v4) b 9 v5) b 10 v6) := fun v1 v2 v3 v4 v5 v6 => frm_up (f1 _ _ _ _ _) (by omega)
  simp only [kb.1, kb.2.2.2.1, kc.1, ite_true]
  refine w_bkenter kb.2.2.2.2.2.2.2.2 hm hy (by omega) (by omega) (lR_frm (f2 _ _ _ _ _ _) (by omega) lm) (yR_frm (f2 _ _ _ _ _ _) (by omega) ly) ?_ ?_ (fun h' f3 g1 g2 g3 => ?_)
  · unfold lCh; rw [f2 _ _ _ _ _ _ _ (by omega)]; exact b3.2.2.2
  · rw [f2 _ _ _ _ _ _ _ (by omega), b1]; exact h10
  have hb' : h' b = (up (up (up (up (up (up h b 5 (wr (w 2 + 1))) b 6 (wr (w 9 + g))) b 7 (wr (w 3 + M.length))) b 8 (wr (w 4 + lost))) b 9 (wr (w 5 + given))) b 10 (wr (w 6 + E.length))) b := f3 b (by omega)
  have hi : ∀ k, 55 ≤ k → rEnt w i M.length E lost given time g k = w k := fun k hk => by unfold rEnt; rw [if_pos hk]
  refine H h' (frm_tr (f2 _ _ _ _ _ _) f3 (by omega)) ⟨?_, ?_, ?_, ?_, ⟨?_, ?_, E, g3, hE, ?_, ?_⟩, ?_⟩
  · rw [hb', up_nk (by omega), up_nk (by omega), up_nk (by omega), up_nk (by omega), up_nk (by omega), up_nk (by omega)]; exact a1
  · rw [hb', up_nk (by omega), up_nk (by omega), up_nk (by omega), up_nk (by omega), up_nk (by omega), up_nk (by omega)]; exact a2
  · intro t ht
    refine wlR_congr (fun j hj => (hi _ (by omega)).symm) (wlR_frm f3 (by omega) (wlR_frm (f2 _ _ _ _ _ _) (by omega) (a3 t ht)))
  · exact fun r hr => rpR_congr (fun k h1 h2 => hi k h1) (by omega) (rpR_frm f3 (by omega) (rpR_frm (f2 _ _ _ _ _ _) (by omega) (a4 r hr)))
  · rw [g2, f2 _ _ _ _ _ _ _ (by omega), b1]; rfl
  · intro k hk
    rw [g1 k hk, f2 _ _ _ _ _ _ _ (by omega), rEnt_bk hk]
    by_cases e5 : k < 5
    · have q : ∀ z1 z2 : Int, (if k = 0 then (i : Int) else if k = 1 then (M.length : Int) else if k = 2 then (E.length : Int) else if k = 3 then time else if k = 4 then g else z1) = (if k = 0 then (i : Int) else if k = 1 then (M.length : Int) else if k = 2 then (E.length : Int) else if k = 3 then time else if k = 4 then g else z2) := by
        intro z1 z2
        split
        · rfl
        · split
          · rfl
          · split
            · rfl
            · split
              · rfl
              · rw [if_pos (by omega), if_pos (by omega)]
      exact q _ _
    · rw [b2 (k - 5) (by omega), show 25 + (k - 5) = 20 + k by omega]
  · rfl
  · intro k hk
    have : rEnt w i M.length E lost given time g (12 + k) = E.getD k 0 := by
      unfold rEnt
      rw [if_neg (by omega), if_neg (by omega), if_neg (by omega), if_neg (by omega), if_neg (by omega), if_neg (by omega), if_neg (by omega), if_neg (by omega), if_neg (by omega), if_neg (by omega), if_pos (by omega), show 12 + k - 12 = k by omega]
    rw [this, List.getD_eq_getElem?_getD, List.getElem?_eq_getElem hk]
    rfl
  · unfold scR
    rw [hb']
    simp only [up_at]
    refine ⟨rfl, rfl, rfl, rfl, rfl, rfl, ?_, ?_⟩
    · simpa [rEnt] using s7
    · simpa [rEnt] using s8
/-- the world at b is a row that may be -/
def wR (h : Nat → Nat → Int) (b : Nat) (w : Nat → Int) : Prop := ∃ N R T, rOk w N R T ∧ wRel h b w N R T
theorem wR_frm {a b c : Nat} {h h' : Nat → Nat → Int} {w : Nat → Int} (f : frm a b h h') (q : c + 50 ≤ a ∨ b ≤ c) (l : wR h c w) : wR h' c w := by
  obtain ⟨N, R, T, o, r⟩ := l
  exact ⟨N, R, T, o, wRel_frm f o.2.1 o.2.2.2.1 q r⟩
theorem kb2 : ewK 2 = 11 := by decide +kernel
theorem rOk_T {w : Nat → Int} {N R i : Nat} {T : Nat → Nat} (o : rOk w N R T) (hi : i < N) : (wW w i 2).toNat = T i := by
  rw [(o.2.2.2.2.1 i hi).2.1, Int.toNat_natCast]
theorem k_openWell {w : Nat → Int} {d b : Int} (l : wR h 2 w) {KI KX} (HR : ∀ r x, nDig w d b = (r, x) → r ≠ 0 → KI (-1) eNT e ewP (rfz h r x)) (HD : nDig w d b = (0, 0) → ∀ h', frm 2 52 h h' → wR h' 2 (rDig w (w 0).toNat d b) → KI (w 0) eNT e ewP h') : eCi X m_X3_openWell [vR 554, vR 2, vI d, vI b] eNT e ewP h KI KX := by
  obtain ⟨N, R, T, o, r⟩ := l
  refine bk_X3_openWell_0 X 554 2 d b eNT e ewP h _ ?_
  rw [c_isIn]
  by_cases q1 : 1 ≤ d ∧ d ≤ 30
  · rw [if_pos q1, if_neg (by decide), c_isIn]
    by_cases q2 : 0 ≤ b ∧ b ≤ 2
    · rw [if_pos q2, if_neg (by decide), if_pos (b11 kb2).1, r.1]
      by_cases q3 : (N : Int) < 8
      · rw [if_pos q3, if_pos (b11 kb2).1]
        refine w_addWell kb2 r (by omega) o.2.2.2.1 (fun h' f g => ?_)
        have e1 : (w 0).toNat = N := by rw [o.1, Int.toNat_natCast]
        have := HD (by unfold nDig; rw [if_pos q1, if_pos q2, o.1, if_pos q3]) h' f ⟨N + 1, R, _, ?_, by rw [e1]; exact g⟩
        · rw [o.1] at this; exact this
        · obtain ⟨o1, o2, o3, o4, o5, o6, o7, o8⟩ := o
          have lo : ∀ k, k ≠ 0 → k < 64 → rDig w N d b k = w k := by
            intro k h1 h2
            unfold rDig
            rw [if_neg (by omega), if_neg h1]
          rw [e1]
          refine ⟨by unfold rDig; rw [if_neg (by omega), if_pos rfl]; omega, by omega, by rw [lo _ (by omega) (by omega)]; exact o3, o4, ?_, ?_, by rw [lo _ (by omega) (by omega)]; exact o7, by rw [lo _ (by omega) (by omega)]; exact o8⟩
          · intro s hs
            dsimp only
            by_cases e2 : s = N
            · subst e2
              rw [if_pos rfl]
              have v0 : wW (rDig w s d b) s 0 = d := by unfold wW rDig; rw [if_pos (by omega), if_pos (by omega)]
              have v1 : wW (rDig w s d b) s 1 = b := by unfold wW rDig; rw [if_pos (by omega), if_neg (by omega), if_pos (by omega)]
              have v2 : wW (rDig w s d b) s 2 = 0 := by unfold wW rDig; rw [if_pos (by omega), if_neg (by omega), if_neg (by omega)]
              exact ⟨by omega, by rw [v2]; rfl, by rw [v0]; exact q1, by rw [v1]; exact q2, fun t ht => absurd ht (Nat.not_lt_zero _)⟩
            · rw [if_neg e2]
              refine wOk_congr (fun j hj => ?_) (o5 s (by omega))
              unfold wW rDig
              rw [if_neg (by omega), if_neg (by omega)]
          · intro k hk
            rw [lo _ (by omega) (by omega), lo _ (by omega) (by omega)]
            have := o6 k hk
            omega
      · rw [if_neg q3, if_pos kk554, c_refuse]
        exact HR 1 8 (by unfold nDig; rw [if_pos q1, if_pos q2, o.1, if_neg q3]) (by decide)
    · rw [if_neg q2, if_pos rfl, if_pos kk554, c_refuse]
      exact HR 3 b (by unfold nDig; rw [if_pos q1, if_neg q2]) (by decide)
  · rw [if_neg q1, if_pos rfl, if_pos kk554, c_refuse]
    exact HR 3 d (by unfold nDig; rw [if_neg q1]) (by decide)
/-- is there a well -/
theorem c_wellQ {w : Nat → Int} {N R : Nat} {T : Nat → Nat} {x : Int} (o : rOk w N R T) (r : wRel h 2 w N R T) (KR KX) : eCr X m_X11_wellAt [vR 2, vI x] eNT e ewP h KR KX = KR (if 0 ≤ x ∧ x < w 0 then 4 + 5 * x.toNat else 0) eNT e ewP h := by
  by_cases q : 0 ≤ x ∧ x < w 0
  · rw [if_pos q]
    have := c_wellAt1 (X := X) (e := e) (i := x.toNat) kb2 r.1 o.2.1 (by have := o.1; omega) KR KX
    rw [show ((x.toNat : Nat) : Int) = x by omega, show 2 + 2 + 5 * x.toNat = 4 + 5 * x.toNat by omega] at this
    exact this
  · rw [if_neg q]
    exact c_wellAt0 kb2 r.1 (by have := o.1; omega) KR KX
theorem c_ropeQ {w : Nat → Int} {N R : Nat} {T : Nat → Nat} {x : Int} (o : rOk w N R T) (r : wRel h 2 w N R T) (KR KX) : eCr X m_X11_ropeAt [vR 2, vI x] eNT e ewP h KR KX = KR (if 0 ≤ x ∧ x < w 1 then 45 + x.toNat else 0) eNT e ewP h := by
  by_cases q : 0 ≤ x ∧ x < w 1
  · rw [if_pos q]
    have := c_ropeAt1 (X := X) (e := e) (i := x.toNat) kb2 r.2.1 o.2.2.2.1 (by have := o.2.2.1; omega) KR KX
    rw [show ((x.toNat : Nat) : Int) = x by omega, show 2 + 43 + x.toNat = 45 + x.toNat by omega] at this
    exact this
  · rw [if_neg q]
    exact c_ropeAt0 kb2 r.2.1 (by have := o.2.2.1; omega) KR KX
theorem wlK {i : Nat} (hi : i < 8) : ewK (4 + 5 * i) = 10 := by
  have := (b11w kb2 hi).2
  rw [show 2 + 2 + 5 * i = 4 + 5 * i by omega] at this
  exact this
theorem rpK {i : Nat} (hi : i < 3) : ewK (45 + i) = 8 := by
  have := (b11r kb2 hi).2
  rw [show 2 + 43 + i = 45 + i by omega] at this
  exact this
theorem k_lowerBottom {w : Nat → Int} {x m : Int} (l : wR h 2 w) {KI KX} (HR : ∀ r y, nDeepen w x m = (r, y) → r ≠ 0 → KI (-1) eNT e ewP (rfz h r y)) (HD : nDeepen w x m = (0, 0) → ∀ h', frm 2 52 h h' → wR h' 2 (dDeepen w x.toNat m) → KI (wW w x.toNat 0 + m) eNT e ewP h') : eCi X m_X3_lowerBottom [vR 554, vR 2, vI x, vI m] eNT e ewP h KI KX := by
  obtain ⟨N, R, T, o, r⟩ := l
  refine bk_X3_lowerBottom_0 X 554 2 x m eNT e ewP h _ ?_
  rw [if_pos (b11 kb2).1, c_wellQ o r]
  by_cases q1 : 0 ≤ x ∧ x < w 0
  · have hxN : x.toNat < N := by have := o.1; omega
    have h8 := o.2.1
    have hk := wlK (show x.toNat < 8 by omega)
    have wl := r.2.2.1 x.toNat hxN
    rw [show 2 + 2 + 5 * x.toNat = 4 + 5 * x.toNat by omega] at wl
    have wo := o.2.2.2.2.1 x.toNat hxN
    rw [if_pos q1, if_neg (by omega), c_isIn]
    by_cases q2 : 1 ≤ m ∧ m ≤ 29
    · have d30 := wo.2.2.1
      simp only [if_pos q2, show ((1 : Int) = 0) = False by decide, ite_false, (w10 hk).1, ite_true, wl.2.2.2.1]
      rw [wrn (x := _ + m) (by omega) (by omega), wrn (x := 30 - _) (by omega) (by omega)]
      by_cases q3 : wW w x.toNat 0 + m ≤ 30
      · rw [if_pos q3, up_eq]
        have f : frm (4 + 5 * x.toNat) (4 + 5 * x.toNat + 5) h (up h (4 + 5 * x.toNat) 5 (wW w x.toNat 0 + m)) := frm_up frm_rfl (by omega)
        have f' : frm (2 + 2 + 5 * x.toNat) (2 + 2 + 5 * x.toNat + 5) h (up h (4 + 5 * x.toNat) 5 (wW w x.toNat 0 + m)) := by
          rw [show 2 + 2 + 5 * x.toNat = 4 + 5 * x.toNat by omega]; exact f
        obtain ⟨a0, a1, a2, a3, a4, a5, a6, a7⟩ := wl
        refine HD (by unfold nDeepen; rw [if_pos q1, if_pos q2, if_pos q3]) _ (frm_le f (by omega)) ⟨N, R, _, rOk_well (n := T x.toNat) o hxN ?_, wRel_well r hxN o.2.1 o.2.2.2.1 f' ?_⟩
        · obtain ⟨b1, b2, b3, b4, b5⟩ := wo
          refine ⟨b1, by rw [gDp_o (by omega)]; exact b2, ⟨by rw [gDp_0]; omega, by rw [gDp_0]; omega⟩, by rw [gDp_o (by omega)]; exact b4, fun t ht => ?_⟩
          obtain ⟨c1, c2, c3, c4, c5, c6⟩ := b5 t ht
          rw [gDp_0, gDp_o (by omega), gDp_o (by omega), gDp_o (by omega), gDp_o (by omega)]
          exact ⟨c1, by omega, c3, c4, c5, c6⟩
        · rw [show 2 + 2 + 5 * x.toNat = 4 + 5 * x.toNat by omega]
          refine ⟨a0, by rw [gDp_o (by omega)]; exact a1, by rw [up_nk (by omega)]; exact a2, by rw [up_eq, gDp_0], by rw [up_nk (by omega), gDp_o (by omega)]; exact a4, by rw [up_nk (by omega), gDp_o (by omega)]; exact a5, by rw [up_nk (by omega), gDp_o (by omega)]; exact a6, fun t ht => ?_⟩
          have := a7 t ht
          unfold thR at this ⊢
          rw [up_ne (by omega), up_ne (by omega), up_ne (by omega), up_ne (by omega), gDp_o (by omega), gDp_o (by omega), gDp_o (by omega), gDp_o (by omega)]
          exact this
      · rw [if_neg q3, if_pos kk554, c_refuse]
        exact HR 4 _ (by unfold nDeepen; rw [if_pos q1, if_pos q2, if_neg q3]) (by decide)
    · rw [if_neg q2, if_pos rfl, if_pos kk554, c_refuse]
      exact HR 3 m (by unfold nDeepen; rw [if_pos q1, if_neg q2]) (by decide)
  · rw [if_neg q1, if_pos rfl, if_pos kk554, c_refuse]
    exact HR 2 x (by unfold nDeepen; rw [if_neg q1]) (by decide)
theorem k_closeWell {w : Nat → Int} {x : Int} (l : wR h 2 w) {KI KX} (HR : ∀ r y, nFill w x = (r, y) → r ≠ 0 → KI (-1) eNT e ewP (rfz h r y)) (HD : nFill w x = (0, 0) → ∀ h', frm 2 52 h h' → wR h' 2 (rFill w (w 0).toNat (w 1).toNat x.toNat) → KI (w 0 - 1) eNT e ewP h') : eCi X m_X3_closeWell [vR 554, vR 2, vI x] eNT e ewP h KI KX := by
  obtain ⟨N, R, T, o, r⟩ := l
  refine bk_X3_closeWell_0 X 554 2 x eNT e ewP h _ ?_
  rw [if_pos (b11 kb2).1, c_wellQ o r]
  by_cases q1 : 0 ≤ x ∧ x < w 0
  · have hxN : x.toNat < N := by have := o.1; omega
    rw [if_pos q1, if_neg (by omega), if_pos (b11 kb2).1]
    have w1 := @w_removeWell X e h 2 N R x.toNat w T kb2 r o hxN
    rw [show ((x.toNat : Nat) : Int) = x by omega] at w1
    refine w1 (fun h' f g => ?_)
    simp only [(b11 kb2).1, ite_true, g.1]
    have e1 : (w 0).toNat = N := by rw [o.1, Int.toNat_natCast]
    have e2 : (w 1).toNat = R := by rw [o.2.2.1, Int.toNat_natCast]
    have e3 : ((N - 1 : Nat) : Int) = w 0 - 1 := by have := o.1; omega
    rw [e3]
    refine HD (by unfold nFill; rw [if_pos q1]) h' f ⟨N - 1, R, _, ?_, by rw [e1, e2]; exact g⟩
    rw [e1, e2]
    obtain ⟨o1, o2, o3, o4, o5, o6, o7, o8⟩ := o
    have lo : ∀ k, k ≠ 0 → k < 55 → rFill w N R x.toNat k = w k := by
      intro k h1 h2
      unfold rFill
      rw [if_neg (by omega), if_neg (by omega), if_neg (by omega), if_neg (by omega)]
    refine ⟨by unfold rFill; rw [if_neg (by omega), if_neg (by omega), if_pos rfl]; omega, by omega, by rw [lo _ (by omega) (by omega)]; exact o3, o4, ?_, ?_, by rw [lo _ (by omega) (by omega)]; exact o7, by rw [lo _ (by omega) (by omega)]; exact o8⟩
    · intro s hs
      dsimp only
      by_cases e2 : s < x.toNat
      · rw [if_pos e2]
        refine wOk_congr (fun j hj => ?_) (o5 s (by omega))
        unfold wW rFill
        rw [if_neg (by omega), if_neg (by omega), if_neg (by omega), if_neg (by omega)]
      · rw [if_neg e2]
        refine wOk_congr (fun j hj => ?_) (o5 (s + 1) (by omega))
        unfold wW rFill
        rw [if_pos (by omega)]
        congr 1
        omega
    · intro k hk
      obtain ⟨g1, g2, g3⟩ := rFill_rp (w := w) (N := N) hk o4 hxN
      rw [g1, g2]
      have := o6 k hk
      refine ⟨this.1, ?_⟩
      split
      · omega
      · split <;> omega
  · rw [if_neg q1, if_pos rfl, if_pos kk554, c_refuse]
    exact HR 2 x (by unfold nFill; rw [if_neg q1]) (by decide)
theorem wOk_add {f : Nat → Int} {n : Nat} {k d v : Int} (o : wOk f n) (hn : n < 5) (hk : 0 ≤ k ∧ k ≤ 2) (hd : 1 ≤ d ∧ d ≤ f 0) (hv : (k = 1 → 97 ≤ v ∧ v ≤ 122) ∧ (k ≠ 1 → 1 ≤ v ∧ v ≤ 9)) : wOk (rAdd f n k d v) (n + 1) := by
  obtain ⟨h0, h1, h2, h3, h4⟩ := o
  refine ⟨by omega, ?_, by rw [rAdd_o (by omega) (by omega)]; exact h2, by rw [rAdd_o (by omega) (by omega)]; exact h3, fun t ht => ?_⟩
  · unfold rAdd; rw [if_neg (by omega), if_neg (by omega), if_neg (by omega), if_neg (by omega), if_pos rfl]; omega
  · rw [rAdd_o (j := 0) (by omega) (by omega)]
    by_cases q : t = n
    · subst q
      have b1 : rAdd f t k d v (5 + 4 * t) = k := by unfold rAdd; rw [if_pos rfl]
      have b2 : rAdd f t k d v (6 + 4 * t) = d := by unfold rAdd; rw [if_neg (by omega), if_pos rfl]
      have b3 : rAdd f t k d v (7 + 4 * t) = v := by unfold rAdd; rw [if_neg (by omega), if_neg (by omega), if_pos rfl]
      have b4 : rAdd f t k d v (8 + 4 * t) = (if k = 1 then 1 else 0) := by unfold rAdd; rw [if_neg (by omega), if_neg (by omega), if_neg (by omega), if_pos rfl]
      rw [b1, b2, b3, b4]
      refine ⟨hk, hd, hv.1, hv.2, ?_, fun q => by rw [if_neg q]⟩
      split
      · exact Or.inr rfl
      · exact Or.inl rfl
    · rw [rAdd_o (by omega) (by omega), rAdd_o (by omega) (by omega), rAdd_o (by omega) (by omega), rAdd_o (by omega) (by omega)]
      exact h4 t (by omega)
theorem k_dropThing {w : Nat → Int} {k x d v : Int} (l : wR h 2 w) (hk : 0 ≤ k ∧ k ≤ 2) {KI KX} (HR : ∀ r y, nThing w x d v (if k = 1 then 97 else 1) (if k = 1 then 122 else 9) = (r, y) → r ≠ 0 → KI (-1) eNT e ewP (rfz h r y)) (HD : nThing w x d v (if k = 1 then 97 else 1) (if k = 1 then 122 else 9) = (0, 0) → ∀ h', frm 2 52 h h' → wR h' 2 (dComes w x.toNat k d v) → KI (wW w x.toNat 2) eNT e ewP h') : eCi X m_X3_dropThing [vR 554, vR 2, vI k, vI x, vI d, vI v] eNT e ewP h KI KX := by
  obtain ⟨N, R, T, o, r⟩ := l
  refine bk_X3_dropThing_0 X 554 2 k x d v eNT e ewP h _ ?_
  rw [if_pos (b11 kb2).1, c_wellQ o r]
  by_cases q1 : 0 ≤ x ∧ x < w 0
  · have hxN : x.toNat < N := by have := o.1; omega
    have h8 := o.2.1
    have hkk := wlK (show x.toNat < 8 by omega)
    have wl := r.2.2.1 x.toNat hxN
    rw [show 2 + 2 + 5 * x.toNat = 4 + 5 * x.toNat by omega] at wl
    have wo := o.2.2.2.2.1 x.toNat hxN
    rw [if_pos q1, if_neg (by omega), c_isIn]
    by_cases q2 : 1 ≤ d ∧ d ≤ 30
    · rw [if_pos q2, if_neg (by decide)]
      have fin : (k = 1 → 97 ≤ v ∧ v ≤ 122) ∧ (k ≠ 1 → 1 ≤ v ∧ v ≤ 9) → ∀ KX' : Nat → Nat → Nat → (Nat → Nat → Nat) → (Nat → Nat → Int) → Prop, d ≤ wW w x.toNat 0 → wW w x.toNat 2 < 5 → eCi X m_X10_add [vR (4 + 5 * x.toNat), vI k, vI d, vI v] eNT e ewP h KI KX' := by
        intro hv KX' q4 q5
        refine w_add hkk wl (by have := wl.2.1; omega) (fun h' f g => ?_)
        have hv' : (if k = 1 then (97 : Int) else 1) ≤ v ∧ v ≤ (if k = 1 then (122 : Int) else 9) := by
          by_cases q : k = 1
          · rw [if_pos q, if_pos q]; exact hv.1 q
          · rw [if_neg q, if_neg q]; exact hv.2 q
        have f' : frm (2 + 2 + 5 * x.toNat) (2 + 2 + 5 * x.toNat + 5) h h' := by
          rw [show 2 + 2 + 5 * x.toNat = 4 + 5 * x.toNat by omega]; exact f
        have eT := rOk_T o hxN
        have := HD (by unfold nThing; rw [if_pos q1, if_pos q2, if_pos hv', if_pos q4, if_pos q5]) h' (frm_le f (by omega)) ⟨N, R, _, rOk_well o hxN (show wOk (rAdd (wW w x.toNat) (wW w x.toNat 2).toNat k d v) (T x.toNat + 1) by rw [eT]; exact wOk_add wo (by have := wl.2.1; omega) hk ⟨q2.1, q4⟩ hv), wRel_well r hxN o.2.1 o.2.2.2.1 f' (by rw [show 2 + 2 + 5 * x.toNat = 4 + 5 * x.toNat by omega, eT]; exact g)⟩
        rw [wl.2.1] at this
        exact this
      have s4 := wl.2.2.2.1
      have s2 := wl.2.2.1
      have s2' := wl.2.1
      by_cases q0 : k = 1
      · rw [if_pos q0, c_isLetter]
        by_cases q3 : 97 ≤ v ∧ v ≤ 122
        · simp only [if_pos q3, show ((1 : Int) = 0) = False by decide, ite_false, (w10 hkk).1, ite_true, s4, s2, ← s2', kk554, c_refuse]
          by_cases q4 : d ≤ wW w x.toNat 0
          · rw [if_pos q4]
            by_cases q5 : wW w x.toNat 2 < 5
            · rw [if_pos q5]
              exact fin ⟨fun _ => q3, fun q => absurd q0 q⟩ _ q4 q5
            · rw [if_neg q5]
              exact HR 1 5 (by unfold nThing; rw [if_pos q1, if_pos q2, if_pos q0, if_pos q0, if_pos q3, if_pos q4, if_neg q5]) (by decide)
          · rw [if_neg q4]
            exact HR 5 _ (by unfold nThing; rw [if_pos q1, if_pos q2, if_pos q0, if_pos q0, if_pos q3, if_neg q4]) (by decide)
        · rw [if_neg q3, if_pos rfl, if_pos kk554, c_refuse]
          exact HR 3 v (by unfold nThing; rw [if_pos q1, if_pos q2, if_pos q0, if_pos q0, if_neg q3]) (by decide)
      · rw [if_neg q0, c_isIn]
        by_cases q3 : 1 ≤ v ∧ v ≤ 9
        · simp only [if_pos q3, show ((1 : Int) = 0) = False by decide, ite_false, (w10 hkk).1, ite_true, s4, s2, ← s2', kk554, c_refuse]
          by_cases q4 : d ≤ wW w x.toNat 0
          · rw [if_pos q4]
            by_cases q5 : wW w x.toNat 2 < 5
            · rw [if_pos q5]
              exact fin ⟨fun q => absurd q q0, fun _ => q3⟩ _ q4 q5
            · rw [if_neg q5]
              exact HR 1 5 (by unfold nThing; rw [if_pos q1, if_pos q2, if_neg q0, if_neg q0, if_pos q3, if_pos q4, if_neg q5]) (by decide)
          · rw [if_neg q4]
            exact HR 5 _ (by unfold nThing; rw [if_pos q1, if_pos q2, if_neg q0, if_neg q0, if_pos q3, if_neg q4]) (by decide)
        · rw [if_neg q3, if_pos rfl, if_pos kk554, c_refuse]
          exact HR 3 v (by unfold nThing; rw [if_pos q1, if_pos q2, if_neg q0, if_neg q0, if_neg q3]) (by decide)
    · rw [if_neg q2, if_pos rfl, if_pos kk554, c_refuse]
      exact HR 3 d (by unfold nThing; rw [if_pos q1, if_neg q2]) (by decide)
  · rw [if_neg q1, if_pos rfl, if_pos kk554, c_refuse]
    exact HR 2 x (by unfold nThing; rw [if_neg q1]) (by decide)
end
