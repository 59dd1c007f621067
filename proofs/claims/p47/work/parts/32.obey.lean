/-! the class's keeper: any order; the history -/
def nOrd (o : Nat) (w : Nat → Int) (a b c : Int) (m : Nat) : Int × Int := match o with
  | 0 => nDig w a b
  | 1 => nDeepen w a b
  | 2 => nFill w a
  | 3 => nThing w a b c 1 9
  | 4 => nThing w a b c 97 122
  | 5 => nThing w a b c 1 9
  | 6 => nTake w a b
  | 7 => (0, 0)
  | 8 => nRope w a
  | 9 => nBind w a b
  | 10 => nFish w a
  | _ => nShout w a m
def dOrd (o : Nat) (w : Nat → Int) (a b c : Int) (M : List Int) : Nat → Int := match o with
  | 0 => rDig w (w 0).toNat a b
  | 1 => dDeepen w a.toNat b
  | 2 => rFill w (w 0).toNat (w 1).toNat a.toNat
  | 3 => dComes w a.toNat 0 b c
  | 4 => dComes w a.toNat 1 b c
  | 5 => dComes w a.toNat 2 b c
  | 6 => dTake w a.toNat b.toNat
  | 7 => dWake w
  | 8 => rRope w (w 1).toNat a
  | 9 => dBind w a.toNat b
  | 10 => dFish w a.toNat
  | _ => dShout w a.toNat M
def aOrd (o : Nat) (w : Nat → Int) (a b c : Int) (M : List Int) : Int := match o with
  | 0 => w 0
  | 1 => wW w a.toNat 0 + b
  | 2 => w 0 - 1
  | 3 => wW w a.toNat 2
  | 4 => wW w a.toNat 2
  | 5 => wW w a.toNat 2
  | 6 => wW w a.toNat 2 - 1
  | 7 => slp w
  | 8 => w 1
  | 9 => nRp (dBind w a.toNat b) b
  | 10 => wW w (w (56 + 3 * a.toNat) - 1).toNat (7 + 4 * (wRch w a.toNat).toNat)
  | _ => gSh w a.toNat M
theorem wR_w0 {h : Nat → Nat → Int} {b : Nat} {w : Nat → Int} (l : wR h b w) : 0 ≤ w 0 ∧ w 0 ≤ 8 := by
  obtain ⟨N, R, T, o, r⟩ := l
  have := o.1
  have := o.2.1
  omega
theorem wR_wl {h : Nat → Nat → Int} {b : Nat} {w : Nat → Int} (l : wR h b w) {x : Int} (q : 0 ≤ x ∧ x < w 0) : wOk (wW w x.toNat) (wW w x.toNat 2).toNat := by
  obtain ⟨N, R, T, o, r⟩ := l
  have := o.1
  have := o.2.2.2.2.1 x.toNat (by omega)
  rw [rOk_T o (by omega)]
  exact this
theorem nThing_w {w : Nat → Int} {x d v lo hi : Int} (q : nThing w x d v lo hi = (0, 0)) : 0 ≤ x ∧ x < w 0 := by
  unfold nThing at q
  split at q
  · assumption
  · exact absurd (congrArg Prod.fst q) (by intro z; simp at z)
theorem nDeepen_w {w : Nat → Int} {x m : Int} (q : nDeepen w x m = (0, 0)) : (0 ≤ x ∧ x < w 0) ∧ 1 ≤ m := by
  unfold nDeepen at q
  split at q
  · split at q
    · exact ⟨by assumption, by omega⟩
    · exact absurd (congrArg Prod.fst q) (by intro z; simp at z)
  · exact absurd (congrArg Prod.fst q) (by intro z; simp at z)
theorem nFill_w {w : Nat → Int} {x : Int} (q : nFill w x = (0, 0)) : 0 ≤ x ∧ x < w 0 := by
  unfold nFill at q
  split at q
  · assumption
  · exact absurd (congrArg Prod.fst q) (by intro z; simp at z)
section
variable {X : eX} {e : Nat} {h : Nat → Nat → Int}
theorem w_wakeR {w : Nat → Int} (l : wR h 2 w) {KI KX} (H : ∀ h', frm 2 52 h h' → wR h' 2 (dWake w) → 0 ≤ slp w → KI (slp w) eNT e ewP h') : eCi X m_X11_wakeFrogs [vR 2] eNT e ewP h KI KX := by
  obtain ⟨N, R, T, o, r⟩ := l
  refine w_wakeFrogs kb2 r o.2.1 o.2.2.2.1 (fun h' f g => ?_)
  rw [← dWake_T o] at g
  rw [← slp_T o]
  refine H h' f ⟨N, R, T, ?_, g⟩ (slp_nn o)
  rw [dWake_T o]
  have o' := o
  obtain ⟨o1, o2, o3, o4, o5, o6, o7, o8⟩ := o
  have lo : ∀ k, k ≠ 8 → (k < 64 ∨ 64 + 25 * N ≤ k) → rWake w N T (sumF (fun i => fFrg (wW w i) 0 (T i)) 0 N) k = w k := by
    intro k h1 h2
    unfold rWake
    rw [if_neg (by omega), if_neg h1]
  refine ⟨by rw [lo _ (by omega) (by omega)]; exact o1, o2, by rw [lo _ (by omega) (by omega)]; exact o3, o4, fun s hs => ?_, fun s hs => by rw [lo _ (by omega) (by omega), lo _ (by omega) (by omega)]; exact o6 s hs, by rw [lo _ (by omega) (by omega)]; exact o7, by rw [lo _ (by omega) (by omega)]; exact o8⟩
  refine wOk_congr (fun j hj => ?_) (wOk_frg (a := 1) (o5 s hs))
  unfold wW rWake
  rw [if_pos (by omega), show (64 + 25 * s + j - 64) / 25 = s by omega, show (64 + 25 * s + j - 64) % 25 = j by omega]
  rfl
theorem k_obey {o : Nat} (ho : o < 12) {w : Nat → Int} {a b c : Int} {m : Nat} {M : List Int} (l : wR h 2 w) (hm : ewK m = 4) (hm2 : 560 ≤ m) (lm : lR h m M) (h8M : M.length ≤ 8) (hch : lCh h 558) {KI KX} (HR : ∀ r y, nOrd o w a b c M.length = (r, y) → r ≠ 0 → KI (-1) eNT e ewP (rfz h r y)) (HD : nOrd o w a b c M.length = (0, 0) → ∀ h', kfr h h' → h' 555 = h 555 → h' 556 = h 556 → lCh h' 558 → wR h' 2 (dOrd o w a b c M) → 0 ≤ aOrd o w a b c M → KI (aOrd o w a b c M) eNT e ewP h') : eCi X m_X3_obey [vR 554, vR 2, vR (1010 + o), vI a, vI b, vI c, vR m] eNT e ewP h KI KX := by
  have w0 := wR_w0 l
  have fl : ∀ {h' : Nat → Nat → Int}, frm 2 52 h h' → kfr h h' ∧ h' 555 = h 555 ∧ h' 556 = h 556 ∧ lCh h' 558 := fun f => ⟨kfr_w f, f _ (by omega), f _ (by omega), by unfold lCh; rw [f _ (by omega)]; exact hch⟩
  have ho2 : o = 0 ∨ o = 1 ∨ o = 2 ∨ o = 3 ∨ o = 4 ∨ o = 5 ∨ o = 6 ∨ o = 7 ∨ o = 8 ∨ o = 9 ∨ o = 10 ∨ o = 11 := by omega
  rcases ho2 with ho2 | ho2 | ho2 | ho2 | ho2 | ho2 | ho2 | ho2 | ho2 | ho2 | ho2 | ho2 <;> subst ho2
  · refine bk_X3_obey_0 X 554 2 (1010 + 0) a b c m eNT e ewP h _ ?_
    rw [if_neg (show ¬ 1010 + 0 = 0 by decide), if_pos (show 1010 ≤ 1010 + 0 ∧ 1010 + 0 < 1022 by decide), if_pos (show 1002 = 1002 ∧ 0 ≤ (((1010 + 0 : Nat) : Int) - 1010) ∧ (((1010 + 0 : Nat) : Int) - 1010) < 12 by decide)]
    rw [if_pos (by decide), if_pos kk554]
    exact k_openWell l HR (fun q h' f g => HD q h' (fl f).1 (fl f).2.1 (fl f).2.2.1 (fl f).2.2.2 g w0.1)
  · refine bk_X3_obey_0 X 554 2 (1010 + 1) a b c m eNT e ewP h _ ?_
    rw [if_neg (show ¬ 1010 + 1 = 0 by decide), if_pos (show 1010 ≤ 1010 + 1 ∧ 1010 + 1 < 1022 by decide), if_pos (show 1002 = 1002 ∧ 0 ≤ (((1010 + 1 : Nat) : Int) - 1010) ∧ (((1010 + 1 : Nat) : Int) - 1010) < 12 by decide)]
    rw [if_neg (by decide), if_pos (by decide), if_pos kk554]
    exact k_lowerBottom l HR (fun q h' f g => HD q h' (fl f).1 (fl f).2.1 (fl f).2.2.1 (fl f).2.2.2 g (by have h1 := nDeepen_w q; have h2 := (wR_wl l h1.1).2.2.1; show 0 ≤ wW w a.toNat 0 + b; omega))
  · refine bk_X3_obey_0 X 554 2 (1010 + 2) a b c m eNT e ewP h _ ?_
    rw [if_neg (show ¬ 1010 + 2 = 0 by decide), if_pos (show 1010 ≤ 1010 + 2 ∧ 1010 + 2 < 1022 by decide), if_pos (show 1002 = 1002 ∧ 0 ≤ (((1010 + 2 : Nat) : Int) - 1010) ∧ (((1010 + 2 : Nat) : Int) - 1010) < 12 by decide)]
    rw [if_neg (by decide), if_neg (by decide), if_pos (by decide), if_pos kk554]
    exact k_closeWell l HR (fun q h' f g => HD q h' (fl f).1 (fl f).2.1 (fl f).2.2.1 (fl f).2.2.2 g (by have h1 := nFill_w q; show 0 ≤ w 0 - 1; omega))
  · refine bk_X3_obey_0 X 554 2 (1010 + 3) a b c m eNT e ewP h _ ?_
    rw [if_neg (show ¬ 1010 + 3 = 0 by decide), if_pos (show 1010 ≤ 1010 + 3 ∧ 1010 + 3 < 1022 by decide), if_pos (show 1002 = 1002 ∧ 0 ≤ (((1010 + 3 : Nat) : Int) - 1010) ∧ (((1010 + 3 : Nat) : Int) - 1010) < 12 by decide)]
    rw [if_neg (by decide), if_neg (by decide), if_neg (by decide), if_pos (by decide), if_pos kk554]
    exact k_dropThing (k := 0) l (by decide) HR (fun q h' f g => HD q h' (fl f).1 (fl f).2.1 (fl f).2.2.1 (fl f).2.2.2 g (by have h1 := (wR_wl l (nThing_w q)).2.1; show 0 ≤ wW w a.toNat 2; omega))
  · refine bk_X3_obey_0 X 554 2 (1010 + 4) a b c m eNT e ewP h _ ?_
    rw [if_neg (show ¬ 1010 + 4 = 0 by decide), if_pos (show 1010 ≤ 1010 + 4 ∧ 1010 + 4 < 1022 by decide), if_pos (show 1002 = 1002 ∧ 0 ≤ (((1010 + 4 : Nat) : Int) - 1010) ∧ (((1010 + 4 : Nat) : Int) - 1010) < 12 by decide)]
    rw [if_neg (by decide), if_neg (by decide), if_neg (by decide), if_neg (by decide), if_pos (by decide), if_pos kk554]
    exact k_dropThing (k := 1) l (by decide) HR (fun q h' f g => HD q h' (fl f).1 (fl f).2.1 (fl f).2.2.1 (fl f).2.2.2 g (by have h1 := (wR_wl l (nThing_w q)).2.1; show 0 ≤ wW w a.toNat 2; omega))
  · refine bk_X3_obey_0 X 554 2 (1010 + 5) a b c m eNT e ewP h _ ?_
    rw [if_neg (show ¬ 1010 + 5 = 0 by decide), if_pos (show 1010 ≤ 1010 + 5 ∧ 1010 + 5 < 1022 by decide), if_pos (show 1002 = 1002 ∧ 0 ≤ (((1010 + 5 : Nat) : Int) - 1010) ∧ (((1010 + 5 : Nat) : Int) - 1010) < 12 by decide)]
    rw [if_neg (by decide), if_neg (by decide), if_neg (by decide), if_neg (by decide), if_neg (by decide), if_pos (by decide), if_pos kk554]
    exact k_dropThing (k := 2) l (by decide) HR (fun q h' f g => HD q h' (fl f).1 (fl f).2.1 (fl f).2.2.1 (fl f).2.2.2 g (by have h1 := (wR_wl l (nThing_w q)).2.1; show 0 ≤ wW w a.toNat 2; omega))
  · refine bk_X3_obey_0 X 554 2 (1010 + 6) a b c m eNT e ewP h _ ?_
    rw [if_neg (show ¬ 1010 + 6 = 0 by decide), if_pos (show 1010 ≤ 1010 + 6 ∧ 1010 + 6 < 1022 by decide), if_pos (show 1002 = 1002 ∧ 0 ≤ (((1010 + 6 : Nat) : Int) - 1010) ∧ (((1010 + 6 : Nat) : Int) - 1010) < 12 by decide)]
    rw [if_neg (by decide), if_neg (by decide), if_neg (by decide), if_neg (by decide), if_neg (by decide), if_neg (by decide), if_pos (by decide), if_pos kk554]
    exact k_removeThing l HR (fun q h' f g p => HD q h' (fl f).1 (fl f).2.1 (fl f).2.2.1 (fl f).2.2.2 g p)
  · refine bk_X3_obey_0 X 554 2 (1010 + 7) a b c m eNT e ewP h _ ?_
    rw [if_neg (show ¬ 1010 + 7 = 0 by decide), if_pos (show 1010 ≤ 1010 + 7 ∧ 1010 + 7 < 1022 by decide), if_pos (show 1002 = 1002 ∧ 0 ≤ (((1010 + 7 : Nat) : Int) - 1010) ∧ (((1010 + 7 : Nat) : Int) - 1010) < 12 by decide)]
    rw [if_neg (by decide), if_neg (by decide), if_neg (by decide), if_neg (by decide), if_neg (by decide), if_neg (by decide), if_neg (by decide), if_pos (by decide), if_pos (b11 kb2).1]
    exact w_wakeR l (fun h' f g p => HD rfl h' (fl f).1 (fl f).2.1 (fl f).2.2.1 (fl f).2.2.2 g p)
  · refine bk_X3_obey_0 X 554 2 (1010 + 8) a b c m eNT e ewP h _ ?_
    rw [if_neg (show ¬ 1010 + 8 = 0 by decide), if_pos (show 1010 ≤ 1010 + 8 ∧ 1010 + 8 < 1022 by decide), if_pos (show 1002 = 1002 ∧ 0 ≤ (((1010 + 8 : Nat) : Int) - 1010) ∧ (((1010 + 8 : Nat) : Int) - 1010) < 12 by decide)]
    rw [if_neg (by decide), if_neg (by decide), if_neg (by decide), if_neg (by decide), if_neg (by decide), if_neg (by decide), if_neg (by decide), if_neg (by decide), if_pos (by decide), if_pos kk554]
    exact k_bringRope l HR (fun q h' f g p => HD q h' (fl f).1 (fl f).2.1 (fl f).2.2.1 (fl f).2.2.2 g p)
  · refine bk_X3_obey_0 X 554 2 (1010 + 9) a b c m eNT e ewP h _ ?_
    rw [if_neg (show ¬ 1010 + 9 = 0 by decide), if_pos (show 1010 ≤ 1010 + 9 ∧ 1010 + 9 < 1022 by decide), if_pos (show 1002 = 1002 ∧ 0 ≤ (((1010 + 9 : Nat) : Int) - 1010) ∧ (((1010 + 9 : Nat) : Int) - 1010) < 12 by decide)]
    rw [if_neg (by decide), if_neg (by decide), if_neg (by decide), if_neg (by decide), if_neg (by decide), if_neg (by decide), if_neg (by decide), if_neg (by decide), if_neg (by decide), if_pos (by decide), if_pos kk554]
    exact k_tieRope l HR (fun q h' f g p => HD q h' (fl f).1 (fl f).2.1 (fl f).2.2.1 (fl f).2.2.2 g p)
  · refine bk_X3_obey_0 X 554 2 (1010 + 10) a b c m eNT e ewP h _ ?_
    rw [if_neg (show ¬ 1010 + 10 = 0 by decide), if_pos (show 1010 ≤ 1010 + 10 ∧ 1010 + 10 < 1022 by decide), if_pos (show 1002 = 1002 ∧ 0 ≤ (((1010 + 10 : Nat) : Int) - 1010) ∧ (((1010 + 10 : Nat) : Int) - 1010) < 12 by decide)]
    rw [if_neg (by decide), if_neg (by decide), if_neg (by decide), if_neg (by decide), if_neg (by decide), if_neg (by decide), if_neg (by decide), if_neg (by decide), if_neg (by decide), if_neg (by decide), if_pos (by decide), if_pos kk554]
    exact k_pullCoin l HR (fun q h' f g p => HD q h' (fl f).1 (fl f).2.1 (fl f).2.2.1 (fl f).2.2.2 g p)
  · refine bk_X3_obey_0 X 554 2 (1010 + 11) a b c m eNT e ewP h _ ?_
    rw [if_neg (show ¬ 1010 + 11 = 0 by decide), if_pos (show 1010 ≤ 1010 + 11 ∧ 1010 + 11 < 1022 by decide), if_pos (show 1002 = 1002 ∧ 0 ≤ (((1010 + 11 : Nat) : Int) - 1010) ∧ (((1010 + 11 : Nat) : Int) - 1010) < 12 by decide)]
    rw [if_neg (by decide), if_neg (by decide), if_neg (by decide), if_neg (by decide), if_neg (by decide), if_neg (by decide), if_neg (by decide), if_neg (by decide), if_neg (by decide), if_neg (by decide), if_neg (by decide), if_pos kk554]
    exact k_sendDown l hm hm2 lm h8M hch HR HD
theorem k_refuseOrder {i : Int} (KV KX) : eCv X m_X3_refuseOrder [vR 554, vI i] eNT e ewP h KV KX = KV eNT e ewP (up (up (up (up h 556 0 (h 555 0)) 556 1 (h 555 1)) 555 0 10) 555 1 i) := by
  refine eCv_eq X (fun Q H => ?_) KV KX
  refine bk_X3_refuseOrder_0 X 554 i eNT e ewP h Q ?_
  simp only [kk554, kp0, kp1, kk555, kk556, ite_true]
  refine bk_X7_set_0 X 556 _ _ eNT e ewP h _ ?_
  rw [if_pos kk556, if_pos kk556]
  show if kn ewK eNT 554 = 3 then _ else _
  rw [if_pos kk554, kp0, if_pos kk555]
  refine bk_X7_set_0 X 555 10 i eNT e ewP _ _ ?_
  rw [if_pos kk555, if_pos kk555]
  exact H
theorem hk102 : kn ewK eNT 102 = 2 := kn_ly (by decide +kernel) (by decide)
theorem hk103 : kn ewK eNT 103 = 32 := kn_ly (by decide +kernel) (by decide)
theorem hn103 : ewL 103 = 9 := by decide +kernel
theorem hp103 : ewP 102 0 = 103 := by decide +kernel
theorem hsl : ∀ j, j < 9 → ewP 103 j = 104 + 50 * j ∧ ewK (104 + 50 * j) = 11 := by decide +kernel
theorem c_slotAt {s : Nat} (hs : s < 9) (KR KX) : eCr X m_X2_slotAt [vR 102, vI (s : Int)] eNT e ewP h KR KX = KR (104 + 50 * s) eNT e ewP h := by
  refine eCr_eq X (fun Q H => ?_) KR KX
  refine bk_X2_slotAt_0 X 102 s eNT e ewP h Q ?_
  simp only [hk102, hp103, hk103, hn103, ite_true, Int.toNat_natCast]
  rw [if_neg (by omega), if_pos (by decide), if_pos (by omega), if_pos ⟨trivial, by omega, by omega⟩, (hsl s hs).1]
  exact H
theorem w_wcR {b d : Nat} {w : Nat → Int} (hb : ewK b = 11) (hd : ewK d = 11) (hbd : b + 50 ≤ d ∨ d + 50 ≤ b) (hch : lCh h (b + 48)) (l : wR h d w) {KV KX} (H : ∀ h', frm b (b + 50) h h' → wR h' b w → KV eNT e ewP h') : eCv X m_X11_copy [vR b, vR d] eNT e ewP h KV KX := by
  obtain ⟨N, R, T, o, r⟩ := l
  exact w_worldcopy hb hd hbd o.2.1 o.2.2.2.1 hch r (fun h' f g => H h' f ⟨N, R, T, o, g⟩)
theorem wR_ch8 {b : Nat} {w : Nat → Int} (l : wR h b w) : lCh h (b + 48) := by
  obtain ⟨N, R, T, o, r⟩ := l
  obtain ⟨-, -, L, l3, -⟩ := r.2.2.2.2.1
  exact l3.2.2.2
theorem w_look {s : Nat} {w : Nat → Int} (hs : s < 9) (h1 : h 102 1 = (s : Int)) (hch : lCh h (104 + 50 * s + 48)) (l : wR h 2 w) {KV KX} (H : ∀ h', frm (104 + 50 * s) (104 + 50 * s + 50) h h' → wR h' (104 + 50 * s) w → KV eNT e ewP h') : eCv X m_X2_look [vR 102, vR 2] eNT e ewP h KV KX := by
  refine bk_X2_look_0 X 102 2 eNT e ewP h _ ?_
  have k0 := kn_ly (hsl s hs).2 (by decide)
  rw [if_pos hk102, if_pos hk102, h1, c_slotAt hs, if_neg (by omega), if_pos k0]
  exact w_wcR (hsl s hs).2 kb2 (by omega) hch l H
theorem w_takeBack {s : Nat} {w w2 : Nat → Int} (hs : s < 9) (h1 : h 102 1 = (s : Int)) (l : wR h (104 + 50 * s) w) (l2 : wR h 2 w2) {KV KX} (H : ∀ h', frm 2 52 h h' → wR h' 2 w → KV eNT e ewP h') : eCv X m_X2_takeBack [vR 102, vR 2] eNT e ewP h KV KX := by
  refine bk_X2_takeBack_0 X 102 2 eNT e ewP h _ ?_
  rw [if_pos hk102, if_pos hk102, h1, c_slotAt hs, if_neg (by omega), if_pos (b11 kb2).1]
  exact w_wcR kb2 (hsl s hs).2 (by omega) (wR_ch8 l2) l H
theorem c_keep {s c : Nat} (hs : s < 9) (hc : c ≤ 8) (h1 : h 102 1 = (s : Int)) (h2 : h 102 2 = (c : Int)) (KV KX) : eCv X m_X2_keep [vR 102] eNT e ewP h KV KX = KV eNT e ewP (up (up h 102 1 (((s + 1) % 9 : Nat) : Int)) 102 2 ((if c < 8 then c + 1 else 8 : Nat) : Int)) := by
  refine eCv_eq X (fun Q H => ?_) KV KX
  refine bk_X2_keep_0 X 102 eNT e ewP h Q ?_
  simp only [hk102, ite_true, up_nk (show 2 ≠ 1 by decide), h1, h2]
  have e2 : (if wr ((c : Int) + 1) ≤ 8 then wr ((c : Int) + 1) else 8) = ((if c < 8 then c + 1 else 8 : Nat) : Int) := by
    rw [wrn (by omega) (by omega)]
    by_cases q : c < 8
    · rw [if_pos (by omega), if_pos q]; omega
    · rw [if_neg (by omega), if_neg q]; rfl
  rw [e2]
  by_cases q : s < 8
  · rw [if_pos (by omega), wrn (by omega) (by omega)]
    rw [show ((s + 1) % 9 : Nat) = s + 1 by omega] at H
    exact H
  · rw [if_neg (by omega)]
    rw [show ((s + 1) % 9 : Nat) = 0 by omega] at H
    exact H
end
