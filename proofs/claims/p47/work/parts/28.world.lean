/-! the class's worlds -/
theorem k1 {c : Nat} (hc : ewK c = 1) : kn ewK eNT c = 1 ∧ ewP c 0 = c + 1 ∧ ewP c 1 = c + 2 ∧ kn ewK eNT (c + 1) = 20 ∧ ewL (c + 1) = 30 ∧ ewK (c + 2) = 4 ∧ kn ewK eNT (c + 2) = 4 := by
  obtain ⟨h1, h2, h3, h4, h5⟩ := ly_1 c (ly_out c (by rw [hc]; decide)) hc
  exact ⟨kn_ly hc (by decide), h1, h2, kn_ly h3 (by decide), h4, h5, kn_ly h5 (by decide)⟩
theorem b11w {b i : Nat} (hb : ewK b = 11) (hi : i < 8) : ewP (b + 1) i = b + 2 + 5 * i ∧ ewK (b + 2 + 5 * i) = 10 := ly_11w b (ly_out b (by rw [hb]; decide)) hb i hi
theorem b11r {b i : Nat} (hb : ewK b = 11) (hi : i < 3) : ewP (b + 42) i = b + 43 + i ∧ ewK (b + 43 + i) = 8 := ly_11r b (ly_out b (by rw [hb]; decide)) hb i hi
def rpR (h : Nat → Nat → Int) (c : Nat) (w : Nat → Int) (r : Nat) : Prop := h c 0 = w (55 + 3 * r) ∧ h c 1 = w (56 + 3 * r) - 1 ∧ h c 2 = w (57 + 3 * r)
def bkR (h : Nat → Nat → Int) (b : Nat) (w : Nat → Int) : Prop := h (b + 46) 2 = w 10 ∧ (∀ k, k < 30 → h (b + 47) k = w (25 + k)) ∧ ∃ L : List Int, lR h (b + 48) L ∧ L.length ≤ 13 ∧ w 11 = (L.length : Int) ∧ ∀ k, k < L.length → L[k]? = some (w (12 + k))
def scR (h : Nat → Nat → Int) (b : Nat) (w : Nat → Int) : Prop := h b 5 = w 2 ∧ h b 6 = w 9 ∧ h b 7 = w 3 ∧ h b 8 = w 4 ∧ h b 9 = w 5 ∧ h b 10 = w 6 ∧ h b 11 = w 7 ∧ h b 12 = w 8
/-- the world at b is the row w with N wells, R ropes, T things in the wells -/
def wRel (h : Nat → Nat → Int) (b : Nat) (w : Nat → Int) (N R : Nat) (T : Nat → Nat) : Prop := h b 3 = (N : Int) ∧ h b 4 = (R : Int) ∧ (∀ i, i < N → wlR h (b + 2 + 5 * i) (wW w i) (T i)) ∧ (∀ r, r < R → rpR h (b + 43 + r) w r) ∧ bkR h b w ∧ scR h b w
/-- what holds of a row -/
def rOk (w : Nat → Int) (N R : Nat) (T : Nat → Nat) : Prop := w 0 = (N : Int) ∧ N ≤ 8 ∧ w 1 = (R : Int) ∧ R ≤ 3 ∧ (∀ i, i < N → wOk (wW w i) (T i)) ∧ (∀ r, r < R → (1 ≤ w (55 + 3 * r) ∧ w (55 + 3 * r) ≤ 30) ∧ (0 ≤ w (56 + 3 * r) ∧ w (56 + 3 * r) ≤ N)) ∧ (0 ≤ w 10 ∧ w 10 ≤ 6) ∧ (0 ≤ w 11 ∧ w 11 ≤ 13)
theorem rpR_frm {a b c r : Nat} {h h' : Nat → Nat → Int} {w : Nat → Int} (f : frm a b h h') (q : c < a ∨ b ≤ c) (l : rpR h c w r) : rpR h' c w r := by
  unfold rpR
  rw [f c q]
  exact l
theorem bkR_frm {a b c : Nat} {h h' : Nat → Nat → Int} {w : Nat → Int} (f : frm a b h h') (q : c + 50 ≤ a ∨ b ≤ c + 46) (l : bkR h c w) : bkR h' c w := by
  obtain ⟨h1, h2, L, h3, h4⟩ := l
  refine ⟨by rw [f _ (by omega)]; exact h1, fun k hk => by rw [f _ (by omega)]; exact h2 k hk, L, lR_frm f (by omega) h3, h4⟩
theorem wRel_frm {a b c N R : Nat} {T : Nat → Nat} {h h' : Nat → Nat → Int} {w : Nat → Int} (f : frm a b h h') (hN : N ≤ 8) (hR : R ≤ 3) (q : c + 50 ≤ a ∨ b ≤ c) (l : wRel h c w N R T) : wRel h' c w N R T := by
  obtain ⟨h1, h2, h3, h4, h5, h6⟩ := l
  refine ⟨by rw [f _ (by omega)]; exact h1, by rw [f _ (by omega)]; exact h2, fun i hi => wlR_frm f (by omega) (h3 i hi), fun r hr => rpR_frm f (by omega) (h4 r hr), bkR_frm f (by omega) h5, ?_⟩
  unfold scR
  rw [f c (by omega)]
  exact h6
section
variable {X : eX} {e : Nat} {h : Nat → Nat → Int}
theorem c_wellAt1 {b i N : Nat} (hb : ewK b = 11) (hN : h b 3 = (N : Int)) (h8 : N ≤ 8) (hi : i < N) (KR KX) : eCr X m_X11_wellAt [vR b, vI (i : Int)] eNT e ewP h KR KX = KR (b + 2 + 5 * i) eNT e ewP h := by
  refine eCr_eq X (fun Q H => ?_) KR KX
  refine bk_X11_wellAt_0 X b i eNT e ewP h Q ?_
  obtain ⟨k0, p0, p1, p2, a1, n1, a2, n2, a3⟩ := b11 hb
  simp only [k0, p0, a1, n1, hN, ite_true, Int.toNat_natCast]
  rw [if_neg (by omega), if_pos (by omega), if_pos (by decide), if_pos (by omega), if_pos ⟨trivial, by omega, by omega⟩, (b11w hb (by omega)).1]
  exact H
theorem c_wellAt0 {b N : Nat} {x : Int} (hb : ewK b = 11) (hN : h b 3 = (N : Int)) (hx : x < 0 ∨ (N : Int) ≤ x) (KR KX) : eCr X m_X11_wellAt [vR b, vI x] eNT e ewP h KR KX = KR 0 eNT e ewP h := by
  refine eCr_eq X (fun Q H => ?_) KR KX
  refine bk_X11_wellAt_0 X b x eNT e ewP h Q ?_
  obtain ⟨k0, p0, p1, p2, a1, n1, a2, n2, a3⟩ := b11 hb
  by_cases q : x < 0
  · rw [if_pos q]; exact H
  · rw [if_neg q, if_pos k0, hN, if_neg (by omega)]; exact H
theorem c_ropeAt1 {b i N : Nat} (hb : ewK b = 11) (hN : h b 4 = (N : Int)) (h8 : N ≤ 3) (hi : i < N) (KR KX) : eCr X m_X11_ropeAt [vR b, vI (i : Int)] eNT e ewP h KR KX = KR (b + 43 + i) eNT e ewP h := by
  refine eCr_eq X (fun Q H => ?_) KR KX
  refine bk_X11_ropeAt_0 X b i eNT e ewP h Q ?_
  obtain ⟨k0, p0, p1, p2, a1, n1, a2, n2, a3⟩ := b11 hb
  simp only [k0, p1, a2, n2, hN, ite_true, Int.toNat_natCast]
  rw [if_neg (by omega), if_pos (by omega), if_pos (by decide), if_pos (by omega), if_pos ⟨trivial, by omega, by omega⟩, (b11r hb (by omega)).1]
  exact H
theorem c_ropeAt0 {b N : Nat} {x : Int} (hb : ewK b = 11) (hN : h b 4 = (N : Int)) (hx : x < 0 ∨ (N : Int) ≤ x) (KR KX) : eCr X m_X11_ropeAt [vR b, vI x] eNT e ewP h KR KX = KR 0 eNT e ewP h := by
  refine eCr_eq X (fun Q H => ?_) KR KX
  refine bk_X11_ropeAt_0 X b x eNT e ewP h Q ?_
  obtain ⟨k0, p0, p1, p2, a1, n1, a2, n2, a3⟩ := b11 hb
  by_cases q : x < 0
  · rw [if_pos q]; exact H
  · rw [if_neg q, if_pos k0, hN, if_neg (by omega)]; exact H
theorem w_copyWell {b d i n N : Nat} {f : Nat → Int} (hb : ewK b = 11) (hd : ewK d = 10) (hN : h b 3 = (N : Int)) (h8 : N ≤ 8) (hi : i < N) (hbd : b + 2 + 5 * i + 5 ≤ d ∨ d + 5 ≤ b + 2 + 5 * i) (wd : wlR h d f n) {KV KX} (H : ∀ h', frm (b + 2 + 5 * i) (b + 2 + 5 * i + 5) h h' → wlR h' (b + 2 + 5 * i) f n → KV eNT e ewP h') : eCv X m_X11_copyWell [vR b, vI (i : Int), vR d] eNT e ewP h KV KX := by
  refine bk_X11_copyWell_0 X b i d eNT e ewP h _ ?_
  have hc := (b11w hb (show i < 8 by omega)).2
  have d0 : d ≠ 0 := by intro q; rw [q] at hd; exact absurd hd (by decide +kernel)
  rw [if_pos (b11 hb).1, c_wellAt1 hb hN h8 hi, if_neg (by omega), if_neg d0, if_pos (w10 hc).1]
  exact w_wcopy hc hd (by omega) wd H
theorem k8 {c : Nat} (hc : ewK c = 8) : kn ewK eNT c = 8 := kn_ly hc (by decide)
theorem w_copyRope {b d i N : Nat} (hb : ewK b = 11) (hd : ewK d = 8) (hN : h b 4 = (N : Int)) (h8 : N ≤ 3) (hi : i < N) (hbd : d ≠ b + 43 + i) {KV KX} (H : ∀ h', frm (b + 43 + i) (b + 44 + i) h h' → h' (b + 43 + i) 0 = h d 0 → h' (b + 43 + i) 1 = h d 1 → h' (b + 43 + i) 2 = h d 2 → KV eNT e ewP h') : eCv X m_X11_copyRope [vR b, vI (i : Int), vR d] eNT e ewP h KV KX := by
  refine bk_X11_copyRope_0 X b i d eNT e ewP h _ ?_
  have hc := (b11r hb (show i < 3 by omega)).2
  have d0 : d ≠ 0 := by intro q; rw [q] at hd; exact absurd hd (by decide +kernel)
  rw [if_pos (b11 hb).1, c_ropeAt1 hb hN h8 hi, if_neg (by omega), if_neg d0, if_pos (k8 hc)]
  refine bk_X8_copy_0 X (b + 43 + i) d eNT e ewP h _ ?_
  simp only [k8 hc, k8 hd, ite_true, up_ne hbd]
  refine H _ (frm_up (frm_up (frm_up frm_rfl (by omega)) (by omega)) (by omega)) ?_ ?_ ?_
  · rw [up_nk (by omega), up_nk (by omega), up_eq]
  · rw [up_nk (by omega), up_eq]
  · rw [up_eq]
theorem lp_bkcopy {c d : Nat} (hc : ewK c = 1) (hd : ewK d = 1) (hcd : c + 4 ≤ d ∨ d + 4 ≤ c) : ∀ (j i : Nat) (h : Nat → Nat → Int), i + j = 30 → (∀ k, k < i → h (c + 1) k = h (d + 1) k) → ∀ Q, (∀ h', frm (c + 1) (c + 2) h h' → (∀ k, k < 30 → h' (c + 1) k = h (d + 1) k) → Q (.inl none) (eNT, e, ewP, h')) → eP X m_X1_copy 11 [vR c, vR d, vI i] [] (eNT, e, ewP, h) Q := by
  obtain ⟨a1, a2, a3, a4, a5, a6, a7⟩ := k1 hc
  obtain ⟨b1, b2, b3, b4, b5, b6, b7⟩ := k1 hd
  intro j
  induction j with
  | zero =>
    intro i h hi hk Q H
    refine bk_X1_copy_11 X c d i eNT e ewP h Q ?_
    simp only [a1, a2, a4, a5, ite_true]
    rw [if_pos (by decide), if_neg (by omega)]
    exact H h frm_rfl (fun k hk' => hk k (by omega))
  | succ j ih =>
    intro i h hi hk Q H
    refine bk_X1_copy_11 X c d i eNT e ewP h Q ?_
    simp only [a1, a2, a4, a5, b1, b2, b4, b5, ite_true, Int.toNat_natCast]
    rw [if_pos (by decide), if_pos (by omega), if_pos (by decide), if_pos (by omega), if_pos ⟨trivial, by omega, by omega⟩, if_pos ⟨trivial, by omega, by omega⟩, wi1 (by omega)]
    have e1 : up h (c + 1) i (h (d + 1) i) (d + 1) = h (d + 1) := up_ne (by omega)
    refine ih (i + 1) _ (by omega) ?_ Q (fun h' f g => H h' (frm_tr (frm_up frm_rfl (by omega : c + 1 ≤ c + 1 ∧ c + 1 < c + 2)) f (by omega)) (by rw [e1] at g; exact g))
    intro k hk'
    rw [e1, up_at]
    by_cases q : k = i
    · rw [if_pos q, q]
    · rw [if_neg q]; exact hk k (by omega)
theorem w_bkcopy {c d : Nat} {L : List Int} (hc : ewK c = 1) (hd : ewK d = 1) (hcd : c + 4 ≤ d ∨ d + 4 ≤ c) (hch : lCh h (c + 2)) (ld : lR h (d + 2) L) {KV KX} (H : ∀ h', frm c (c + 4) h h' → h' c 2 = h d 2 → (∀ k, k < 30 → h' (c + 1) k = h (d + 1) k) → lR h' (c + 2) L → KV eNT e ewP h') : eCv X m_X1_copy [vR c, vR d] eNT e ewP h KV KX := by
  obtain ⟨a1, a2, a3, a4, a5, a6, a7⟩ := k1 hc
  obtain ⟨b1, b2, b3, b4, b5, b6, b7⟩ := k1 hd
  refine bk_X1_copy_0 X c d eNT e ewP h _ ?_
  simp only [a1, a3, a7, b1, b3, ite_true]
  have f0 : frm c (c + 1) h (up h c 2 (h d 2)) := frm_up frm_rfl (by omega)
  refine w_copy a6 b6 (by omega) ?_ (lR_frm f0 (by omega) ld) (fun h1 f1 q1 => ?_)
  · unfold lCh; rw [f0 _ (by omega)]; exact hch
  refine lp_bkcopy hc hd hcd 30 0 h1 (by omega) (fun k hk => absurd hk (Nat.not_lt_zero _)) _ (fun h' f2 g => ?_)
  refine H h' (frm_tr (frm_tr f0 f1 (by omega : c ≤ c ∧ c + 1 ≤ c + 4 ∧ c ≤ c + 2 ∧ c + 2 + 2 ≤ c + 4)) f2 (by omega)) ?_ ?_ (lR_frm f2 (by omega) q1)
  · rw [f2 c (by omega), f1 c (by omega), up_eq]
  · intro k hk
    rw [g k hk, f1 _ (by omega), up_ne (by omega)]
theorem lp_wc1 {b d N R : Nat} {w : Nat → Int} {T : Nat → Nat} (hb : ewK b = 11) (hd : ewK d = 11) (hbd : b + 50 ≤ d ∨ d + 50 ≤ b) (h8 : N ≤ 8) (h3 : R ≤ 3) : ∀ (j i : Nat) (h : Nat → Nat → Int), i + j = N → h b 3 = (N : Int) → wRel h d w N R T → (∀ t, t < i → wlR h (b + 2 + 5 * t) (wW w t) (T t)) → ∀ Q, (∀ h', frm (b + 2) (b + 42) h h' → (∀ t, t < N → wlR h' (b + 2 + 5 * t) (wW w t) (T t)) → eP X m_X11_copy 24 [vR b, vR d, vI 0] [] (eNT, e, ewP, up h' b 4 (R : Int)) Q) → eP X m_X11_copy 6 [vR b, vR d, vI i] [] (eNT, e, ewP, h) Q := by
  intro j
  induction j with
  | zero =>
    intro i h hi hN wd hw Q H
    refine bk_X11_copy_6 X b d i eNT e ewP h Q ?_
    simp only [(b11 hb).1, (b11 hd).1, ite_true]
    rw [if_neg (by omega), wd.2.1]
    exact H h frm_rfl (fun t ht => hw t (by omega))
  | succ j ih =>
    intro i h hi hN wd hw Q H
    refine bk_X11_copy_6 X b d i eNT e ewP h Q ?_
    rw [if_pos (b11 hb).1, if_pos (by omega), if_pos (b11 hd).1, c_wellAt1 hd wd.1 h8 (by omega), if_pos (b11 hb).1]
    refine w_copyWell hb (b11w hd (show i < 8 by omega)).2 hN h8 (by omega) (by omega) (wd.2.2.1 i (by omega)) (fun h1 f1 q1 => ?_)
    rw [wi1 (by omega)]
    refine ih (i + 1) h1 (by omega) (by rw [f1 b (by omega)]; exact hN) (wRel_frm f1 h8 h3 (by omega) wd) ?_ Q (fun h' f2 g => H h' (frm_tr f1 f2 (by omega)) g)
    intro t ht
    by_cases q : t = i
    · subst q; exact q1
    · exact wlR_frm f1 (by omega) (hw t (by omega))
theorem lp_wc2 {b d N R : Nat} {w : Nat → Int} {T : Nat → Nat} (hb : ewK b = 11) (hd : ewK d = 11) (hbd : b + 50 ≤ d ∨ d + 50 ≤ b) (h8 : N ≤ 8) (h3 : R ≤ 3) : ∀ (j i : Nat) (h : Nat → Nat → Int), i + j = R → h b 3 = (N : Int) → h b 4 = (R : Int) → lCh h (b + 48) → wRel h d w N R T → (∀ t, t < N → wlR h (b + 2 + 5 * t) (wW w t) (T t)) → (∀ t, t < i → rpR h (b + 43 + t) w t) → ∀ Q, (∀ h', frm b (b + 50) h h' → wRel h' b w N R T → Q (.inl none) (eNT, e, ewP, h')) → eP X m_X11_copy 24 [vR b, vR d, vI i] [] (eNT, e, ewP, h) Q := by
  intro j
  induction j with
  | zero =>
    intro i h hi hN hR hch wd hw hr Q H
    refine bk_X11_copy_24 X b d i eNT e ewP h Q ?_
    obtain ⟨d1, d2, d3, d4, ⟨d5, d6, L, d7, d8, d9⟩, d10, d11, d12, d13, d14, d15, d16, d17⟩ := wd
    have kb := b11 hb
    have kd := b11 hd
    have kb6 : kn ewK eNT (b + 46) = 1 := kn_ly kb.2.2.2.2.2.2.2.2 (by decide)
    simp only [kb.1, kd.1, kb.2.2.2.1, kd.2.2.2.1, kb6, ite_true]
    rw [if_neg (by omega)]
    refine w_bkcopy kb.2.2.2.2.2.2.2.2 kd.2.2.2.2.2.2.2.2 (by omega) hch d7 (fun h1 f1 g1 g2 g3 => ?_)
    have ne : d ≠ b := by omega
    simp only [kb.1, kd.1, ite_true, up_ne ne]
    have fd : h1 d = h d := f1 d (by omega)
    rw [fd, d10, d11, d12, d13, d14, d15, d16, d17]
    have g : frm b (b + 1) h1 (up (up (up (up (up (up (up (up h1 b 5 (w 2)) b 6 (w 9)) b 7 (w 3)) b 8 (w 4)) b 9 (w 5)) b 10 (w 6)) b 11 (w 7)) b 12 (w 8)) := frm_up (frm_up (frm_up (frm_up (frm_up (frm_up (frm_up (frm_up frm_rfl (by omega)) (by omega)) (by omega)) (by omega)) (by omega)) (by omega)) (by omega)) (by omega)
    have fb : h1 b = h b := f1 b (by omega)
    refine H _ (frm_tr f1 g (by omega)) ⟨?_, ?_, ?_, ?_, ?_, ?_⟩
    · rw [up_nk (by omega), up_nk (by omega), up_nk (by omega), up_nk (by omega), up_nk (by omega), up_nk (by omega), up_nk (by omega), up_nk (by omega), fb]; exact hN
    · rw [up_nk (by omega), up_nk (by omega), up_nk (by omega), up_nk (by omega), up_nk (by omega), up_nk (by omega), up_nk (by omega), up_nk (by omega), fb]; exact hR
    · exact fun t ht => wlR_frm g (by omega) (wlR_frm f1 (by omega) (hw t ht))
    · exact fun t ht => rpR_frm g (by omega) (rpR_frm f1 (by omega) (hr t (by omega)))
    · refine bkR_frm g (by omega) ⟨?_, ?_, L, g3, d8, d9⟩
      · rw [g1]; exact d5
      · intro k hk
        rw [g2 k hk]; exact d6 k hk
    · unfold scR
      simp [up_at]
  | succ j ih =>
    intro i h hi hN hR hch wd hw hr Q H
    refine bk_X11_copy_24 X b d i eNT e ewP h Q ?_
    rw [if_pos (b11 hb).1, if_pos (by omega), if_pos (b11 hd).1, c_ropeAt1 hd wd.2.1 h3 (by omega), if_pos (b11 hb).1]
    refine w_copyRope hb (b11r hd (show i < 3 by omega)).2 hR h3 (by omega) (by omega) (fun h1 f1 q1 q2 q3 => ?_)
    rw [wi1 (by omega)]
    have wd4 := wd.2.2.2.1 i (by omega)
    refine ih (i + 1) h1 (by omega) (by rw [f1 b (by omega)]; exact hN) (by rw [f1 b (by omega)]; exact hR) (by unfold lCh; rw [f1 _ (by omega)]; exact hch) (wRel_frm f1 h8 h3 (by omega) wd) (fun t ht => wlR_frm f1 (by omega) (hw t ht)) ?_ Q (fun h' f2 g => H h' (frm_tr f1 f2 (by omega)) g)
    intro t ht
    by_cases q : t = i
    · subst q
      exact ⟨by rw [q1]; exact wd4.1, by rw [q2]; exact wd4.2.1, by rw [q3]; exact wd4.2.2⟩
    · exact rpR_frm f1 (by omega) (hr t (by omega))
theorem w_worldcopy {b d N R : Nat} {w : Nat → Int} {T : Nat → Nat} (hb : ewK b = 11) (hd : ewK d = 11) (hbd : b + 50 ≤ d ∨ d + 50 ≤ b) (h8 : N ≤ 8) (h3 : R ≤ 3) (hch : lCh h (b + 48)) (wd : wRel h d w N R T) {KV KX} (H : ∀ h', frm b (b + 50) h h' → wRel h' b w N R T → KV eNT e ewP h') : eCv X m_X11_copy [vR b, vR d] eNT e ewP h KV KX := by
  refine bk_X11_copy_0 X b d eNT e ewP h _ ?_
  simp only [(b11 hb).1, (b11 hd).1, ite_true, wd.1]
  have f0 : frm b (b + 1) h (up h b 3 (N : Int)) := frm_up frm_rfl (by omega)
  refine lp_wc1 (w := w) (T := T) (R := R) hb hd hbd h8 h3 N 0 _ (by omega) up_eq (wRel_frm f0 h8 h3 (by omega) wd) (fun t ht => absurd ht (Nat.not_lt_zero _)) _ (fun h1 f1 q1 => ?_)
  have f01 : frm b (b + 42) h h1 := frm_tr f0 f1 (by omega)
  have f2 : frm b (b + 1) h1 (up h1 b 4 (R : Int)) := frm_up frm_rfl (by omega)
  have f012 : frm b (b + 42) h (up h1 b 4 (R : Int)) := frm_tr f01 f2 (by omega)
  refine lp_wc2 (w := w) (T := T) (R := R) hb hd hbd h8 h3 R 0 _ (by omega) ?_ up_eq ?_ (wRel_frm f012 h8 h3 (by omega) wd) (fun t ht => wlR_frm f2 (by omega) (q1 t ht)) (fun t ht => absurd ht (Nat.not_lt_zero _)) _ (fun h' f3 g => H h' (frm_tr f012 f3 (by omega)) g)
  · rw [up_nk (by omega), f1 b (by omega), up_eq]
  · unfold lCh; rw [f012 _ (by omega)]; exact hch
end
