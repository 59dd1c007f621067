/-! rows, and what changes the class's worlds -/
theorem wOk_congr {f g : Nat → Int} {n : Nat} (q : ∀ j, j < 25 → f j = g j) (l : wOk f n) : wOk g n := by
  obtain ⟨h0, h1, h2, h3, h4⟩ := l
  refine ⟨h0, by rw [← q 2 (by omega)]; exact h1, by rw [← q 0 (by omega)]; exact h2, by rw [← q 1 (by omega)]; exact h3, fun t ht => ?_⟩
  have := h4 t ht
  rw [← q (5 + 4 * t) (by omega), ← q (6 + 4 * t) (by omega), ← q (7 + 4 * t) (by omega), ← q (8 + 4 * t) (by omega), ← q 0 (by omega)]
  exact this
def rSet (w : Nat → Int) (k : Nat) (v : Int) : Nat → Int := fun j => if j = k then v else w j
def rWell (w : Nat → Int) (i : Nat) (g : Nat → Int) : Nat → Int := fun k => if 64 + 25 * i ≤ k ∧ k < 89 + 25 * i then g (k - (64 + 25 * i)) else w k
def rDig (w : Nat → Int) (N : Nat) (d b : Int) : Nat → Int := fun k => if 64 + 25 * N ≤ k ∧ k < 89 + 25 * N then (if k = 64 + 25 * N then d else if k = 65 + 25 * N then b else 0) else if k = 0 then (N : Int) + 1 else w k
def rRope (w : Nat → Int) (R : Nat) (len : Int) : Nat → Int := fun k => if k = 55 + 3 * R then len else if k = 56 + 3 * R then 0 else if k = 57 + 3 * R then 0 else if k = 1 then (R : Int) + 1 else w k
def rFill (w : Nat → Int) (N R x : Nat) : Nat → Int := fun k => if 64 + 25 * x ≤ k ∧ k < 39 + 25 * N then w (k + 25) else if 39 + 25 * N ≤ k ∧ k < 64 + 25 * N then 0 else if k = 0 then (N : Int) - 1 else if 56 ≤ k ∧ k < 55 + 3 * R ∧ (k - 56) % 3 = 0 then (if w k - 1 = x then 0 else if (x : Int) < w k - 1 then w k - 1 else w k) else w k
def rWake (w : Nat → Int) (N : Nat) (T : Nat → Nat) (s : Int) : Nat → Int := fun k => if 64 ≤ k ∧ k < 64 + 25 * N then rFrg (wW w ((k - 64) / 25)) (T ((k - 64) / 25)) 1 ((k - 64) % 25) else if k = 8 then wr (w 8 + s) else w k
def rEnt (w : Nat → Int) (i : Nat) (m : Nat) (E : List Int) (lost given time grade : Int) : Nat → Int := fun k => if 55 ≤ k then w k else if k = 2 then wr (w 2 + 1) else if k = 9 then wr (w 9 + grade) else if k = 3 then wr (w 3 + m) else if k = 4 then wr (w 4 + lost) else if k = 5 then wr (w 5 + given) else if k = 6 then wr (w 6 + E.length) else if k = 10 then (if w 10 < 6 then w 10 + 1 else w 10) else if k = 11 then E.length else if k < 12 then w k else if k < 25 then E.getD (k - 12) 0 else if k = 25 then i else if k = 26 then m else if k = 27 then E.length else if k = 28 then time else if k = 29 then grade else w (k - 5)
theorem rWell_s {w g : Nat → Int} {i j : Nat} (hj : j < 25) : wW (rWell w i g) i j = g j := by
  unfold wW rWell
  rw [if_pos (by omega)]
  congr 1
  omega
theorem rWell_o {w g : Nat → Int} {i j : Nat} (hj : j < 64 + 25 * i ∨ 89 + 25 * i ≤ j) : rWell w i g j = w j := by
  unfold rWell
  rw [if_neg (by omega)]
theorem rWell_w {w g : Nat → Int} {i s j : Nat} (hs : s ≠ i) (hj : j < 25) : wW (rWell w i g) s j = wW w s j := by
  unfold wW
  rw [rWell_o (by omega)]
theorem rpR_congr {h : Nat → Nat → Int} {c : Nat} {w w' : Nat → Int} {r : Nat} (q : ∀ k, 55 ≤ k → k < 64 → w' k = w k) (hr : r < 3) (l : rpR h c w r) : rpR h c w' r := by
  unfold rpR
  rw [q _ (by omega) (by omega), q _ (by omega) (by omega), q _ (by omega) (by omega)]
  exact l
theorem bkR_congr {h : Nat → Nat → Int} {b : Nat} {w w' : Nat → Int} (q : ∀ k, 10 ≤ k → k < 55 → w' k = w k) (l : bkR h b w) : bkR h b w' := by
  obtain ⟨h1, h2, L, h3, h4, h5, h6⟩ := l
  refine ⟨by rw [q 10 (by omega) (by omega)]; exact h1, fun k hk => by rw [q _ (by omega) (by omega)]; exact h2 k hk, L, h3, h4, by rw [q 11 (by omega) (by omega)]; exact h5, fun k hk => by rw [q _ (by omega) (by omega)]; exact h6 k hk⟩
theorem scR_congr {h : Nat → Nat → Int} {b : Nat} {w w' : Nat → Int} (q : ∀ k, 2 ≤ k → k < 10 → w' k = w k) (l : scR h b w) : scR h b w' := by
  unfold scR
  rw [q 2 (by omega) (by omega), q 9 (by omega) (by omega), q 3 (by omega) (by omega), q 4 (by omega) (by omega), q 5 (by omega) (by omega), q 6 (by omega) (by omega), q 7 (by omega) (by omega), q 8 (by omega) (by omega)]
  exact l
/-- one well is another -/
theorem wRel_well {h h' : Nat → Nat → Int} {b N R i n : Nat} {w g : Nat → Int} {T : Nat → Nat} (l : wRel h b w N R T) (hi : i < N) (h8 : N ≤ 8) (h3 : R ≤ 3) (f : frm (b + 2 + 5 * i) (b + 2 + 5 * i + 5) h h') (q : wlR h' (b + 2 + 5 * i) g n) : wRel h' b (rWell w i g) N R (fun j => if j = i then n else T j) := by
  obtain ⟨a1, a2, a3, a4, a5, a6⟩ := l
  have hb : h' b = h b := f b (by omega)
  refine ⟨by rw [hb]; exact a1, by rw [hb]; exact a2, ?_, ?_, ?_, ?_⟩
  · intro s hs
    dsimp only
    by_cases e : s = i
    · subst e
      rw [if_pos rfl]
      exact wlR_congr (fun j hj => (rWell_s hj).symm) q
    · rw [if_neg e]
      exact wlR_congr (fun j hj => (rWell_w e hj).symm) (wlR_frm f (by omega) (a3 s hs))
  · exact fun r hr => rpR_congr (fun k h1 h2 => rWell_o (by omega)) (by omega) (rpR_frm f (by omega) (a4 r hr))
  · exact bkR_congr (fun k h1 h2 => rWell_o (by omega)) (bkR_frm f (by omega) a5)
  · refine scR_congr (fun k h1 h2 => rWell_o (by omega)) ?_
    unfold scR
    rw [hb]
    exact a6
theorem rOk_well {N R i n : Nat} {w g : Nat → Int} {T : Nat → Nat} (l : rOk w N R T) (hi : i < N) (q : wOk g n) : rOk (rWell w i g) N R (fun j => if j = i then n else T j) := by
  obtain ⟨a1, a2, a3, a4, a5, a6, a7, a8⟩ := l
  refine ⟨by rw [rWell_o (by omega)]; exact a1, a2, by rw [rWell_o (by omega)]; exact a3, a4, ?_, ?_, ?_, ?_⟩
  · intro s hs
    dsimp only
    by_cases e : s = i
    · subst e
      rw [if_pos rfl]
      exact wOk_congr (fun j hj => (rWell_s hj).symm) q
    · rw [if_neg e]
      exact wOk_congr (fun j hj => (rWell_w e hj).symm) (a5 s hs)
  · intro r hr
    rw [rWell_o (by omega), rWell_o (by omega)]
    exact a6 r hr
  · rw [rWell_o (by omega)]; exact a7
  · rw [rWell_o (by omega)]; exact a8
section
variable {X : eX} {e : Nat} {h : Nat → Nat → Int}
theorem w_addWell {b N R : Nat} {w : Nat → Int} {T : Nat → Nat} {x y : Int} (hb : ewK b = 11) (wd : wRel h b w N R T) (h8 : N < 8) (h3 : R ≤ 3) {KI KX} (H : ∀ h', frm b (b + 50) h h' → wRel h' b (rDig w N x y) (N + 1) R (fun j => if j = N then 0 else T j) → KI (N : Int) eNT e ewP h') : eCi X m_X11_addWell [vR b, vI x, vI y] eNT e ewP h KI KX := by
  obtain ⟨a1, a2, a3, a4, a5, a6⟩ := wd
  refine bk_X11_addWell_0 X b x y eNT e ewP h _ ?_
  simp only [(b11 hb).1, ite_true, a1]
  rw [wi1 (by omega), c_wellAt1 hb up_eq (by omega) (Nat.lt_succ_self N), if_neg (by omega), if_pos (w10 (b11w hb h8).2).1]
  have f0 : frm b (b + 1) h (up h b 3 ((N + 1 : Nat) : Int)) := frm_up frm_rfl (by omega)
  refine w_open (b11w hb h8).2 (fun h' f1 q => ?_)
  have f : frm b (b + 50) h h' := frm_tr f0 f1 (by omega)
  have hb' : h' b = (up h b 3 ((N + 1 : Nat) : Int)) b := f1 b (by omega)
  have lo : ∀ k, k ≠ 0 → k < 64 → rDig w N x y k = w k := by
    intro k h1 h2
    unfold rDig
    rw [if_neg (by omega), if_neg h1]
  refine H h' f ⟨by rw [hb', up_eq], by rw [hb', up_nk (by omega)]; exact a2, ?_, ?_, ?_, ?_⟩
  · intro s hs
    dsimp only
    by_cases e : s = N
    · subst e
      rw [if_pos rfl]
      refine wlR_congr (fun j hj => ?_) q
      unfold wW rDig
      by_cases e1 : j = 0
      · rw [if_pos e1, if_pos (by omega), if_pos (by omega)]
      · rw [if_neg e1]
        by_cases e2 : j = 1
        · rw [if_pos e2, if_pos (by omega), if_neg (by omega), if_pos (by omega)]
        · rw [if_neg e2, if_pos (by omega), if_neg (by omega), if_neg (by omega)]
    · rw [if_neg e]
      refine wlR_congr (fun j hj => ?_) (wlR_frm f1 (by omega) (wlR_frm f0 (by omega) (a3 s (by omega))))
      unfold wW rDig
      rw [if_neg (by omega), if_neg (by omega)]
  · exact fun r hr => rpR_congr (fun k h1 h2 => lo k (by omega) (by omega)) (by omega) (rpR_frm f1 (by omega) (rpR_frm f0 (by omega) (a4 r hr)))
  · exact bkR_congr (fun k h1 h2 => lo k (by omega) (by omega)) (bkR_frm f1 (by omega) (bkR_frm f0 (by omega) a5))
  · refine scR_congr (fun k h1 h2 => lo k (by omega) (by omega)) ?_
    unfold scR
    rw [hb', up_nk (by omega), up_nk (by omega), up_nk (by omega), up_nk (by omega), up_nk (by omega), up_nk (by omega), up_nk (by omega), up_nk (by omega)]
    exact a6
theorem w_addRope {b N R : Nat} {w : Nat → Int} {T : Nat → Nat} {x : Int} (hb : ewK b = 11) (wd : wRel h b w N R T) (h8 : N ≤ 8) (h3 : R < 3) {KI KX} (H : ∀ h', frm b (b + 50) h h' → wRel h' b (rRope w R x) N (R + 1) T → KI (R : Int) eNT e ewP h') : eCi X m_X11_addRope [vR b, vI x] eNT e ewP h KI KX := by
  obtain ⟨a1, a2, a3, a4, a5, a6⟩ := wd
  refine bk_X11_addRope_0 X b x eNT e ewP h _ ?_
  simp only [(b11 hb).1, ite_true, a2]
  have k0 := k8 (b11r hb h3).2
  rw [wi1 (by omega), c_ropeAt1 hb up_eq (by omega) (Nat.lt_succ_self R), if_neg (by omega), if_pos k0]
  have f0 : frm b (b + 1) h (up h b 4 ((R + 1 : Nat) : Int)) := frm_up frm_rfl (by omega)
  refine bk_X8_open_0 X _ x eNT e ewP _ _ ?_
  simp only [k0, ite_true]
  have f1 : frm (b + 43 + R) (b + 44 + R) (up h b 4 ((R + 1 : Nat) : Int)) (up (up (up (up h b 4 ((R + 1 : Nat) : Int)) (b + 43 + R) 0 x) (b + 43 + R) 1 (-1)) (b + 43 + R) 2 0) := frm_up (frm_up (frm_up frm_rfl (by omega)) (by omega)) (by omega)
  have hb' := f1 b (by omega)
  have lo : ∀ k, k ≠ 1 → (k < 55 + 3 * R ∨ 58 + 3 * R ≤ k) → rRope w R x k = w k := by
    intro k h1 h2
    unfold rRope
    rw [if_neg (by omega), if_neg (by omega), if_neg (by omega), if_neg h1]
  refine H _ (frm_tr f0 f1 (by omega)) ⟨by rw [hb', up_nk (by omega)]; exact a1, by rw [hb', up_eq], ?_, ?_, ?_, ?_⟩
  · intro s hs
    refine wlR_congr (fun j hj => ?_) (wlR_frm f1 (by omega) (wlR_frm f0 (by omega) (a3 s (by omega))))
    unfold wW
    rw [lo _ (by omega) (by omega)]
  · intro r hr
    by_cases e : r = R
    · subst e
      unfold rpR rRope
      rw [if_pos rfl, if_neg (by omega), if_pos rfl, if_neg (by omega), if_neg (by omega), if_pos rfl]
      refine ⟨?_, ?_, ?_⟩
      · rw [up_nk (by omega), up_nk (by omega), up_eq]
      · rw [up_nk (by omega), up_eq]; rfl
      · rw [up_eq]
    · have := rpR_frm f1 (by omega) (rpR_frm f0 (by omega) (a4 r (by omega)))
      unfold rpR at this ⊢
      rw [lo _ (by omega) (by omega), lo _ (by omega) (by omega), lo _ (by omega) (by omega)]
      exact this
  · exact bkR_congr (fun k h1 h2 => lo k (by omega) (by omega)) (bkR_frm f1 (by omega) (bkR_frm f0 (by omega) a5))
  · refine scR_congr (fun k h1 h2 => lo k (by omega) (by omega)) ?_
    unfold scR
    rw [hb', up_nk (by omega), up_nk (by omega), up_nk (by omega), up_nk (by omega), up_nk (by omega), up_nk (by omega), up_nk (by omega), up_nk (by omega)]
    exact a6
theorem lp_rm1 {b N R x : Nat} {w : Nat → Int} {T : Nat → Nat} (hb : ewK b = 11) (h8 : N ≤ 8) (hx : x < N) : ∀ (j i : Nat) (h : Nat → Nat → Int) (j3 : eV), i + j = N → x < i → h b 3 = (N : Int) → (∀ t, t + 1 < i → wlR h (b + 2 + 5 * t) (wW (rFill w N R x) t) (if t < x then T t else T (t + 1))) → (∀ t, i ≤ t → t < N → wlR h (b + 2 + 5 * t) (wW w t) (T t)) → ∀ Q, (∀ h', frm (b + 2) (b + 42) h h' → (∀ t, t + 1 < N → wlR h' (b + 2 + 5 * t) (wW (rFill w N R x) t) (if t < x then T t else T (t + 1))) → eP X m_X11_removeWell 26 [vR b, vI (x : Int), vI 0, j3] [] (eNT, e, ewP, up h' b 3 ((N : Int) - 1)) Q) → eP X m_X11_removeWell 4 [vR b, vI (x : Int), vI (i : Int), j3] [] (eNT, e, ewP, h) Q := by
  intro j
  induction j with
  | zero =>
    intro i h j3 hi hxi hN h1 h2 Q H
    refine bk_X11_removeWell_4 X b x i j3 eNT e ewP h Q ?_
    simp only [(b11 hb).1, ite_true, hN]
    rw [if_neg (by omega), wrn (by omega) (by omega)]
    exact H h frm_rfl (fun t ht => h1 t (by omega))
  | succ j ih =>
    intro i h j3 hi hxi hN h1 h2 Q H
    refine bk_X11_removeWell_4 X b x i j3 eNT e ewP h Q ?_
    rw [if_pos (b11 hb).1, if_pos (by omega), if_pos (b11 hb).1, c_wellAt1 hb hN h8 (by omega), if_pos (b11 hb).1]
    rw [show wr ((i : Int) - 1) = ((i - 1 : Nat) : Int) by rw [wrn (by omega) (by omega)]; omega]
    refine w_copyWell hb (b11w hb (show i < 8 by omega)).2 hN h8 (by omega) (by omega) (h2 i (Nat.le_refl _) (by omega)) (fun h' f1 q1 => ?_)
    rw [wi1 (by omega)]
    refine ih (i + 1) h' j3 (by omega) (by omega) (by rw [f1 b (by omega)]; exact hN) ?_ (fun t h3 h4 => wlR_frm f1 (by omega) (h2 t (by omega) h4)) Q (fun h'' f2 g => H h'' (frm_tr f1 f2 (by omega)) g)
    intro t ht
    by_cases q : t = i - 1
    · subst q
      rw [if_neg (by omega), show i - 1 + 1 = i by omega]
      refine wlR_congr (fun j hj => ?_) q1
      unfold wW rFill
      rw [if_pos (by omega)]
      congr 1
      omega
    · exact wlR_frm f1 (by omega) (h1 t (by omega))
theorem rFill_rp {w : Nat → Int} {N R x r : Nat} (hr : r < R) (h3 : R ≤ 3) (hx : x < N) : rFill w N R x (55 + 3 * r) = w (55 + 3 * r) ∧ rFill w N R x (56 + 3 * r) = (if w (56 + 3 * r) - 1 = x then 0 else if (x : Int) < w (56 + 3 * r) - 1 then w (56 + 3 * r) - 1 else w (56 + 3 * r)) ∧ rFill w N R x (57 + 3 * r) = w (57 + 3 * r) := by
  unfold rFill
  refine ⟨?_, ?_, ?_⟩
  · rw [if_neg (by omega), if_neg (by omega), if_neg (by omega), if_neg (by omega)]
  · rw [if_neg (by omega), if_neg (by omega), if_neg (by omega), if_pos (by omega)]
  · rw [if_neg (by omega), if_neg (by omega), if_neg (by omega), if_neg (by omega)]
theorem lp_rm2 {b N R x : Nat} {w : Nat → Int} (hb : ewK b = 11) (h3 : R ≤ 3) (hx : x < N) (hw : ∀ r, r < R → 0 ≤ w (56 + 3 * r) ∧ w (56 + 3 * r) ≤ 8) : ∀ (j i : Nat) (h : Nat → Nat → Int) (j3 : eV), i + j = R → h b 4 = (R : Int) → (∀ r, r < i → rpR h (b + 43 + r) (rFill w N R x) r) → (∀ r, i ≤ r → r < R → rpR h (b + 43 + r) w r) → ∀ Q, (∀ h', frm (b + 43) (b + 46) h h' → (∀ r, r < R → rpR h' (b + 43 + r) (rFill w N R x) r) → Q (.inl none) (eNT, e, ewP, h')) → eP X m_X11_removeWell 26 [vR b, vI (x : Int), vI (i : Int), j3] [] (eNT, e, ewP, h) Q := by
  intro j
  induction j with
  | zero =>
    intro i h j3 hi hR h1 h2 Q H
    refine bk_X11_removeWell_26 X b x i j3 eNT e ewP h Q ?_
    rw [if_pos (b11 hb).1, if_neg (by omega)]
    exact H h frm_rfl (fun r hr => h1 r (by omega))
  | succ j ih =>
    intro i h j3 hi hR h1 h2 Q H
    refine bk_X11_removeWell_26 X b x i j3 eNT e ewP h Q ?_
    have k0 := k8 (b11r hb (show i < 3 by omega)).2
    have nz : ¬ (b + 43 + i = 0) := by omega
    obtain ⟨c1, c2, c3⟩ := h2 i (Nat.le_refl _) (by omega)
    obtain ⟨g1, g2, g3⟩ := rFill_rp (w := w) (N := N) (show i < R by omega) h3 hx
    have hwi := hw i (by omega)
    rw [if_pos (b11 hb).1, if_pos (by omega), if_pos (b11 hb).1, c_ropeAt1 hb hR h3 (by omega)]
    simp only [if_neg nz, k0, ite_true, c2]
    rw [wi1 (by omega), wrn (x := w (56 + 3 * i) - 1 - 1) (by omega) (by omega)]
    have key : ∀ v : Int, v = rFill w N R x (56 + 3 * i) - 1 → eP X m_X11_removeWell 26 [vR b, vI (x : Int), vI ((i + 1 : Nat) : Int), vR (b + 43 + i)] [] (eNT, e, ewP, up h (b + 43 + i) 1 v) Q := by
      intro v hv
      refine ih (i + 1) _ _ (by omega) (by rw [up_ne (by omega)]; exact hR) ?_ ?_ Q (fun h' f => H h' (frm_tr (frm_up frm_rfl (by omega : b + 43 ≤ b + 43 + i ∧ b + 43 + i < b + 46)) f (by omega)))
      · intro r hr
        by_cases q : r = i
        · subst q
          exact ⟨by rw [up_nk (by omega), c1, g1], by rw [up_eq, hv], by rw [up_nk (by omega), c3, g3]⟩
        · have := h1 r (by omega)
          unfold rpR at this ⊢
          rw [up_ne (by omega)]
          exact this
      · intro r h4 h5
        have := h2 r (by omega) h5
        unfold rpR at this ⊢
        rw [up_ne (by omega)]
        exact this
    by_cases q1 : w (56 + 3 * i) - 1 = x
    · rw [if_pos q1] at g2 ⊢
      exact key (-1) (by rw [g2]; rfl)
    · rw [if_neg q1] at g2 ⊢
      by_cases q2 : (x : Int) < w (56 + 3 * i) - 1
      · rw [if_neg (by omega)]
        rw [if_pos q2] at g2
        exact key _ (by rw [g2])
      · rw [if_pos (by omega)]
        rw [if_neg q2] at g2
        refine ih (i + 1) _ _ (by omega) hR ?_ (fun r h4 h5 => h2 r (by omega) h5) Q H
        intro r hr
        by_cases q : r = i
        · subst q
          exact ⟨by rw [c1, g1], by rw [c2, g2], by rw [c3, g3]⟩
        · exact h1 r (by omega)
theorem w_removeWell {b N R x : Nat} {w : Nat → Int} {T : Nat → Nat} (hb : ewK b = 11) (wd : wRel h b w N R T) (ok : rOk w N R T) (hx : x < N) {KV KX} (H : ∀ h', frm b (b + 50) h h' → wRel h' b (rFill w N R x) (N - 1) R (fun t => if t < x then T t else T (t + 1)) → KV eNT e ewP h') : eCv X m_X11_removeWell [vR b, vI (x : Int)] eNT e ewP h KV KX := by
  obtain ⟨a1, a2, a3, a4, a5, a6⟩ := wd
  obtain ⟨o1, h8, o3, h3, o5, o6, o7, o8⟩ := ok
  refine bk_X11_removeWell_0 X b x eNT e ewP h _ ?_
  rw [wi1 (by omega)]
  refine lp_rm1 (w := w) (T := T) (R := R) hb h8 hx (N - (x + 1)) (x + 1) h _ (by omega) (by omega) a1 ?_ (fun t _ ht => a3 t ht) _ (fun h1 f1 q1 => ?_)
  · intro t ht
    rw [if_pos (by omega)]
    refine wlR_congr (fun j hj => ?_) (a3 t (by omega))
    unfold wW rFill
    rw [if_neg (by omega), if_neg (by omega), if_neg (by omega), if_neg (by omega)]
  have f2 : frm b (b + 1) h1 (up h1 b 3 ((N : Int) - 1)) := frm_up frm_rfl (by omega)
  refine lp_rm2 (w := w) hb h3 hx (fun r hr => by have := (o6 r hr).2; omega) R 0 _ _ (by omega) ?_ (fun r hr => absurd hr (Nat.not_lt_zero _)) (fun r _ hr => rpR_frm f2 (by omega) (rpR_frm f1 (by omega) (a4 r hr))) _ (fun h' f3 q3 => ?_)
  · rw [up_nk (by omega), f1 b (by omega)]; exact a2
  have hb' : h' b = (up h1 b 3 ((N : Int) - 1)) b := f3 b (by omega)
  have lo : ∀ k, k ≠ 0 → k < 55 → rFill w N R x k = w k := by
    intro k h1 h2
    unfold rFill
    rw [if_neg (by omega), if_neg (by omega), if_neg (by omega), if_neg (by omega)]
  refine H h' (frm_tr (frm_tr f1 f2 (by omega : b ≤ b + 2 ∧ b + 42 ≤ b + 50 ∧ b ≤ b ∧ b + 1 ≤ b + 50)) f3 (by omega)) ⟨by rw [hb', up_eq]; omega, by rw [hb', up_nk (by omega), f1 b (by omega)]; exact a2, ?_, q3, ?_, ?_⟩
  · exact fun t ht => wlR_frm f3 (by omega) (wlR_frm f2 (by omega) (q1 t (by omega)))
  · exact bkR_congr (fun k h1 h2 => lo k (by omega) (by omega)) (bkR_frm f3 (by omega) (bkR_frm f2 (by omega) (bkR_frm f1 (by omega) a5)))
  · refine scR_congr (fun k h1 h2 => lo k (by omega) (by omega)) ?_
    unfold scR
    rw [hb', up_nk (by omega), up_nk (by omega), up_nk (by omega), up_nk (by omega), up_nk (by omega), up_nk (by omega), up_nk (by omega), up_nk (by omega), f1 b (by omega)]
    exact a6
theorem lp_ropesAtC {b N R : Nat} {w : Nat → Int} {T : Nat → Nat} {x : Int} (hb : ewK b = 11) (wd : wRel h b w N R T) (h3 : R ≤ 3) : ∀ (j r : Nat) (acc : Int) (j4 : eV), r + j = R → 0 ≤ acc → acc ≤ r → ∀ Q, Q (.inl (some (vI (acc + sumF (fun r => if w (56 + 3 * r) - 1 = x then 1 else 0) r j)))) (eNT, e, ewP, h) → eP X m_X11_ropesAt 4 [vR b, vI x, vI acc, vI (r : Int), j4] [] (eNT, e, ewP, h) Q := by
  intro j
  induction j with
  | zero =>
    intro r acc j4 hi h0 h1 Q H
    refine bk_X11_ropesAt_4 X b x acc r j4 eNT e ewP h Q ?_
    rw [if_pos (b11 hb).1, if_neg (by rw [wd.2.1]; omega)]
    simpa [sumF] using H
  | succ j ih =>
    intro r acc j4 hi h0 h1 Q H
    refine bk_X11_ropesAt_4 X b x acc r j4 eNT e ewP h Q ?_
    have k0 := k8 (b11r hb (show r < 3 by omega)).2
    rw [if_pos (b11 hb).1, if_pos (by rw [wd.2.1]; omega), if_pos (b11 hb).1, c_ropeAt1 hb wd.2.1 h3 (by omega), if_neg (by omega), if_pos k0, (wd.2.2.2.1 r (by omega)).2.1, wi1 (by omega), wrn (by omega) (by omega)]
    simp only [sumF] at H
    by_cases q : w (56 + 3 * r) - 1 = x
    · rw [if_pos q] at H ⊢
      refine ih (r + 1) _ _ (by omega) (by omega) (by omega) Q ?_
      rw [Int.add_assoc]
      exact H
    · rw [if_neg q, Int.zero_add] at H
      rw [if_neg q]
      exact ih (r + 1) _ _ (by omega) (by omega) (by omega) Q H
theorem c_ropesAt {b N R : Nat} {w : Nat → Int} {T : Nat → Nat} {x : Int} (hb : ewK b = 11) (wd : wRel h b w N R T) (h3 : R ≤ 3) (KI KX) : eCi X m_X11_ropesAt [vR b, vI x] eNT e ewP h KI KX = KI (sumF (fun r => if w (56 + 3 * r) - 1 = x then 1 else 0) 0 R) eNT e ewP h := by
  refine eCi_eq X (fun Q H => ?_) KI KX
  refine bk_X11_ropesAt_0 X b x eNT e ewP h Q ?_
  refine lp_ropesAtC hb wd h3 R 0 0 _ (by omega) (by omega) (by omega) Q ?_
  rw [Int.zero_add]
  exact H
theorem lp_things {b N R : Nat} {w : Nat → Int} {T : Nat → Nat} (hb : ewK b = 11) (wd : wRel h b w N R T) (h8 : N ≤ 8) : ∀ (j i : Nat) (acc : Int) (j4 : eV), i + j = N → 0 ≤ acc → acc ≤ 5 * i → ∀ Q, Q (.inl (some (vI (acc + sumF (fun i => (T i : Int)) i j)))) (eNT, e, ewP, h) → eP X m_X11_countOfThings 4 [vR b, vI acc, vI (i : Int), j4] [] (eNT, e, ewP, h) Q := by
  intro j
  induction j with
  | zero =>
    intro r acc j4 hi h0 h1 Q H
    refine bk_X11_countOfThings_4 X b acc r j4 eNT e ewP h Q ?_
    rw [if_pos (b11 hb).1, if_neg (by rw [wd.1]; omega)]
    simpa [sumF] using H
  | succ j ih =>
    intro r acc j4 hi h0 h1 Q H
    refine bk_X11_countOfThings_4 X b acc r j4 eNT e ewP h Q ?_
    have k0 := (w10 (b11w hb (show r < 8 by omega)).2).1
    have g := wd.2.2.1 r (by omega)
    have h5 := g.1
    rw [if_pos (b11 hb).1, if_pos (by rw [wd.1]; omega), if_pos (b11 hb).1, c_wellAt1 hb wd.1 h8 (by omega), if_neg (by omega), if_pos k0, g.2.2.1, wi1 (by omega), wrn (by omega) (by omega)]
    simp only [sumF] at H
    refine ih (r + 1) _ _ (by omega) (by omega) (by omega) Q ?_
    rw [Int.add_assoc]
    exact H
theorem c_countOfThings {b N R : Nat} {w : Nat → Int} {T : Nat → Nat} (hb : ewK b = 11) (wd : wRel h b w N R T) (h8 : N ≤ 8) (KI KX) : eCi X m_X11_countOfThings [vR b] eNT e ewP h KI KX = KI (sumF (fun i => (T i : Int)) 0 N) eNT e ewP h := by
  refine eCi_eq X (fun Q H => ?_) KI KX
  refine bk_X11_countOfThings_0 X b eNT e ewP h Q ?_
  refine lp_things hb wd h8 N 0 0 _ (by omega) (by omega) (by omega) Q ?_
  rw [Int.zero_add]
  exact H
theorem c_frogs {c n : Nat} {f : Nat → Int} {a : Int} (hc : ewK c = 10) (wc : wlR h c f n) (KI KX) : eCi X m_X10_countOfFrogs [vR c, vI a] eNT e ewP h KI KX = KI (fFrg f a n) eNT e ewP h := by
  rw [c_countOfFrogs hc wc.2.2.1 wc.1]
  have : sumF (sFrg (h (c + 1)) (h (c + 4)) a) 0 n = fFrg f a n := by
    unfold fFrg
    refine sumF_congr n 0 (fun t _ ht => ?_)
    obtain ⟨t1, t2, t3, t4, t5⟩ := wc.2.2.2.2.2.2.2 t (by omega)
    unfold sFrg
    rw [t1, t4]
  rw [this]
theorem lp_sleepers {b N R : Nat} {w : Nat → Int} {T : Nat → Nat} (hb : ewK b = 11) (wd : wRel h b w N R T) (h8 : N ≤ 8) : ∀ (j i : Nat) (acc : Int) (j4 : eV), i + j = N → 0 ≤ acc → acc ≤ 5 * i → ∀ Q, Q (.inl (some (vI (acc + sumF (fun i => fFrg (wW w i) 0 (T i)) i j)))) (eNT, e, ewP, h) → eP X m_X11_countOfSleepers 4 [vR b, vI acc, vI (i : Int), j4] [] (eNT, e, ewP, h) Q := by
  intro j
  induction j with
  | zero =>
    intro r acc j4 hi h0 h1 Q H
    refine bk_X11_countOfSleepers_4 X b acc r j4 eNT e ewP h Q ?_
    rw [if_pos (b11 hb).1, if_neg (by rw [wd.1]; omega)]
    simpa [sumF] using H
  | succ j ih =>
    intro r acc j4 hi h0 h1 Q H
    refine bk_X11_countOfSleepers_4 X b acc r j4 eNT e ewP h Q ?_
    have k0 := (b11w hb (show r < 8 by omega)).2
    have g := wd.2.2.1 r (by omega)
    have h5 := g.1
    have bb : 0 ≤ fFrg (wW w r) 0 (T r) ∧ fFrg (wW w r) 0 (T r) ≤ T r * 1 := sumF_le (fun t => (sFrg01 t).1) (fun t => (sFrg01 t).2) (T r) 0
    rw [if_pos (b11 hb).1, if_pos (by rw [wd.1]; omega), if_pos (b11 hb).1, c_wellAt1 hb wd.1 h8 (by omega), if_neg (by omega), if_pos (w10 k0).1, c_frogs k0 g, wi1 (by omega), wrn (by omega) (by omega)]
    simp only [sumF] at H
    refine ih (r + 1) _ _ (by omega) (by omega) (by omega) Q ?_
    rw [Int.add_assoc]
    exact H
theorem c_countOfSleepers {b N R : Nat} {w : Nat → Int} {T : Nat → Nat} (hb : ewK b = 11) (wd : wRel h b w N R T) (h8 : N ≤ 8) (KI KX) : eCi X m_X11_countOfSleepers [vR b] eNT e ewP h KI KX = KI (sumF (fun i => fFrg (wW w i) 0 (T i)) 0 N) eNT e ewP h := by
  refine eCi_eq X (fun Q H => ?_) KI KX
  refine bk_X11_countOfSleepers_0 X b eNT e ewP h Q ?_
  refine lp_sleepers hb wd h8 N 0 0 _ (by omega) (by omega) (by omega) Q ?_
  rw [Int.zero_add]
  exact H
theorem lp_wake {b N R : Nat} {w : Nat → Int} {T : Nat → Nat} {s : Int} (hb : ewK b = 11) (h8 : N ≤ 8) : ∀ (j i : Nat) (h : Nat → Nat → Int) (j3 : eV), i + j = N → h b 3 = (N : Int) → (∀ t, t < i → wlR h (b + 2 + 5 * t) (wW (rWake w N T s) t) (T t)) → (∀ t, i ≤ t → t < N → wlR h (b + 2 + 5 * t) (wW w t) (T t)) → ∀ Q, (∀ h', frm (b + 2) (b + 42) h h' → (∀ t, t < N → wlR h' (b + 2 + 5 * t) (wW (rWake w N T s) t) (T t)) → Q (.inl (some (vI s))) (eNT, e, ewP, up h' b 12 (wr ((h' b 12) + s)))) → eP X m_X11_wakeFrogs 5 [vR b, vI s, vI (i : Int), j3] [] (eNT, e, ewP, h) Q := by
  intro j
  induction j with
  | zero =>
    intro i h j3 hi hN h1 h2 Q H
    refine bk_X11_wakeFrogs_5 X b s i j3 eNT e ewP h Q ?_
    simp only [(b11 hb).1, ite_true]
    rw [if_neg (by omega)]
    exact H h frm_rfl (fun t ht => h1 t (by omega))
  | succ j ih =>
    intro i h j3 hi hN h1 h2 Q H
    refine bk_X11_wakeFrogs_5 X b s i j3 eNT e ewP h Q ?_
    have k0 := (b11w hb (show i < 8 by omega)).2
    rw [if_pos (b11 hb).1, if_pos (by omega), if_pos (b11 hb).1, c_wellAt1 hb hN h8 (by omega), if_neg (by omega), if_pos (w10 k0).1]
    refine w_setFrogs k0 (h2 i (Nat.le_refl _) (by omega)) (fun h' f1 q1 => ?_)
    rw [wi1 (by omega)]
    refine ih (i + 1) h' _ (by omega) (by rw [f1 b (by omega)]; exact hN) ?_ (fun t h3 h4 => wlR_frm f1 (by omega) (h2 t (by omega) h4)) Q (fun h'' f2 g => H h'' (frm_tr f1 f2 (by omega)) g)
    intro t ht
    by_cases q : t = i
    · subst q
      refine wlR_congr (fun j hj => ?_) q1
      unfold wW rWake
      rw [if_pos (by omega), show (64 + 25 * t + j - 64) / 25 = t by omega, show (64 + 25 * t + j - 64) % 25 = j by omega]
      rfl
    · exact wlR_frm f1 (by omega) (h1 t (by omega))
theorem w_wakeFrogs {b N R : Nat} {w : Nat → Int} {T : Nat → Nat} (hb : ewK b = 11) (wd : wRel h b w N R T) (h8 : N ≤ 8) (h3 : R ≤ 3) {KI KX} (H : ∀ h', frm b (b + 50) h h' → wRel h' b (rWake w N T (sumF (fun i => fFrg (wW w i) 0 (T i)) 0 N)) N R T → KI (sumF (fun i => fFrg (wW w i) 0 (T i)) 0 N) eNT e ewP h') : eCi X m_X11_wakeFrogs [vR b] eNT e ewP h KI KX := by
  have wd' := wd
  obtain ⟨a1, a2, a3, a4, a5, a6⟩ := wd
  refine bk_X11_wakeFrogs_0 X b eNT e ewP h _ ?_
  rw [if_pos (b11 hb).1, c_countOfSleepers hb wd' h8]
  refine lp_wake (w := w) (T := T) (R := R) hb h8 N 0 h _ (by omega) a1 (fun t ht => absurd ht (Nat.not_lt_zero _)) (fun t _ ht => a3 t ht) _ (fun h' f1 q1 => ?_)
  have fb : h' b = h b := f1 b (by omega)
  have f2 : frm b (b + 1) h' (up h' b 12 (wr (h' b 12 + sumF (fun i => fFrg (wW w i) 0 (T i)) 0 N))) := frm_up frm_rfl (by omega)
  have lo : ∀ k, k ≠ 8 → k < 64 → rWake w N T (sumF (fun i => fFrg (wW w i) 0 (T i)) 0 N) k = w k := by
    intro k h1 h2
    unfold rWake
    rw [if_neg (by omega), if_neg h1]
  obtain ⟨s1, s2, s3, s4, s5, s6, s7, s8⟩ := a6
  refine H _ (frm_tr f1 f2 (by omega)) ⟨by rw [up_nk (by omega), fb]; exact a1, by rw [up_nk (by omega), fb]; exact a2, fun t ht => wlR_frm f2 (by omega) (q1 t ht), ?_, ?_, ?_⟩
  · exact fun r hr => rpR_congr (fun k h1 h2 => lo k (by omega) (by omega)) (by omega) (rpR_frm f2 (by omega) (rpR_frm f1 (by omega) (a4 r hr)))
  · exact bkR_congr (fun k h1 h2 => lo k (by omega) (by omega)) (bkR_frm f2 (by omega) (bkR_frm f1 (by omega) a5))
  · unfold scR
    rw [lo 2 (by omega) (by omega), lo 9 (by omega) (by omega), lo 3 (by omega) (by omega), lo 4 (by omega) (by omega), lo 5 (by omega) (by omega), lo 6 (by omega) (by omega), lo 7 (by omega) (by omega)]
    rw [up_nk (by omega), up_nk (by omega), up_nk (by omega), up_nk (by omega), up_nk (by omega), up_nk (by omega), up_nk (by omega), up_eq, fb]
    refine ⟨s1, s2, s3, s4, s5, s6, s7, ?_⟩
    unfold rWake
    rw [if_neg (by omega), if_pos rfl, s8]
theorem c_setFirst {c t : Nat} {v : Int} (hc : ewK c = 1) (ht : t < 30) (KV KX) : eCv X m_X1_setFirst [vR c, vI (t : Int), vI v] eNT e ewP h KV KX = KV eNT e ewP (up h (c + 1) t v) := by
  refine eCv_eq X (fun Q H => ?_) KV KX
  refine bk_X1_setFirst_0 X c t v eNT e ewP h Q ?_
  obtain ⟨a1, a2, a3, a4, a5, a6, a7⟩ := k1 hc
  simp only [a1, a2, a4, a5, ite_true, Int.toNat_natCast]
  rw [if_neg (by omega), if_pos (by decide), if_pos (by omega), if_pos ⟨trivial, by omega, by omega⟩]
  exact H
theorem lp_bkenter {c m y : Nat} {i g : Int} {M E : List Int} {lost given time : Int} (hc : ewK c = 1) (hm : ewK m = 4) (hy : ewK y = 9) (hcm : m + 2 ≤ c ∨ c + 4 ≤ m) (hcy : y + 3 ≤ c ∨ c + 4 ≤ y) (o : Nat → Int) : ∀ (j : Nat) (h : Nat → Nat → Int), j ≤ 25 → lR h m M → yR h y E lost given time → lCh h (c + 2) → (∀ k, k < 30 → h (c + 1) k = if k < 5 + j then o k else o (k - 5)) → (0 ≤ h c 2 ∧ h c 2 ≤ 6) → ∀ Q, (∀ h', frm c (c + 4) h h' → (∀ k, k < 30 → h' (c + 1) k = if k = 0 then i else if k = 1 then (M.length : Int) else if k = 2 then (E.length : Int) else if k = 3 then time else if k = 4 then g else o (k - 5)) → h' c 2 = (if h c 2 < 6 then h c 2 + 1 else h c 2) → lR h' (c + 2) E → Q (.inl none) (eNT, e, ewP, h')) → eP X m_X1_enter 6 [vR c, vI i, vR m, vR y, vI g, vI (4 + j : Int)] [] (eNT, e, ewP, h) Q := by
  obtain ⟨a1, a2, a3, a4, a5, a6, a7⟩ := k1 hc
  obtain ⟨b1, b2, b3, b4⟩ := y9 hy
  intro j
  induction j with
  | zero =>
    intro h hj lm ly hch ho h6 Q H
    refine bk_X1_enter_6 X c i m y g _ eNT e ewP h Q ?_
    obtain ⟨y1, y2, y3, y4⟩ := id ly
    rw [if_pos (by omega), if_pos a1]
    have s0 := c_setFirst (X := X) (e := e) (h := h) (v := i) hc (show 0 < 30 by decide)
    simp only [Int.natCast_zero] at s0
    rw [s0]
    have f0 : frm c (c + 4) h (up h (c + 1) 0 i) := frm_up frm_rfl (by omega)
    rw [if_pos (l4 hm).1, c_size1 hm (lR_frm f0 (by omega) lm), if_pos a1]
    have s1 := c_setFirst (X := X) (e := e) (h := up h (c + 1) 0 i) (v := (M.length : Int)) hc (show 1 < 30 by decide)
    simp only [Int.natCast_one] at s1
    rw [s1]
    have f1 : frm c (c + 4) h (up (up h (c + 1) 0 i) (c + 1) 1 (M.length : Int)) := frm_up f0 (by omega)
    rw [if_pos b1, b2, if_pos b4, c_size1 b3 (lR_frm f1 (by omega) y1), if_pos a1]
    have s2 := c_setFirst (X := X) (e := e) (h := up (up h (c + 1) 0 i) (c + 1) 1 (M.length : Int)) (v := (E.length : Int)) hc (show 2 < 30 by decide)
    rw [show ((2 : Nat) : Int) = 2 from rfl] at s2
    rw [s2]
    have f2 : frm c (c + 4) h (up (up (up h (c + 1) 0 i) (c + 1) 1 (M.length : Int)) (c + 1) 2 (E.length : Int)) := frm_up f1 (by omega)
    rw [if_pos b1, if_pos a1, f2 y (by omega), y4]
    have s3 := c_setFirst (X := X) (e := e) (h := up (up (up h (c + 1) 0 i) (c + 1) 1 (M.length : Int)) (c + 1) 2 (E.length : Int)) (v := time) hc (show 3 < 30 by decide)
    rw [show ((3 : Nat) : Int) = 3 from rfl] at s3
    rw [s3, if_pos a1]
    have f3 := frm_up (k := 3) (v := time) f2 (show c ≤ c + 1 ∧ c + 1 < c + 4 by omega)
    have s4 := c_setFirst (X := X) (e := e) (h := up (up (up (up h (c + 1) 0 i) (c + 1) 1 (M.length : Int)) (c + 1) 2 (E.length : Int)) (c + 1) 3 time) (v := g) hc (show 4 < 30 by decide)
    rw [show ((4 : Nat) : Int) = 4 from rfl] at s4
    rw [s4, if_pos a1, if_pos b1, a3, if_pos a7, b2]
    have f4 := frm_up (k := 4) (v := g) f3 (show c ≤ c + 1 ∧ c + 1 < c + 4 by omega)
    refine w_copy a6 b3 (by omega) ?_ (lR_frm f4 (by omega) y1) (fun h1 f5 q5 => ?_)
    · unfold lCh
      rw [up_ne (by omega), up_ne (by omega), up_ne (by omega), up_ne (by omega), up_ne (by omega)]
      exact hch
    have hc2 : h1 c 2 = h c 2 := by
      rw [f5 c (by omega), up_ne (by omega), up_ne (by omega), up_ne (by omega), up_ne (by omega), up_ne (by omega)]
    have hnum : ∀ k, k < 30 → h1 (c + 1) k = if k = 0 then i else if k = 1 then (M.length : Int) else if k = 2 then (E.length : Int) else if k = 3 then time else if k = 4 then g else o (k - 5) := by
      intro k hk
      rw [f5 (c + 1) (by omega), up_at, up_at, up_at, up_at, up_at, ho k hk]
      by_cases e0 : k = 0
      · subst e0; simp
      · by_cases e1 : k = 1
        · subst e1; simp
        · by_cases e2 : k = 2
          · subst e2; simp
          · by_cases e3 : k = 3
            · subst e3; simp
            · by_cases e4 : k = 4
              · subst e4; simp
              · rw [if_neg e0, if_neg e1, if_neg e2, if_neg e3, if_neg e4, if_neg e4, if_neg e3, if_neg e2, if_neg e1, if_neg e0, if_neg (by omega)]
    simp only [a1, ite_true, hc2]
    have f14 : frm c (c + 4) h h1 := frm_tr f4 f5 (by omega)
    by_cases q : h c 2 < 6
    · rw [if_pos q, wrn (by omega) (by omega)]
      refine H _ (frm_up f14 (by omega)) ?_ (by rw [up_eq, if_pos q]) (lR_frm (frm_up frm_rfl (by omega : c ≤ c ∧ c < c + 1)) (by omega) q5)
      intro k hk
      rw [up_ne (by omega)]
      exact hnum k hk
    · rw [if_neg q]
      exact H _ f14 hnum (by rw [hc2, if_neg q]) q5
  | succ j ih =>
    intro h hj lm ly hch ho h6 Q H
    refine bk_X1_enter_6 X c i m y g _ eNT e ewP h Q ?_
    have e1 : wr ((4 + ((j + 1 : Nat) : Int)) - 5) = ((j : Nat) : Int) := by rw [wrn (by omega) (by omega)]; omega
    have e2 : wr ((4 + ((j + 1 : Nat) : Int)) + -1) = 4 + (j : Int) := by rw [wrn (by omega) (by omega)]; omega
    have e3 : (4 + ((j + 1 : Nat) : Int)).toNat = 5 + j := by omega
    simp only [a1, a2, a4, a5, ite_true, e1, e2, e3, Int.toNat_natCast]
    rw [if_neg (by omega), if_pos ⟨trivial, by omega, by omega⟩, if_pos ⟨trivial, by omega, by omega⟩]
    have f0 : frm c (c + 4) h (up h (c + 1) (5 + j) (h (c + 1) j)) := frm_up frm_rfl (by omega)
    have hc2 : (up h (c + 1) (5 + j) (h (c + 1) j)) c 2 = h c 2 := by rw [up_ne (by omega)]
    refine ih _ (by omega) (lR_frm f0 (by omega) lm) (yR_frm f0 (by omega) ly) (by unfold lCh; rw [up_ne (by omega)]; exact hch) ?_ (by rw [hc2]; exact h6) Q (fun h' f g1 g2 => H h' (frm_tr f0 f (by omega)) g1 (by rw [g2, hc2]))
    intro k hk
    rw [up_at]
    by_cases q : k = 5 + j
    · rw [if_pos q, if_neg (by omega), ho j (by omega), if_pos (by omega)]
      congr 1
      omega
    · rw [if_neg q, ho k hk]
      by_cases q2 : k < 5 + j
      · rw [if_pos (by omega), if_pos q2]
      · rw [if_neg (by omega), if_neg q2]
theorem w_bkenter {c m y : Nat} {i g : Int} {M E : List Int} {lost given time : Int} (hc : ewK c = 1) (hm : ewK m = 4) (hy : ewK y = 9) (hcm : m + 2 ≤ c ∨ c + 4 ≤ m) (hcy : y + 3 ≤ c ∨ c + 4 ≤ y) (lm : lR h m M) (ly : yR h y E lost given time) (hch : lCh h (c + 2)) (h6 : 0 ≤ h c 2 ∧ h c 2 ≤ 6) {KV KX} (H : ∀ h', frm c (c + 4) h h' → (∀ k, k < 30 → h' (c + 1) k = if k = 0 then i else if k = 1 then (M.length : Int) else if k = 2 then (E.length : Int) else if k = 3 then time else if k = 4 then g else h (c + 1) (k - 5)) → h' c 2 = (if h c 2 < 6 then h c 2 + 1 else h c 2) → lR h' (c + 2) E → KV eNT e ewP h') : eCv X m_X1_enter [vR c, vI i, vR m, vR y, vI g] eNT e ewP h KV KX := by
  obtain ⟨a1, a2, a3, a4, a5, a6, a7⟩ := k1 hc
  refine bk_X1_enter_0 X c i m y g eNT e ewP h _ ?_
  rw [if_pos a1, a2, if_pos (by rw [a4]; decide), a5, show wr (((30 : Nat) : Int) - 1) = 4 + ((25 : Nat) : Int) by rw [wrn (by decide) (by decide)]; rfl]
  exact lp_bkenter hc hm hy hcm hcy (fun k => h (c + 1) k) 25 h (Nat.le_refl _) lm ly hch (fun k hk => by rw [if_pos (by omega)]) h6 _ H
end
