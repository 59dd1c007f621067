/-! the class's wells as rows, and what changes them -/
def up4 (h : Nat → Nat → Int) (c t : Nat) (k d v a : Int) : Nat → Nat → Int := up (up (up (up h (c + 1) t k) (c + 2) t d) (c + 3) t v) (c + 4) t a
theorem up4_1 {h : Nat → Nat → Int} {c t j : Nat} {k d v a : Int} : up4 h c t k d v a (c + 1) j = if j = t then k else h (c + 1) j := by
  unfold up4
  rw [up_ne (by omega), up_ne (by omega), up_ne (by omega), up_at]
theorem up4_2 {h : Nat → Nat → Int} {c t j : Nat} {k d v a : Int} : up4 h c t k d v a (c + 2) j = if j = t then d else h (c + 2) j := by
  unfold up4
  rw [up_ne (by omega), up_ne (by omega), up_at, up_ne (by omega)]
theorem up4_3 {h : Nat → Nat → Int} {c t j : Nat} {k d v a : Int} : up4 h c t k d v a (c + 3) j = if j = t then v else h (c + 3) j := by
  unfold up4
  rw [up_ne (by omega), up_at, up_ne (by omega), up_ne (by omega)]
theorem up4_4 {h : Nat → Nat → Int} {c t j : Nat} {k d v a : Int} : up4 h c t k d v a (c + 4) j = if j = t then a else h (c + 4) j := by
  unfold up4
  rw [up_at, up_ne (by omega), up_ne (by omega), up_ne (by omega)]
theorem up4_o {h : Nat → Nat → Int} {c t b : Nat} {k d v a : Int} (q : b ≤ c ∨ c + 5 ≤ b) : up4 h c t k d v a b = h b := by
  unfold up4
  rw [up_ne (by omega), up_ne (by omega), up_ne (by omega), up_ne (by omega)]
theorem frm_up4 {A B : Nat} {h h' : Nat → Nat → Int} {c t : Nat} {k d v a : Int} (f : frm A B h h') (q : A ≤ c ∧ c + 5 ≤ B) : frm A B h (up4 h' c t k d v a) := by
  unfold up4
  exact frm_up (frm_up (frm_up (frm_up f (by omega)) (by omega)) (by omega)) (by omega)
/-- the things t of a well -/
def thR (h : Nat → Nat → Int) (c : Nat) (f : Nat → Int) (t : Nat) : Prop := h (c + 1) t = f (5 + 4 * t) ∧ h (c + 2) t = f (6 + 4 * t) ∧ h (c + 3) t = f (7 + 4 * t) ∧ h (c + 4) t = f (8 + 4 * t) ∧ (f (8 + 4 * t) = 0 ∨ f (8 + 4 * t) = 1)
/-- the well at c is the row f with n things -/
def wlR (h : Nat → Nat → Int) (c : Nat) (f : Nat → Int) (n : Nat) : Prop := n ≤ 5 ∧ f 2 = (n : Int) ∧ h c 4 = (n : Int) ∧ h c 5 = f 0 ∧ h c 6 = f 1 ∧ h c 7 = f 3 ∧ h c 8 = f 4 ∧ ∀ t, t < n → thR h c f t
theorem wlR_frm {a b c n : Nat} {h h' : Nat → Nat → Int} {f : Nat → Int} (g : frm a b h h') (q : c + 5 ≤ a ∨ b ≤ c) (l : wlR h c f n) : wlR h' c f n := by
  unfold wlR thR at l ⊢
  rw [g c (by omega), g (c + 1) (by omega), g (c + 2) (by omega), g (c + 3) (by omega), g (c + 4) (by omega)]
  exact l
theorem wlR_congr {c n : Nat} {h : Nat → Nat → Int} {f g : Nat → Int} (q : ∀ j, j < 25 → f j = g j) (l : wlR h c f n) : wlR h c g n := by
  obtain ⟨h0, h1, h2, h3, h4, h5, h6, h7⟩ := l
  refine ⟨h0, by rw [← q 2 (by omega)]; exact h1, h2, by rw [← q 0 (by omega)]; exact h3, by rw [← q 1 (by omega)]; exact h4, by rw [← q 3 (by omega)]; exact h5, by rw [← q 4 (by omega)]; exact h6, fun t ht => ?_⟩
  have := h7 t ht
  unfold thR at this ⊢
  rw [← q (5 + 4 * t) (by omega), ← q (6 + 4 * t) (by omega), ← q (7 + 4 * t) (by omega), ← q (8 + 4 * t) (by omega)]
  exact this
section
variable {X : eX} {e : Nat} {h : Nat → Nat → Int}
theorem c_set {c t : Nat} {k d v a : Int} (hc : ewK c = 10) (ht : t < 5) (ha : a = 0 ∨ a = 1) (KV KX) : eCv X m_X10_set [vR c, vI t, vI k, vI d, vI v, vI a] eNT e ewP h KV KX = KV eNT e ewP (up4 h c t k d v a) := by
  refine eCv_eq X (fun Q H => ?_) KV KX
  refine bk_X10_set_0 X c t k d v a eNT e ewP h Q ?_
  obtain ⟨k0, p0, p1, p2, p3, k1, k2, k3, k4, n1, n2, n3, n4⟩ := w10 hc
  have g1 : (t : Int) < ((5 : Nat) : Int) := by omega
  have g2 : (0 : Int) ≤ (t : Int) := by omega
  have g3 : ¬ (t : Int) < 0 := by omega
  simp only [k0, k1, k2, k3, k4, n1, n2, n3, n4, p0, p1, p2, p3, g1, g2, g3, ite_true, ite_false, Int.toNat_natCast, true_and, and_true]
  rw [if_pos (by decide), if_pos (by decide), if_pos (by decide), if_pos (by decide), if_pos ha]
  exact H
theorem w_open {c : Nat} {d b : Int} (hc : ewK c = 10) {KV KX} (H : ∀ h', frm c (c + 1) h h' → wlR h' c (fun k => if k = 0 then d else if k = 1 then b else 0) 0 → KV eNT e ewP h') : eCv X m_X10_open [vR c, vI d, vI b] eNT e ewP h KV KX := by
  refine bk_X10_open_0 X c d b eNT e ewP h _ ?_
  simp only [(w10 hc).1, ite_true]
  refine H _ (frm_up (frm_up (frm_up (frm_up (frm_up frm_rfl (by omega)) (by omega)) (by omega)) (by omega)) (by omega)) ⟨by omega, by simp, ?_, ?_, ?_, ?_, ?_, fun t ht => absurd ht (Nat.not_lt_zero _)⟩ <;> simp [up_at]
theorem awk {a : Int} (h : a = 0 ∨ a = 1) : (if a = 0 then (0 : Int) else 1) = a := by
  rcases h with h | h <;> subst h <;> decide
theorem lp_wcopy {c d n : Nat} {f : Nat → Int} (hc : ewK c = 10) (hd : ewK d = 10) (hcd : c + 5 ≤ d ∨ d + 5 ≤ c) : ∀ (j i : Nat) (h : Nat → Nat → Int), i + j = n → wlR h d f n → wlR h c f 0 ∨ h c 4 = (n : Int) ∧ h c 5 = f 0 ∧ h c 6 = f 1 ∧ h c 7 = f 3 ∧ h c 8 = f 4 → h c 4 = (n : Int) ∧ h c 5 = f 0 ∧ h c 6 = f 1 ∧ h c 7 = f 3 ∧ h c 8 = f 4 → (∀ t, t < i → thR h c f t) → ∀ Q, (∀ h', frm c (c + 5) h h' → wlR h' c f n → Q (.inl none) (eNT, e, ewP, h')) → eP X m_X10_copy 22 [vR c, vR d, vI i] [] (eNT, e, ewP, h) Q := by
  intro j
  induction j with
  | zero =>
    intro i h hi wd _ wc ht Q H
    refine bk_X10_copy_22 X c d i eNT e ewP h Q ?_
    rw [if_pos (w10 hc).1, if_neg (by omega)]
    obtain ⟨a0, a1, a2⟩ := wd
    exact H h frm_rfl ⟨a0, a1, wc.1, wc.2.1, wc.2.2.1, wc.2.2.2.1, wc.2.2.2.2, fun t h1 => ht t (by omega)⟩
  | succ j ih =>
    intro i h hi wd _ wc ht Q H
    refine bk_X10_copy_22 X c d i eNT e ewP h Q ?_
    have h5 := wd.1
    obtain ⟨t1, t2, t3, t4, t5⟩ := wd.2.2.2.2.2.2.2 i (by omega)
    have g1 : (i : Int) < h c 4 := by omega
    simp only [(w10 hc).1, (w10 hd).1, g1, ite_true, c_kindOf hd (show i < 5 by omega), c_depthOf hd (show i < 5 by omega), c_valueOf hd (show i < 5 by omega), c_isAwake hd (show i < 5 by omega)]
    rw [t1, t2, t3, t4, awk t5, c_set hc (by omega) t5, wi1 (by omega)]
    refine ih (i + 1) _ (by omega) (wlR_frm (frm_up4 frm_rfl (by omega : c ≤ c ∧ c + 5 ≤ c + 5)) (by omega) wd) (Or.inr ?_) ?_ ?_ Q (fun h' g => H h' (frm_tr (frm_up4 frm_rfl (by omega : c ≤ c ∧ c + 5 ≤ c + 5)) g (by omega)))
    · rw [up4_o (by omega)]; exact wc
    · rw [up4_o (by omega)]; exact wc
    · intro t h1
      unfold thR
      rw [up4_1, up4_2, up4_3, up4_4]
      by_cases q : t = i
      · subst q
        simp only [ite_true]
        exact ⟨trivial, trivial, trivial, trivial, t5⟩
      · simp only [if_neg q]
        exact ht t (by omega)
theorem w_wcopy {c d n : Nat} {f : Nat → Int} (hc : ewK c = 10) (hd : ewK d = 10) (hcd : c + 5 ≤ d ∨ d + 5 ≤ c) (wd : wlR h d f n) {KV KX} (H : ∀ h', frm c (c + 5) h h' → wlR h' c f n → KV eNT e ewP h') : eCv X m_X10_copy [vR c, vR d] eNT e ewP h KV KX := by
  refine bk_X10_copy_0 X c d eNT e ewP h _ ?_
  obtain ⟨a0, a1, a2, a3, a4, a5, a6, a7⟩ := id wd
  simp only [(w10 hc).1, (w10 hd).1, ite_true]
  have hn : d ≠ c := by omega
  simp only [up_ne hn, a2, a3, a4, a5, a6]
  have g : frm c (c + 5) h (up (up (up (up (up h c 4 ↑n) c 5 (f 0)) c 6 (f 1)) c 7 (f 3)) c 8 (f 4)) := frm_up (frm_up (frm_up (frm_up (frm_up frm_rfl (by omega)) (by omega)) (by omega)) (by omega)) (by omega)
  refine lp_wcopy hc hd hcd n 0 _ (by omega) (wlR_frm g (by omega) wd) (Or.inr ?_) ?_ (fun t ht => absurd ht (Nat.not_lt_zero _)) _ (fun h' g' => H h' (frm_tr g g' (by omega)))
  · simp [up_at]
  · simp [up_at]
def rAdd (f : Nat → Int) (n : Nat) (k d v : Int) : Nat → Int := fun j => if j = 5 + 4 * n then k else if j = 6 + 4 * n then d else if j = 7 + 4 * n then v else if j = 8 + 4 * n then (if k = 1 then 1 else 0) else if j = 2 then n + 1 else f j
theorem rAdd_o {f : Nat → Int} {n j : Nat} {k d v : Int} (h : j ≠ 2) (hj : j < 5 + 4 * n ∨ 9 + 4 * n ≤ j) : rAdd f n k d v j = f j := by
  unfold rAdd
  rw [if_neg (by omega), if_neg (by omega), if_neg (by omega), if_neg (by omega), if_neg (by omega)]
theorem w_add {c n : Nat} {f : Nat → Int} {k d v : Int} (hc : ewK c = 10) (wc : wlR h c f n) (hn : n < 5) {KI KX} (H : ∀ h', frm c (c + 5) h h' → wlR h' c (rAdd f n k d v) (n + 1) → KI n eNT e ewP h') : eCi X m_X10_add [vR c, vI k, vI d, vI v] eNT e ewP h KI KX := by
  have key : ∀ a : Int, a = (if k = 1 then 1 else 0) → KI n eNT e ewP (up (up4 h c n k d v a) c 4 (n + 1)) := by
    intro a ha
    obtain ⟨a0, a1, a2, a3, a4, a5, a6, a7⟩ := wc
    refine H _ (frm_up (frm_up4 frm_rfl (by omega)) (by omega)) ⟨by omega, ?_, ?_, ?_, ?_, ?_, ?_, ?_⟩
    · unfold rAdd; rw [if_neg (by omega), if_neg (by omega), if_neg (by omega), if_neg (by omega), if_pos rfl]; omega
    · rw [up_eq]; omega
    · rw [up_nk (by omega), up4_o (by omega), a3]; unfold rAdd; rw [if_neg (by omega), if_neg (by omega), if_neg (by omega), if_neg (by omega), if_neg (by omega)]
    · rw [up_nk (by omega), up4_o (by omega), a4]; unfold rAdd; rw [if_neg (by omega), if_neg (by omega), if_neg (by omega), if_neg (by omega), if_neg (by omega)]
    · rw [up_nk (by omega), up4_o (by omega), a5]; unfold rAdd; rw [if_neg (by omega), if_neg (by omega), if_neg (by omega), if_neg (by omega), if_neg (by omega)]
    · rw [up_nk (by omega), up4_o (by omega), a6]; unfold rAdd; rw [if_neg (by omega), if_neg (by omega), if_neg (by omega), if_neg (by omega), if_neg (by omega)]
    · intro t ht
      unfold thR
      rw [up_ne (by omega), up_ne (by omega), up_ne (by omega), up_ne (by omega), up4_1, up4_2, up4_3, up4_4]
      by_cases q : t = n
      · subst q
        simp only [if_pos (rfl : t = t)]
        have b1 : rAdd f t k d v (5 + 4 * t) = k := by unfold rAdd; rw [if_pos rfl]
        have b2 : rAdd f t k d v (6 + 4 * t) = d := by unfold rAdd; rw [if_neg (by omega), if_pos rfl]
        have b3 : rAdd f t k d v (7 + 4 * t) = v := by unfold rAdd; rw [if_neg (by omega), if_neg (by omega), if_pos rfl]
        have b4 : rAdd f t k d v (8 + 4 * t) = (if k = 1 then 1 else 0) := by unfold rAdd; rw [if_neg (by omega), if_neg (by omega), if_neg (by omega), if_pos rfl]
        rw [b1, b2, b3, b4]
        refine ⟨rfl, rfl, rfl, ha, ?_⟩
        split
        · exact Or.inr rfl
        · exact Or.inl rfl
      · simp only [if_neg q]
        have := a7 t (by omega)
        unfold thR at this
        rw [rAdd_o (by omega) (by omega), rAdd_o (by omega) (by omega), rAdd_o (by omega) (by omega), rAdd_o (by omega) (by omega)]
        exact this
  have h4 := wc.2.2.1
  refine bk_X10_add_0 X c k d v eNT e ewP h _ ?_
  simp only [(w10 hc).1, ite_true, h4]
  by_cases q : k = 1
  · rw [if_pos q, c_set hc hn (Or.inr rfl)]
    simp only [(w10 hc).1, ite_true]
    rw [up4_o (by omega), h4, wrn (by omega) (by omega)]
    exact key 1 (by rw [if_pos q])
  · rw [if_neg q, c_set hc hn (Or.inl rfl)]
    simp only [(w10 hc).1, ite_true]
    rw [up4_o (by omega), h4, wrn (by omega) (by omega)]
    exact key 0 (by rw [if_neg q])
def rTake (f : Nat → Int) (n t : Nat) : Nat → Int := fun j => if 5 + 4 * t ≤ j ∧ j < 1 + 4 * n then f (j + 4) else if 1 + 4 * n ≤ j ∧ j < 5 + 4 * n then 0 else if j = 2 then (n : Int) - 1 else f j
theorem lp_remove {c n t0 : Nat} {f : Nat → Int} (hc : ewK c = 10) (h5 : n ≤ 5) (ht0 : t0 < n) : ∀ (j i : Nat) (h : Nat → Nat → Int), i + j = n → t0 < i → f 2 = (n : Int) → h c 4 = (n : Int) ∧ h c 5 = f 0 ∧ h c 6 = f 1 ∧ h c 7 = f 3 ∧ h c 8 = f 4 → (∀ t, t + 1 < i → thR h c (rTake f n t0) t) → (∀ t, i ≤ t → t < n → thR h c f t) → ∀ Q, (∀ h', frm c (c + 5) h h' → wlR h' c (rTake f n t0) (n - 1) → Q (.inl none) (eNT, e, ewP, h')) → eP X m_X10_remove 9 [vR c, vI t0, vI i] [] (eNT, e, ewP, h) Q := by
  intro j
  induction j with
  | zero =>
    intro i h hi hti f2 wc h1 h2 Q H
    refine bk_X10_remove_9 X c t0 i eNT e ewP h Q ?_
    simp only [(w10 hc).1, ite_true]
    rw [if_neg (by omega), wc.1, wrn (by omega) (by omega)]
    obtain ⟨a2, a3, a4, a5, a6⟩ := wc
    refine H _ (frm_up frm_rfl (by omega)) ⟨by omega, ?_, ?_, ?_, ?_, ?_, ?_, ?_⟩
    · unfold rTake; rw [if_neg (by omega), if_neg (by omega), if_pos rfl]; omega
    · rw [up_eq]; omega
    · rw [up_nk (by omega), a3]; unfold rTake; rw [if_neg (by omega), if_neg (by omega), if_neg (by omega)]
    · rw [up_nk (by omega), a4]; unfold rTake; rw [if_neg (by omega), if_neg (by omega), if_neg (by omega)]
    · rw [up_nk (by omega), a5]; unfold rTake; rw [if_neg (by omega), if_neg (by omega), if_neg (by omega)]
    · rw [up_nk (by omega), a6]; unfold rTake; rw [if_neg (by omega), if_neg (by omega), if_neg (by omega)]
    · intro t ht
      have := h1 t (by omega)
      unfold thR at this ⊢
      rw [up_ne (by omega), up_ne (by omega), up_ne (by omega), up_ne (by omega)]
      exact this
  | succ j ih =>
    intro i h hi hti f2 wc h1 h2 Q H
    refine bk_X10_remove_9 X c t0 i eNT e ewP h Q ?_
    obtain ⟨t1, t2, t3, t4, t5⟩ := h2 i (by omega) (by omega)
    have g1 : (i : Int) < h c 4 := by omega
    simp only [(w10 hc).1, g1, ite_true, c_kindOf hc (show i < 5 by omega), c_depthOf hc (show i < 5 by omega), c_valueOf hc (show i < 5 by omega), c_isAwake hc (show i < 5 by omega)]
    rw [t1, t2, t3, t4, awk t5, show wr ((i : Int) - 1) = ((i - 1 : Nat) : Int) by rw [wrn (by omega) (by omega)]; omega, c_set hc (by omega) t5, wi1 (by omega)]
    refine ih (i + 1) _ (by omega) (by omega) f2 (by rw [up4_o (by omega)]; exact wc) ?_ ?_ Q (fun h' g => H h' (frm_tr (frm_up4 frm_rfl (by omega : c ≤ c ∧ c + 5 ≤ c + 5)) g (by omega)))
    · intro t ht
      unfold thR
      rw [up4_1, up4_2, up4_3, up4_4]
      by_cases q : t = i - 1
      · simp only [if_pos q]
        unfold rTake
        rw [if_pos (by omega), if_pos (by omega), if_pos (by omega), if_pos (by omega)]
        rw [show 5 + 4 * t + 4 = 5 + 4 * i by omega, show 6 + 4 * t + 4 = 6 + 4 * i by omega, show 7 + 4 * t + 4 = 7 + 4 * i by omega, show 8 + 4 * t + 4 = 8 + 4 * i by omega]
        exact ⟨rfl, rfl, rfl, rfl, t5⟩
      · simp only [if_neg q]
        exact h1 t (by omega)
    · intro t h3 h4
      have := h2 t (by omega) h4
      unfold thR at this ⊢
      rw [up4_1, up4_2, up4_3, up4_4, if_neg (by omega), if_neg (by omega), if_neg (by omega), if_neg (by omega)]
      exact this
theorem w_remove {c n t : Nat} {f : Nat → Int} (hc : ewK c = 10) (wc : wlR h c f n) (ht : t < n) {KV KX} (H : ∀ h', frm c (c + 5) h h' → wlR h' c (rTake f n t) (n - 1) → KV eNT e ewP h') : eCv X m_X10_remove [vR c, vI t] eNT e ewP h KV KX := by
  obtain ⟨a0, a1, a2, a3, a4, a5, a6, a7⟩ := wc
  refine bk_X10_remove_0 X c t eNT e ewP h _ ?_
  rw [if_pos (w10 hc).1, c_hasThing hc, if_pos (show (0 : Int) ≤ (t : Int) ∧ (t : Int) < h c 4 by omega), if_neg (by decide), wi1 (by omega)]
  refine lp_remove hc a0 ht (n - (t + 1)) (t + 1) h (by omega) (by omega) a1 ⟨a2, a3, a4, a5, a6⟩ ?_ (fun s _ hs => a7 s hs) _ H
  intro s hs
  have := a7 s (by omega)
  unfold thR at this ⊢
  unfold rTake
  rw [if_neg (by omega), if_neg (by omega), if_neg (by omega), if_neg (by omega), if_neg (by omega), if_neg (by omega), if_neg (by omega), if_neg (by omega), if_neg (by omega), if_neg (by omega), if_neg (by omega), if_neg (by omega)]
  exact this
def rFrg (f : Nat → Int) (n : Nat) (a : Int) : Nat → Int := fun j => if 8 ≤ j ∧ j < 5 + 4 * n ∧ j % 4 = 0 then (if a = 0 then 0 else if f (j - 3) = 1 then 1 else 0) else f j
theorem lp_setFrogs {c n : Nat} {f : Nat → Int} {a : Int} (hc : ewK c = 10) (h5 : n ≤ 5) : ∀ (j i : Nat) (h : Nat → Nat → Int), i + j = n → f 2 = (n : Int) → h c 4 = (n : Int) ∧ h c 5 = f 0 ∧ h c 6 = f 1 ∧ h c 7 = f 3 ∧ h c 8 = f 4 → (∀ t, t < i → thR h c (rFrg f n a) t) → (∀ t, i ≤ t → t < n → thR h c f t) → ∀ Q, (∀ h', frm c (c + 5) h h' → wlR h' c (rFrg f n a) n → Q (.inl none) (eNT, e, ewP, h')) → eP X m_X10_setFrogs 2 [vR c, vI a, vI i] [] (eNT, e, ewP, h) Q := by
  obtain ⟨k0, p0, p1, p2, p3, k1, k2, k3, k4, n1, n2, n3, n4⟩ := w10 hc
  intro j
  induction j with
  | zero =>
    intro i h hi f2 wc h1 h2 Q H
    refine bk_X10_setFrogs_2 X c a i eNT e ewP h Q ?_
    rw [if_pos k0, if_neg (by omega)]
    obtain ⟨a2, a3, a4, a5, a6⟩ := wc
    refine H _ frm_rfl ⟨by omega, ?_, by omega, ?_, ?_, ?_, ?_, fun t ht => h1 t (by omega)⟩
    · unfold rFrg; rw [if_neg (by omega)]; omega
    · rw [a3]; unfold rFrg; rw [if_neg (by omega)]
    · rw [a4]; unfold rFrg; rw [if_neg (by omega)]
    · rw [a5]; unfold rFrg; rw [if_neg (by omega)]
    · rw [a6]; unfold rFrg; rw [if_neg (by omega)]
  | succ j ih =>
    intro i h hi f2 wc h1 h2 Q H
    refine bk_X10_setFrogs_2 X c a i eNT e ewP h Q ?_
    obtain ⟨t1, t2, t3, t4, t5⟩ := h2 i (by omega) (by omega)
    have g1 : (i : Int) < h c 4 := by omega
    have g2 : (i : Int) < ((5 : Nat) : Int) := by omega
    have g3 : (0 : Int) ≤ (i : Int) := by omega
    have key : ∀ v : Int, v = (if a = 0 then 0 else if f (5 + 4 * i) = 1 then 1 else 0) → eP X m_X10_setFrogs 2 [vR c, vI a, vI ((i + 1 : Nat) : Int)] [] (eNT, e, ewP, up h (c + 4) i v) Q := by
      intro v hv
      refine ih (i + 1) _ (by omega) f2 (by rw [up_ne (by omega)]; exact wc) ?_ ?_ Q (fun h' g => H h' (frm_tr (frm_up frm_rfl (by omega : c ≤ c + 4 ∧ c + 4 < c + 5)) g (by omega)))
      · intro t ht
        unfold thR
        rw [up_ne (by omega), up_ne (by omega), up_ne (by omega), up_at]
        by_cases q : t = i
        · rw [if_pos q]
          subst q
          unfold rFrg
          rw [if_neg (by omega), if_neg (by omega), if_neg (by omega), if_pos (by omega)]
          rw [show 8 + 4 * t - 3 = 5 + 4 * t by omega, ← hv]
          refine ⟨t1, t2, t3, rfl, ?_⟩
          rw [hv]
          split
          · exact Or.inl rfl
          · split
            · exact Or.inr rfl
            · exact Or.inl rfl
        · rw [if_neg q]
          exact h1 t (by omega)
      · intro t h3 h4
        have := h2 t (by omega) h4
        unfold thR at this ⊢
        rw [up_ne (by omega), up_ne (by omega), up_ne (by omega), up_at, if_neg (by omega)]
        exact this
    simp only [k0, p3, k4, n4, g1, g2, g3, ite_true, Int.toNat_natCast, true_and, c_kindOf hc (show i < 5 by omega), t1]
    rw [if_pos (by decide), wi1 (by omega)]
    by_cases q : a = 0
    · rw [if_pos q, if_pos (by decide)]
      exact key 0 (by rw [if_pos q])
    · rw [if_neg q]
      by_cases q2 : f (5 + 4 * i) = 1
      · rw [if_pos q2, if_pos (by decide)]
        exact key 1 (by rw [if_neg q, if_pos q2])
      · rw [if_neg q2, if_pos (by decide)]
        exact key 0 (by rw [if_neg q, if_neg q2])
theorem w_setFrogs {c n : Nat} {f : Nat → Int} {a : Int} (hc : ewK c = 10) (wc : wlR h c f n) {KV KX} (H : ∀ h', frm c (c + 5) h h' → wlR h' c (rFrg f n a) n → KV eNT e ewP h') : eCv X m_X10_setFrogs [vR c, vI a] eNT e ewP h KV KX := by
  obtain ⟨a0, a1, a2, a3, a4, a5, a6, a7⟩ := wc
  refine bk_X10_setFrogs_0 X c a eNT e ewP h _ ?_
  exact lp_setFrogs hc a0 n 0 h (by omega) a1 ⟨a2, a3, a4, a5, a6⟩ (fun s hs => absurd hs (Nat.not_lt_zero _)) (fun s _ hs => a7 s hs) _ H
end
