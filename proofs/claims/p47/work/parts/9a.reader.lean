/-! the class's reader -/
theorem rk561 : ewK 561 = 4 := by decide +kernel
theorem rk563 : ewK 563 = 4 := by decide +kernel
theorem rl561 : kn ewK eNT 561 = 4 := kn_ly rk561 (by decide)
theorem rl563 : kn ewK eNT 563 = 4 := kn_ly rk563 (by decide)
theorem rl565 : kn ewK eNT 565 = 20 := kn_ly (by decide +kernel) (by decide)
theorem rn565 : ewL 565 = 3 := by decide +kernel
theorem rq0 : ewP 560 0 = 561 := by decide +kernel
theorem rq1 : ewP 560 1 = 563 := by decide +kernel
theorem rq2 : ewP 560 2 = 565 := by decide +kernel
def rS (h : Nat → Nat → Int) (T : List Int) (q : Nat) : Prop := lR h 561 T ∧ h 560 4 = (q : Int)
def rN (h : Nat → Nat → Int) (ns W : List Int) : Prop := h 560 3 = (ns.length : Int) ∧ ns.length ≤ 3 ∧ aR h 565 ns ∧ lR h 563 W
theorem rS_p {h : Nat → Nat → Int} {T : List Int} {q q' : Nat} (l : rS h T q) : rS (up h 560 4 (q' : Int)) T q' := ⟨lR_f (up_ne (by omega)) (up_ne (by omega)) l.1, up_eq⟩
theorem rN_p {h : Nat → Nat → Int} {ns W : List Int} {k : Nat} {v : Int} (hk : k ≠ 3) (l : rN h ns W) : rN (up h 560 k v) ns W := ⟨by rw [up_nk (Ne.symm hk)]; exact l.1, l.2.1, aR_h (up_ne (by omega)) l.2.2.1, lR_f (up_ne (by omega)) (up_ne (by omega)) l.2.2.2⟩
theorem fr_p {h : Nat → Nat → Int} {k : Nat} {v : Int} : frm 560 566 h (up h 560 k v) := frm_up frm_rfl (by omega)
theorem frT {h h1 h2 : Nat → Nat → Int} (a : frm 560 566 h h1) (b : frm 560 566 h1 h2) : frm 560 566 h h2 := frm_tr a b (by omega)
theorem frL {a b : Nat} {h h1 : Nat → Nat → Int} (f : frm a b h h1) (q : 560 ≤ a ∧ b ≤ 566) : frm 560 566 h h1 := frm_le f q
section
variable {X : eX} {e : Nat} {h : Nat → Nat → Int} {T : List Int} {q : Nat} {ns W : List Int}
theorem c_sg (l : lR h 561 T) (KI KX) : eCi X m_X4_at [vR 561, vI ((q : Nat) : Int)] eNT e ewP h KI KX = KI (sg T q) eNT e ewP h := by
  rcases Nat.lt_or_ge q T.length with a | a
  · exact c_at1 rk561 l (sg_at a) KI KX
  · rw [c_at0 rk561 l (Or.inr (by omega))]
    unfold sg
    rw [List.getD_eq_getElem?_getD, List.getElem?_eq_none a]
    rfl
theorem c_isDigit {x : Int} (KI KX) : eCi X m_X6_isDigit [vI x] eNT e ewP h KI KX = KI (if 48 ≤ x ∧ x ≤ 57 then 1 else 0) eNT e ewP h := by
  refine eCi_eq X (fun Q H => ?_) KI KX
  refine bk_X6_isDigit_0 X x eNT e ewP h Q ?_
  by_cases a1 : x < 48
  · rw [if_neg (by omega)] at H
    rw [if_pos a1, if_pos (by decide)]; exact H
  · rw [if_neg a1]
    by_cases a2 : x ≤ 57
    · rw [if_pos (by omega)] at H
      rw [if_pos a2, if_pos (by decide)]; exact H
    · rw [if_neg (by omega)] at H
      rw [if_neg a2, if_pos (by decide)]; exact H
theorem c_readSign {c : Int} (l : rS h T q) (hq : q ≤ 60) (KI KX) : eCi X m_X6_readSign [vR 560, vI c] eNT e ewP h KI KX = if sg T q = c then KI 1 eNT e ewP (up h 560 4 ((q + 1 : Nat) : Int)) else KI 0 eNT e ewP h := by
  by_cases a : sg T q = c
  · rw [if_pos a]
    refine eCi_eq X (fun Q H => ?_) KI KX
    refine bk_X6_readSign_0 X 560 c eNT e ewP h Q ?_
    simp only [ck560, rq0, rl561, ite_true]
    rw [l.2, c_sg l.1]
    rw [if_pos a, if_pos ck560, if_pos ck560, if_pos (by decide), l.2, wi1 (by omega)]
    exact H
  · rw [if_neg a]
    refine eCi_eq X (fun Q H => ?_) KI KX
    refine bk_X6_readSign_0 X 560 c eNT e ewP h Q ?_
    simp only [ck560, rq0, rl561, ite_true]
    rw [l.2, c_sg l.1]
    rw [if_neg a, if_pos (by decide)]
    exact H
theorem c_numberAt {i : Nat} (l : rN h ns W) (hi : i < 3) (KI KX) : eCi X m_X6_numberAt [vR 560, vI (i : Int)] eNT e ewP h KI KX = KI (ns.getD i 0) eNT e ewP h := by
  refine eCi_eq X (fun Q H => ?_) KI KX
  refine bk_X6_numberAt_0 X 560 i eNT e ewP h Q ?_
  rw [if_neg (by omega), if_pos ck560, l.1]
  by_cases a : i < ns.length
  · rw [if_pos (by omega), if_pos ck560, rq2, rl565, if_pos (by decide), rn565, if_pos (by omega), if_pos ck560, if_pos ⟨rfl, by omega, by omega⟩, Int.toNat_natCast]
    have h1 := l.2.2.1 i a
    rw [List.getD_eq_getElem?_getD, h1] at H
    exact H
  · rw [if_neg (by omega)]
    rw [List.getD_eq_getElem?_getD, List.getElem?_eq_none (by omega)] at H
    exact H
theorem w_note {x : Int} (l : rN h ns W) {KV KX} (H : ∀ h', frm 560 566 h h' → h' 561 = h 561 → h' 562 = h 562 → h' 560 4 = h 560 4 → h' 560 5 = h 560 5 → rN h' (nt ns x) W → KV eNT e ewP h') : eCv X m_X6_note [vR 560, vI x] eNT e ewP h KV KX := by
  refine bk_X6_note_0 X 560 x eNT e ewP h _ ?_
  rw [if_pos ck560, l.1, if_neg (by omega), if_pos ck560, if_pos ck560, rq2, rl565, if_pos (by decide), rn565]
  by_cases a : ns.length < 3
  · rw [if_pos (by omega), if_pos ck560, if_pos ck560, if_pos ⟨rfl, by omega, by omega⟩, if_pos ck560, if_pos ck560, Int.toNat_natCast]
    have e1 : wr ((up h 565 ns.length x) 560 3 + 1) = ((ns.length + 1 : Nat) : Int) := by rw [up_ne (by omega), l.1, wi1 (by omega)]
    rw [e1]
    have e2 : nt ns x = ns ++ [x] := by unfold nt; rw [if_pos a]
    rw [e2] at H
    refine H _ (frm_up (frm_up frm_rfl (by omega)) (by omega)) (by rw [up_ne (by omega), up_ne (by omega)]) (by rw [up_ne (by omega), up_ne (by omega)]) (by rw [up_nk (by omega), up_ne (by omega)]) (by rw [up_nk (by omega), up_ne (by omega)]) ⟨by rw [up_eq]; simp, by simp; omega, aR_h (up_ne (by omega)) (aR_app l.2.2.1), lR_f (by rw [up_ne (by omega), up_ne (by omega)]) (by rw [up_ne (by omega), up_ne (by omega)]) l.2.2.2⟩
  · rw [if_neg (by omega)]
    have e2 : nt ns x = ns := by unfold nt; rw [if_neg a]
    rw [e2] at H
    exact H h frm_rfl rfl rfl rfl rfl l
theorem rS_n {h h' : Nat → Nat → Int} (q1 : h' 561 = h 561) (q2 : h' 562 = h 562) (q4 : h' 560 4 = h 560 4) (l : rS h T q) : rS h' T q := ⟨lR_f q1 q2 l.1, by rw [q4]; exact l.2⟩
/-- numbers -/
theorem rn_go {m d v : Int} {Q : eO → eM → Prop} (hd : d < m) (l : rS h T q) (hq : q ≤ 60) (dg : 48 ≤ sg T q ∧ sg T q ≤ 57) (H : eP X m_X6_readNumber 4 [vR 560, vI m, vI (wr (wr (wr (10 * v) + sg T q) - 48)), vI (wr (d + 1))] [] (eNT, e, ewP, up h 560 4 ((q + 1 : Nat) : Int)) Q) : eP X m_X6_readNumber 4 [vR 560, vI m, vI v, vI d] [] (eNT, e, ewP, h) Q := by
  refine bk_X6_readNumber_4 X 560 m v d eNT e ewP h Q ?_
  rw [if_pos hd]
  simp only [ck560, rq0, rl561, ite_true]
  rw [l.2, c_sg l.1, c_isDigit, if_pos dg, if_neg (by decide)]
  simp only [ck560, rq0, rl561, ite_true]
  rw [l.2, c_sg l.1]
  simp only [ck560, ite_true]
  rw [l.2, wi1 (by omega)]
  exact H
theorem rn_end {m d v : Int} {Q : eO → eM → Prop} (h0 : d ≠ 0) (hd : ¬ d < m ∨ ¬ (48 ≤ sg T q ∧ sg T q ≤ 57)) (l : rS h T q) (l2 : rN h ns W) (H : ∀ h', frm 560 566 h h' → h' 561 = h 561 → h' 562 = h 562 → h' 560 4 = h 560 4 → h' 560 5 = h 560 5 → rN h' (nt ns v) W → Q (.inl (some (vI 1))) (eNT, e, ewP, h')) : eP X m_X6_readNumber 4 [vR 560, vI m, vI v, vI d] [] (eNT, e, ewP, h) Q := by
  refine bk_X6_readNumber_4 X 560 m v d eNT e ewP h Q ?_
  by_cases a : d < m
  · rw [if_pos a]
    simp only [ck560, rq0, rl561, ite_true]
    rw [l.2, c_sg l.1, c_isDigit, if_neg (show ¬ (48 ≤ sg T q ∧ sg T q ≤ 57) by omega), if_pos rfl, if_neg h0, if_pos ck560]
    refine w_note l2 (fun h' f1 f2 f3 f4 f5 f6 => ?_)
    rw [if_pos (by decide)]
    exact H h' f1 f2 f3 f4 f5 f6
  · rw [if_neg a, if_neg h0, if_pos ck560]
    refine w_note l2 (fun h' f1 f2 f3 f4 f5 f6 => ?_)
    rw [if_pos (by decide)]
    exact H h' f1 f2 f3 f4 f5 f6
theorem rn_no {m v : Int} {Q : eO → eM → Prop} (hm : 0 < m) (l : rS h T q) (dg : ¬ (48 ≤ sg T q ∧ sg T q ≤ 57)) (H : Q (.inl (some (vI 0))) (eNT, e, ewP, h)) : eP X m_X6_readNumber 4 [vR 560, vI m, vI v, vI 0] [] (eNT, e, ewP, h) Q := by
  refine bk_X6_readNumber_4 X 560 m v 0 eNT e ewP h Q ?_
  rw [if_pos hm]
  simp only [ck560, rq0, rl561, ite_true]
  rw [l.2, c_sg l.1, c_isDigit, if_neg dg, if_pos rfl, if_pos (Or.inl trivial)]
  exact H
theorem lp_word : ∀ (k i : Nat) (h : Nat → Nat → Int) (q : Nat) (W : List Int), i + k = 8 → rS h T q → T.length ≤ 60 → q ≤ T.length → rN h ns W → W.length + k ≤ 60 → ∀ Q, (∀ h', frm 560 566 h h' → rS h' T (wdF T k q W).1 → h' 560 5 = h 560 5 → rN h' ns (wdF T k q W).2 → Q (.inl (some (vI (if (wdF T k q W).2 = [] then 0 else 1)))) (eNT, e, ewP, h')) → eP X m_X6_readWord 2 [vR 560, vI (i : Int)] [] (eNT, e, ewP, h) Q := by
  intro k
  induction k with
  | zero =>
    intro i h q W hi l l60 hq l2 hW Q H
    refine bk_X6_readWord_2 X 560 i eNT e ewP h Q ?_
    rw [if_neg (by omega), if_pos ck560, rq1, if_pos rl563, c_size1 rk563 l2.2.2.2]
    have H2 := H h frm_rfl l rfl l2
    rw [wdF] at H2
    dsimp only at H2
    clear H
    by_cases a : W = []
    · rw [if_pos a] at H2
      subst a
      rw [if_pos (by decide), if_pos (by decide)]
      exact H2
    · rw [if_neg a] at H2
      have : W.length ≠ 0 := fun z => a (List.eq_nil_of_length_eq_zero z)
      rw [if_neg (by omega), if_pos (by decide)]
      exact H2
  | succ k ih =>
    intro i h q W hi l l60 hq l2 hW Q H
    refine bk_X6_readWord_2 X 560 i eNT e ewP h Q ?_
    rw [if_pos (by omega)]
    simp only [ck560, rq0, rl561, ite_true]
    rw [l.2, c_sg l.1, c_isLetter]
    rw [wdF] at H
    by_cases a : 97 ≤ sg T q ∧ sg T q ≤ 122
    · rw [if_pos a] at H
      rw [if_pos a, if_neg (by decide)]
      simp only [ck560, rq0, rq1, rl561, ite_true]
      rw [l.2, c_sg l.1, if_pos rl563]
      refine w_put rk563 l2.2.2.2 (by omega) (by omega) (fun h1 f1 l1 => ?_)
      simp only [ck560, ite_true]
      have qi := sg_in (T := T) (q := q) (by omega)
      have p1 : h1 560 = h 560 := f1 560 (by omega)
      rw [p1, l.2, wi1 (by omega), wi1 (by omega)]
      have l3 : rS h1 T q := ⟨lR_f (f1 _ (by omega)) (f1 _ (by omega)) l.1, by rw [p1]; exact l.2⟩
      have l4 : rN h1 ns (W ++ [sg T q]) := ⟨by rw [p1]; exact l2.1, l2.2.1, aR_h (f1 _ (by omega)) l2.2.2.1, l1⟩
      refine ih (i + 1) _ (q + 1) (W ++ [sg T q]) (by omega) (rS_p l3) l60 (by omega) (rN_p (by omega) l4) (by simp; omega) Q (fun h' f' s' o' n' => H h' (frT (frT (frL f1 (by omega)) fr_p) f') s' ?_ n')
      rw [o', up_nk (by omega), p1]
    · rw [if_neg a] at H
      rw [if_neg a, if_pos rfl, if_pos ck560, rq1, if_pos rl563, c_size1 rk563 l2.2.2.2]
      have H2 := H h frm_rfl l rfl l2
      dsimp only at H2
      clear H
      by_cases a : W = []
      · rw [if_pos a] at H2
        subst a
        rw [if_pos (by decide), if_pos (by decide)]
        exact H2
      · rw [if_neg a] at H2
        have : W.length ≠ 0 := fun z => a (List.eq_nil_of_length_eq_zero z)
        rw [if_neg (by omega), if_pos (by decide)]
        exact H2
end
