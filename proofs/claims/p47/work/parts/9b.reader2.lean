/-! the class's reader: parts, forms, names, orders -/
section
variable {X : eX} {e : Nat} {h : Nat → Nat → Int} {T : List Int} {q : Nat} {ns W : List Int}
theorem c_readBottom (l : rS h T q) (l2 : rN h ns W) (h60 : T.length ≤ 60) {KI KX} (HF : ∀ f, rdPart T 98 q ns W = .inl f → ∀ h', frm 560 566 h h' → rS h' T f → lCh h' 563 → KI 0 eNT e ewP h') (HS : ∀ q1 ns1 W1, rdPart T 98 q ns W = .inr (q1, ns1, W1) → ∀ h', frm 560 566 h h' → rS h' T q1 → rN h' ns1 W1 → h' 560 5 = h 560 5 → KI 1 eNT e ewP h') : eCi X m_X6_readBottom [vR 560] eNT e ewP h KI KX := by
  refine bk_X6_readBottom_0 X 560 eNT e ewP h _ ?_
  simp only [ck560, rq0, rl561, ite_true]
  rw [l.2, c_sg l.1]
  have go : ∀ x : Int, sg T q ≠ 0 → rdPart T 98 q ns W = .inr (q + 1, nt ns x, W) → eCv X m_X6_note [vR 560, vI x] eNT e ewP h (fun n e p h => if kn ewK n 560 = 6 then if kn ewK n 560 = 6 then if (1 : Int) = 0 ∨ (1 : Int) = 1 then KI 1 n e p (up h 560 4 (wr (h 560 4 + 1))) else False else False else False) (fun E n e p h => eBk X m_X6_readBottom 29 [vR 560, vI (sg T q)] [] (fun o μ => match o, μ with
    | .inl (some (.inl x)), (n, e, p, h) => KI x n e p h
    | .inr E, (n, e, p, h) => KX E n e p h
    | _, _ => False) (.inr E) (n, e, p, h)) := by
    intro x hx hr
    refine w_note l2 (fun h' f1 f2 f3 f4 f5 f6 => ?_)
    have qi := sg_in hx
    rw [if_pos ck560, if_pos ck560, if_pos (by decide), f4, l.2, wi1 (by omega)]
    exact HS _ _ _ hr _ (frT f1 fr_p) (rS_p (rS_n f2 f3 f4 l)) (rN_p (by omega) f6) (by rw [up_nk (by omega), f5])
  unfold rdPart at HF go
  rw [if_pos rfl] at HF go
  by_cases a1 : sg T q = 115
  · rw [if_pos a1, if_pos a1, if_pos ck560]
    exact go 0 (by omega) (by rw [if_pos a1])
  · rw [if_neg a1]
    by_cases a2 : sg T q = 119
    · rw [if_pos a2, if_neg a1, if_pos a2, if_pos ck560]
      exact go 1 (by omega) (by rw [if_neg a1, if_pos a2])
    · rw [if_neg a2]
      by_cases a3 : sg T q = 109
      · rw [if_pos a3, if_neg a1, if_neg a2, if_pos ck560]
        exact go 2 (by omega) (by rw [if_neg a1, if_neg a2, if_pos a3])
      · rw [if_neg a3, if_pos (Or.inl trivial)]
        exact HF q (by rw [if_neg a1, if_neg a2, if_neg a3]) h frm_rfl l l2.2.2.2.2.2.2
theorem c_readNum1 (l : rS h T q) (l2 : rN h ns W) (h60 : T.length ≤ 60) {KI KX} (HF : ∀ f, rdPart T 100 q ns W = .inl f → ∀ h', frm 560 566 h h' → rS h' T f → lCh h' 563 → KI 0 eNT e ewP h') (HS : ∀ q1 ns1 W1, rdPart T 100 q ns W = .inr (q1, ns1, W1) → ∀ h', frm 560 566 h h' → rS h' T q1 → rN h' ns1 W1 → h' 560 5 = h 560 5 → KI 1 eNT e ewP h') : eCi X m_X6_readNumber [vR 560, vI 1] eNT e ewP h KI KX := by
  refine bk_X6_readNumber_0 X 560 1 eNT e ewP h _ ?_
  unfold rdPart at HF HS
  rw [if_neg (show ¬ (100 : Int) = 98 by decide), if_pos rfl] at HF
  simp only [show ¬ (100 : Int) = 98 by decide, if_false, if_true] at HS
  by_cases a : 48 ≤ sg T q ∧ sg T q ≤ 57
  · have qi := sg_in (T := T) (q := q) (by omega)
    refine rn_go (by decide) l (by omega) a ?_
    refine rn_end (by decide) (Or.inl (by decide)) (rS_p l) (rN_p (by omega) l2) (fun h' f1 f2 f3 f4 f5 f6 => ?_)
    rw [show wr (wr (wr (10 * 0) + sg T q) - 48) = sg T q - 48 by rw [wrn (x := 10 * 0) (by omega) (by omega), wrn (x := 10 * 0 + _) (by omega) (by omega), wrn (by omega) (by omega)]; omega] at f6
    exact HS (q + 1) (nt ns (sg T q - 48)) W (by rw [if_pos a]) h' (frT fr_p f1) (rS_n f2 f3 f4 (rS_p l)) f6 (by rw [f5, up_nk (by omega)])
  · refine rn_no (by decide) l a ?_
    exact HF q (by rw [if_neg a]) h frm_rfl l l2.2.2.2.2.2.2
theorem c_readNum2 (l : rS h T q) (l2 : rN h ns W) (h60 : T.length ≤ 60) {KI KX} (HF : ∀ f, rdPart T 110 q ns W = .inl f → ∀ h', frm 560 566 h h' → rS h' T f → lCh h' 563 → KI 0 eNT e ewP h') (HS : ∀ q1 ns1 W1, rdPart T 110 q ns W = .inr (q1, ns1, W1) → ∀ h', frm 560 566 h h' → rS h' T q1 → rN h' ns1 W1 → h' 560 5 = h 560 5 → KI 1 eNT e ewP h') : eCi X m_X6_readNumber [vR 560, vI 2] eNT e ewP h KI KX := by
  refine bk_X6_readNumber_0 X 560 2 eNT e ewP h _ ?_
  unfold rdPart at HF HS
  simp only [show ¬ (110 : Int) = 98 by decide, show ¬ (110 : Int) = 100 by decide, show ¬ (110 : Int) = 108 by decide, if_false, if_true] at HF HS
  by_cases a : 48 ≤ sg T q ∧ sg T q ≤ 57
  · have qi := sg_in (T := T) (q := q) (by omega)
    have e1 : wr (wr (wr (10 * 0) + sg T q) - 48) = sg T q - 48 := by rw [wrn (x := 10 * 0) (by omega) (by omega), wrn (x := 10 * 0 + _) (by omega) (by omega), wrn (by omega) (by omega)]; omega
    refine rn_go (by decide) l (by omega) a ?_
    rw [e1]
    by_cases b : 48 ≤ sg T (q + 1) ∧ sg T (q + 1) ≤ 57
    · have qi2 := sg_in (T := T) (q := q + 1) (by omega)
      refine rn_go (by decide) (rS_p l) (by omega) b ?_
      refine rn_end (by decide) (Or.inl (by decide)) (rS_p (rS_p l)) (rN_p (by omega) (rN_p (by omega) l2)) (fun h' f1 f2 f3 f4 f5 f6 => ?_)
      rw [show wr (wr (wr (10 * (sg T q - 48)) + sg T (q + 1)) - 48) = 10 * (sg T q - 48) + sg T (q + 1) - 48 by rw [wrn (x := 10 * _) (by omega) (by omega), wrn (x := 10 * _ + _) (by omega) (by omega), wrn (by omega) (by omega)]] at f6
      exact HS (q + 2) (nt ns (10 * (sg T q - 48) + sg T (q + 1) - 48)) W (by rw [if_pos a, if_pos b]) h' (frT (frT fr_p fr_p) f1) (rS_n f2 f3 f4 (rS_p (rS_p l))) f6 (by rw [f5, up_nk (by omega), up_nk (by omega)])
    · refine rn_end (by decide) (Or.inr b) (rS_p l) (rN_p (by omega) l2) (fun h' f1 f2 f3 f4 f5 f6 => ?_)
      exact HS (q + 1) (nt ns (sg T q - 48)) W (by rw [if_pos a, if_neg b]) h' (frT fr_p f1) (rS_n f2 f3 f4 (rS_p l)) f6 (by rw [f5, up_nk (by omega)])
  · refine rn_no (by decide) l a ?_
    exact HF q (by rw [if_neg a]) h frm_rfl l l2.2.2.2.2.2.2
theorem c_readLetter (l : rS h T q) (l2 : rN h ns W) (h60 : T.length ≤ 60) {KI KX} (HF : ∀ f, rdPart T 108 q ns W = .inl f → ∀ h', frm 560 566 h h' → rS h' T f → lCh h' 563 → KI 0 eNT e ewP h') (HS : ∀ q1 ns1 W1, rdPart T 108 q ns W = .inr (q1, ns1, W1) → ∀ h', frm 560 566 h h' → rS h' T q1 → rN h' ns1 W1 → h' 560 5 = h 560 5 → KI 1 eNT e ewP h') : eCi X m_X6_readLetter [vR 560] eNT e ewP h KI KX := by
  refine bk_X6_readLetter_0 X 560 eNT e ewP h _ ?_
  unfold rdPart at HF HS
  simp only [show ¬ (108 : Int) = 98 by decide, show ¬ (108 : Int) = 100 by decide, if_false, if_true] at HF HS
  simp only [ck560, rq0, rl561, ite_true]
  rw [l.2, c_sg l.1, c_isLetter]
  by_cases a : 97 ≤ sg T q ∧ sg T q ≤ 122
  · have qi := sg_in (T := T) (q := q) (by omega)
    rw [if_pos a, if_neg (by decide)]
    refine w_note l2 (fun h' f1 f2 f3 f4 f5 f6 => ?_)
    rw [if_pos ck560, if_pos ck560, if_pos (by decide), f4, l.2, wi1 (by omega)]
    exact HS (q + 1) (nt ns (sg T q)) W (by rw [if_pos a]) _ (frT f1 fr_p) (rS_p (rS_n f2 f3 f4 l)) (rN_p (by omega) f6) (by rw [up_nk (by omega), f5])
  · rw [if_neg a, if_pos rfl, if_pos (Or.inl trivial)]
    exact HF q (by rw [if_neg a]) h frm_rfl l l2.2.2.2.2.2.2
theorem c_readWord (l : rS h T q) (l2 : rN h ns W) (h60 : T.length ≤ 60) (hq : q ≤ T.length) (hW : W.length + 8 ≤ 60) {KI KX} (HF : ∀ f, rdPart T 119 q ns W = .inl f → ∀ h', frm 560 566 h h' → rS h' T f → lCh h' 563 → KI 0 eNT e ewP h') (HS : ∀ q1 ns1 W1, rdPart T 119 q ns W = .inr (q1, ns1, W1) → ∀ h', frm 560 566 h h' → rS h' T q1 → rN h' ns1 W1 → h' 560 5 = h 560 5 → KI 1 eNT e ewP h') : eCi X m_X6_readWord [vR 560] eNT e ewP h KI KX := by
  refine bk_X6_readWord_0 X 560 eNT e ewP h _ ?_
  unfold rdPart at HF HS
  simp only [show ¬ (119 : Int) = 98 by decide, show ¬ (119 : Int) = 100 by decide, show ¬ (119 : Int) = 108 by decide, show ¬ (119 : Int) = 110 by decide, if_false, if_true] at HF HS
  refine lp_word 8 0 h q W rfl l h60 hq l2 hW _ (fun h' f1 f2 f3 f4 => ?_)
  by_cases a : (wdF T 8 q W).2 = []
  · show KI (if (wdF T 8 q W).2 = [] then 0 else 1) eNT e ewP h'
    rw [if_pos a]
    exact HF _ (by rw [if_pos a]) h' f1 f2 f4.2.2.2.2.2.2
  · show KI (if (wdF T 8 q W).2 = [] then 0 else 1) eNT e ewP h'
    rw [if_neg a]
    exact HS _ _ _ (by rw [if_neg a]) h' f1 f2 f4 f3
theorem c_readPart {k : Int} (l : rS h T q) (l2 : rN h ns W) (h60 : T.length ≤ 60) (hq : q ≤ T.length) (hW : W.length + 8 ≤ 60) (hk : 0 < k) {KI KX} (HF : ∀ f, rdPart T k q ns W = .inl f → ∀ h', frm 560 566 h h' → rS h' T f → lCh h' 563 → KI 0 eNT e ewP h') (HS : ∀ q1 ns1 W1, rdPart T k q ns W = .inr (q1, ns1, W1) → ∀ h', frm 560 566 h h' → rS h' T q1 → rN h' ns1 W1 → h' 560 5 = h 560 5 → KI 1 eNT e ewP h') : eCi X m_X6_readPart [vR 560, vI k] eNT e ewP h KI KX := by
  refine bk_X6_readPart_0 X 560 k eNT e ewP h _ ?_
  have d0 : (0 : Int) = 0 ∨ (0 : Int) = 1 := by decide
  have d1 : (1 : Int) = 0 ∨ (1 : Int) = 1 := by decide
  by_cases k1 : k = ((98 : Nat) : Int)
  · rw [if_pos k1, if_pos ck560]
    subst k1
    exact c_readBottom l l2 h60 (fun f hf h' f1 f2 f3 => by rw [if_pos d0]; exact HF f hf h' f1 f2 f3) (fun a b c hs h' f1 f2 f3 f4 => by rw [if_pos d1]; exact HS a b c hs h' f1 f2 f3 f4)
  rw [if_neg k1]
  by_cases k2 : k = ((100 : Nat) : Int)
  · rw [if_pos k2, if_pos ck560]
    subst k2
    exact c_readNum1 l l2 h60 (fun f hf h' f1 f2 f3 => by rw [if_pos d0]; exact HF f hf h' f1 f2 f3) (fun a b c hs h' f1 f2 f3 f4 => by rw [if_pos d1]; exact HS a b c hs h' f1 f2 f3 f4)
  rw [if_neg k2]
  by_cases k3 : k = ((108 : Nat) : Int)
  · rw [if_pos k3, if_pos ck560]
    subst k3
    exact c_readLetter l l2 h60 (fun f hf h' f1 f2 f3 => by rw [if_pos d0]; exact HF f hf h' f1 f2 f3) (fun a b c hs h' f1 f2 f3 f4 => by rw [if_pos d1]; exact HS a b c hs h' f1 f2 f3 f4)
  rw [if_neg k3]
  by_cases k4 : k = ((110 : Nat) : Int)
  · rw [if_pos k4, if_pos ck560]
    subst k4
    exact c_readNum2 l l2 h60 (fun f hf h' f1 f2 f3 => by rw [if_pos d0]; exact HF f hf h' f1 f2 f3) (fun a b c hs h' f1 f2 f3 f4 => by rw [if_pos d1]; exact HS a b c hs h' f1 f2 f3 f4)
  rw [if_neg k4]
  by_cases k5 : k = ((119 : Nat) : Int)
  · rw [if_pos k5, if_pos ck560]
    subst k5
    exact c_readWord l l2 h60 hq hW (fun f hf h' f1 f2 f3 => by rw [if_pos d0]; exact HF f hf h' f1 f2 f3) (fun a b c hs h' f1 f2 f3 f4 => by rw [if_pos d1]; exact HS a b c hs h' f1 f2 f3 f4)
  rw [if_neg k5, if_pos ck560, c_readSign l (by omega)]
  unfold rdPart at HF HS
  have n1 : k ≠ 98 := k1
  have n2 : k ≠ 100 := k2
  have n3 : k ≠ 108 := k3
  have n4 : k ≠ 110 := k4
  have n5 : k ≠ 119 := k5
  simp only [if_neg n1, if_neg n2, if_neg n3, if_neg n4, if_neg n5] at HF HS
  by_cases a : sg T q = k
  · rw [if_pos a]
    rw [if_pos d1]
    exact HS (q + 1) ns W (by rw [if_pos a]) _ fr_p (rS_p l) (rN_p (by omega) l2) (by rw [up_nk (by omega)])
  · rw [if_neg a]
    rw [if_pos d0]
    exact HF q (by rw [if_neg a]) h frm_rfl l l2.2.2.2.2.2.2
theorem lp_form {o : Nat} (ho : o < 12) (h60 : T.length ≤ 60) {KI : Int → Nat → Nat → (Nat → Nat → Nat) → (Nat → Nat → Int) → Prop} {KX : Nat → Nat → Nat → (Nat → Nat → Nat) → (Nat → Nat → Int) → Prop} {Q : eO → eM → Prop} (HQ : ∀ x n e p h, KI x n e p h → Q (.inl (some (vI x))) (n, e, p, h)) : ∀ (ks : List Int) (i : Nat) (h : Nat → Nat → Int) (q : Nat) (ns W : List Int), (ewT (12 + o)).drop i = ks → i ≤ (ewT (12 + o)).length → rS h T q → rN h ns W → q ≤ T.length → W.length + 8 * ks.length ≤ 60 → (∀ f, rdForm T ks q ns W = .inl f → ∀ h', frm 560 566 h h' → rS h' T f → lCh h' 563 → KI 0 eNT e ewP h') → (∀ q1 ns1 W1, rdForm T ks q ns W = .inr (q1, ns1, W1) → ∀ h', frm 560 566 h h' → rS h' T q1 → rN h' ns1 W1 → h' 560 5 = h 560 5 → KI 1 eNT e ewP h') → eP X m_X6_readOrder 21 [vR 560, vR (1112 + o), vI (i : Int)] [] (eNT, e, ewP, h) Q := by
  intro ks
  induction ks with
  | nil =>
    intro i h q ns W hi hil l l2 hq hW HF HS
    refine bk_X6_readOrder_21 X 560 (1112 + o) i eNT e ewP h Q ?_
    rw [show 1112 + o - 1100 = 12 + o by omega]
    have hl : (ewT (12 + o)).length ≤ i := List.drop_eq_nil_iff.mp hi
    rw [if_pos (by omega), if_neg (by omega), if_pos (by decide)]
    exact HQ _ _ _ _ _ (HS q ns W rfl h frm_rfl l l2 rfl)
  | cons k ks ih =>
    intro i h q ns W hi hil l l2 hq hW HF HS
    refine bk_X6_readOrder_21 X 560 (1112 + o) i eNT e ewP h Q ?_
    rw [show 1112 + o - 1100 = 12 + o by omega]
    have hl : i < (ewT (12 + o)).length := by
      rcases Nat.lt_or_ge i (ewT (12 + o)).length with a | a
      · exact a
      · rw [List.drop_eq_nil_iff.mpr a] at hi; cases hi
    have hk : (ewT (12 + o)).getD i 0 = k := by
      rw [List.getD_eq_getElem?_getD, ← List.head?_drop, hi]; rfl
    have hd : (ewT (12 + o)).drop (i + 1) = ks := by
      rw [← List.tail_drop, hi]; rfl
    have mk : k ∈ ewT (12 + o) := by
      have : k ∈ (ewT (12 + o)).drop i := by rw [hi]; exact List.mem_cons_self
      exact List.mem_of_mem_drop this
    have k0 := (ewT_ne (12 + o) (by omega) k mk).2
    have l5 := (ewT_len o ho).2.2
    rw [if_pos (by omega), if_pos (by omega), if_pos (by omega), if_pos ck560, Int.toNat_natCast, hk]
    simp only [List.length_cons] at hW
    obtain ⟨pi1, pi2⟩ := rdPart_in (T := T) (ns := ns) (W := W) hq (show k ≠ 0 by omega) l2.2.1
    refine c_readPart l l2 h60 hq (by omega) k0 (fun f hf h' f1 f2 f3 => ?_) (fun a b c hs h' f1 f2 f3 f4 => ?_)
    · rw [if_pos rfl, if_pos (by decide)]
      exact HQ _ _ _ _ _ (HF f (by rw [rdForm, hf]) h' f1 f2 f3)
    · rw [if_neg (by decide), wi1 (by omega)]
      have e1 : rdForm T (k :: ks) q ns W = rdForm T ks a b c := by rw [rdForm, hs]
      rw [e1] at HF HS
      have pw := pi2 a b c hs
      have pw2 : nbW k ≤ 8 := by unfold nbW; split <;> omega
      exact ih (i + 1) h' a b c hd (by omega) f2 f3 pw.2.1 (by omega) (fun f hf h2 g1 g2 g3 => HF f hf h2 (frT f1 g1) g2 g3) (fun a b c hs h2 g1 g2 g3 g4 => HS a b c hs h2 (frT f1 g1) g2 g3 (by rw [g4, f4]))
theorem lp_same {o : Nat} (ho : o < 12) (h60 : T.length ≤ 60) (hq : q ≤ T.length) (l : rS h T q) : ∀ (cs : List Int) (i : Nat), (ewT o).drop i = cs → i ≤ (ewT o).length → ∀ Q, Q (.inl (some (vI ((i + lcp T cs (q + i) : Nat) : Int)))) (eNT, e, ewP, h) → eP X m_X6_sameSigns 2 [vR 560, vR (1100 + o), vI (i : Int)] [] (eNT, e, ewP, h) Q := by
  intro cs
  induction cs with
  | nil =>
    intro i hi hil Q H
    refine bk_X6_sameSigns_2 X 560 (1100 + o) i eNT e ewP h Q ?_
    rw [show 1100 + o - 1100 = o by omega]
    have hl : (ewT o).length ≤ i := List.drop_eq_nil_iff.mp hi
    have : (ewT o).length = i := by omega
    rw [if_pos (by omega), if_neg (by omega), if_pos (by omega), this]
    rw [lcp, Nat.add_zero] at H
    exact H
  | cons k ks ih =>
    intro i hi hil Q H
    refine bk_X6_sameSigns_2 X 560 (1100 + o) i eNT e ewP h Q ?_
    rw [show 1100 + o - 1100 = o by omega]
    have hl : i < (ewT o).length := by
      rcases Nat.lt_or_ge i (ewT o).length with a | a
      · exact a
      · rw [List.drop_eq_nil_iff.mpr a] at hi; cases hi
    have hk : (ewT o).getD i 0 = k := by
      rw [List.getD_eq_getElem?_getD, ← List.head?_drop, hi]; rfl
    have hd : (ewT o).drop (i + 1) = ks := by
      rw [← List.tail_drop, hi]; rfl
    have l7 := (ewT_len o ho).2.1
    rw [if_pos (by omega), if_pos (by omega), if_pos ck560, if_pos ck560, rq0, if_pos rl561, l.2, wrn (by omega) (by omega), show (q : Int) + (i : Int) = ((q + i : Nat) : Int) by omega, c_sg l.1, if_pos (by omega), Int.toNat_natCast, hk]
    by_cases a : sg T (q + i) = k
    · rw [if_pos a, wi1 (by omega)]
      rw [lcp_s a, show i + (lcp T ks (q + i + 1) + 1) = i + 1 + lcp T ks (q + (i + 1)) by rw [Nat.add_assoc q]; omega] at H
      exact ih (i + 1) hd (by omega) Q H
    · rw [if_neg a]
      rw [lcp_0 a, Nat.add_zero] at H
      exact H
theorem c_same {o : Nat} (ho : o < 12) (h60 : T.length ≤ 60) (hq : q ≤ T.length) (l : rS h T q) (KI KX) : eCi X m_X6_sameSigns [vR 560, vR (1100 + o)] eNT e ewP h KI KX = KI ((lcp T (ewT o) q : Nat) : Int) eNT e ewP h := by
  refine eCi_eq X (fun Q H => ?_) KI KX
  refine bk_X6_sameSigns_0 X 560 (1100 + o) eNT e ewP h Q ?_
  refine lp_same ho h60 hq l (ewT o) 0 rfl (Nat.zero_le _) Q ?_
  rw [Nat.zero_add, Nat.add_zero]
  exact H
theorem lp_name (h60 : T.length ≤ 60) (hq : q ≤ T.length) (l : rS h T q) {Q : eO → eM → Prop} : ∀ (k i lg : Nat) (s5 s6 : eV), i + k = 12 → lg ≤ 7 → (s5 = vJ ∨ ∃ a b, s5 = vR a ∧ s6 = vI b) → (∀ f, nmF T q k i lg = .inl f → Q (.inl (some (vR 0))) (eNT, e, ewP, up h 560 4 (f : Int))) → (∀ o y, nmF T q k i lg = .inr (o, y) → Q (.inl (some (vR (1010 + o)))) (eNT, e, ewP, up h 560 4 (y : Int))) → eP X m_X6_readName 9 [vR 560, vI (lg : Int), vR 1001, vI 12, vI (i : Int), s5, s6] [] (eNT, e, ewP, h) Q := by
  intro k
  induction k with
  | zero =>
    intro i lg s5 s6 hi hlg hs HF HS
    have i12 : i = 12 := by omega
    subst i12
    have H := HF (q + lg) rfl
    have e1 : wr ((q : Int) + (lg : Int)) = ((q + lg : Nat) : Int) := by rw [wrn (by omega) (by omega)]; omega
    rcases hs with rfl | ⟨a, b, rfl, rfl⟩
    · refine bk_X6_readName_9 X 560 lg 1001 12 _ s6 eNT e ewP h Q ?_
      rw [if_neg (by decide), if_pos ck560, if_pos ck560, l.2, e1]
      exact H
    · refine bk_X6_readName_9b X 560 lg 1001 12 _ a (vI b) eNT e ewP h Q ?_
      rw [if_neg (by decide), if_pos ck560, if_pos ck560, l.2, e1]
      exact H
  | succ k ih =>
    intro i lg s5 s6 hi hlg hs HF HS
    have e0 : 1100 + 12 * 0 + (1010 + (i : Int).toNat - 1010) = 1100 + i := by rw [Int.toNat_natCast]; omega
    have l7 := lcp_le (T := T) (ewT i) q
    have l8 := (ewT_len i (by omega)).2.1
    have K : (if ((lcp T (ewT i) q : Nat) : Int) = ((ewT i).length : Int) then Q (.inl (some (vR (1010 + (i : Int).toNat)))) (eNT, e, ewP, up h 560 4 (wr (h 560 4 + ((lcp T (ewT i) q : Nat) : Int)))) else eP X m_X6_readName 9 [vR 560, vI (if (lg : Int) ≤ ((lcp T (ewT i) q : Nat) : Int) then ((lcp T (ewT i) q : Nat) : Int) else (lg : Int)), vR 1001, vI 12, vI (wr ((i : Int) + 1)), vR (1010 + (i : Int).toNat), vI ((lcp T (ewT i) q : Nat) : Int)] [] (eNT, e, ewP, h) Q) := by
      rw [nmF] at HF HS
      by_cases a : lcp T (ewT i) q = (ewT i).length
      · rw [if_pos (by omega), l.2, Int.toNat_natCast, wrn (by omega) (by omega)]
        rw [if_pos a] at HS
        have H := HS i (q + (ewT i).length) rfl
        rw [show (q : Int) + ((lcp T (ewT i) q : Nat) : Int) = ((q + (ewT i).length : Nat) : Int) by omega]
        exact H
      · rw [if_neg (by omega), wi1 (by omega)]
        rw [if_neg a] at HF HS
        have e3 : (if (lg : Int) ≤ ((lcp T (ewT i) q : Nat) : Int) then ((lcp T (ewT i) q : Nat) : Int) else (lg : Int)) = ((if lg ≤ lcp T (ewT i) q then lcp T (ewT i) q else lg : Nat) : Int) := by
          by_cases b : lg ≤ lcp T (ewT i) q
          · rw [if_pos (by omega), if_pos b]
          · rw [if_neg (by omega), if_neg b]
        rw [e3]
        exact ih (i + 1) _ _ _ (by omega) (by split <;> omega) (Or.inr ⟨_, _, rfl, rfl⟩) HF HS
    rcases hs with rfl | ⟨a, b, rfl, rfl⟩
    · refine bk_X6_readName_9 X 560 lg 1001 12 i s6 eNT e ewP h Q ?_
      rw [if_pos (by omega), if_pos ⟨rfl, by omega, by omega⟩, if_pos (by omega), if_pos ck560, e0, c_same (by omega) h60 hq l, show 1100 + i - 1100 = i by omega, if_pos (by omega), if_pos (by omega), if_pos ck560, if_pos ck560]
      exact K
    · refine bk_X6_readName_9b X 560 lg 1001 12 i a (vI b) eNT e ewP h Q ?_
      rw [if_pos (by omega), if_pos ⟨rfl, by omega, by omega⟩, if_pos (by omega), if_pos ck560, e0, c_same (by omega) h60 hq l, show 1100 + i - 1100 = i by omega, if_pos (by omega), if_pos (by omega), if_pos ck560, if_pos ck560]
      exact K
theorem c_readName (h60 : T.length ≤ 60) (hq : q ≤ T.length) (l : rS h T q) {KR KX} (HF : ∀ f, rdName T q = .inl f → KR 0 eNT e ewP (up h 560 4 (f : Int))) (HS : ∀ o y, rdName T q = .inr (o, y) → KR (1010 + o) eNT e ewP (up h 560 4 (y : Int))) : eCr X m_X6_readName [vR 560] eNT e ewP h KR KX := by
  refine bk_X6_readName_0 X 560 eNT e ewP h _ ?_
  rw [if_pos rfl]
  exact lp_name h60 hq l 12 0 0 _ _ rfl (by omega) (Or.inl rfl) HF HS
theorem c_readOrder (l : rS h T q) (lW : lCh h 563) (h60 : T.length ≤ 60) (hq : q ≤ T.length) {KI KX} (HF : ∀ f, rdOrd T q = .inl f → ∀ h', frm 560 566 h h' → rS h' T f → lCh h' 563 → KI 0 eNT e ewP h') (HS : ∀ o q1 ns W, rdOrd T q = .inr (o, q1, ns, W) → ∀ h', frm 560 566 h h' → rS h' T q1 → rN h' ns W → h' 560 5 = ((1010 + o : Nat) : Int) → KI 1 eNT e ewP h') : eCi X m_X6_readOrder [vR 560] eNT e ewP h KI KX := by
  refine bk_X6_readOrder_0 X 560 eNT e ewP h _ ?_
  rw [if_pos ck560, if_pos ck560, rq1, if_pos rl563]
  refine w_clear rk563 (show lCh (up h 560 3 0) 563 from lCh_f (up_ne (by omega)) lW) (fun h1 f1 g1 => ?_)
  rw [if_pos ck560]
  have p1 : h1 560 = up h 560 3 0 560 := f1 _ (by omega)
  have s1 : rS h1 T q := ⟨lR_f (by rw [f1 _ (by omega), up_ne (by omega)]) (by rw [f1 _ (by omega), up_ne (by omega)]) l.1, by rw [p1, up_nk (by omega)]; exact l.2⟩
  have fr1 : frm 560 566 h h1 := frT fr_p (frL f1 (by omega))
  unfold rdOrd at HF HS
  refine c_readName h60 hq s1 (fun f hf => ?_) (fun o y hs => ?_)
  · rw [if_pos ⟨ck560, Or.inl rfl⟩, if_pos ck560, up_eq, if_pos (by rfl), if_pos (by decide)]
    rw [hf] at HF
    exact HF f rfl _ (frT fr1 (frT fr_p fr_p)) ⟨lR_f (by rw [up_ne (by omega), up_ne (by omega)]) (by rw [up_ne (by omega), up_ne (by omega)]) s1.1, by rw [up_nk (by omega), up_eq]⟩ (lCh_f (by rw [up_ne (by omega), up_ne (by omega)]) g1.2.2.2)
  · have hin := (nmF_in (T := T) hq 12 0 0 rfl (by omega)).2 o y hs
    rw [if_pos ⟨ck560, Or.inr ⟨by omega, by omega⟩⟩, if_pos ck560, up_eq, Int.toNat_natCast, if_neg (by omega), if_pos ck560, if_pos ⟨by omega, by omega⟩, show 1100 + 12 * 1 + (1010 + o - 1010) = 1112 + o by omega]
    rw [hs] at HF HS
    have s2 : rS (up (up h1 560 4 (y : Int)) 560 5 ((1010 + o : Nat) : Int)) T y := ⟨lR_f (by rw [up_ne (by omega), up_ne (by omega)]) (by rw [up_ne (by omega), up_ne (by omega)]) s1.1, by rw [up_nk (by omega), up_eq]⟩
    have n2 : rN (up (up h1 560 4 (y : Int)) 560 5 ((1010 + o : Nat) : Int)) [] [] := ⟨by rw [up_nk (by omega), up_nk (by omega), p1, up_eq]; rfl, by decide, fun k hk => absurd hk (Nat.not_lt_zero _), lR_f (by rw [up_ne (by omega), up_ne (by omega)]) (by rw [up_ne (by omega), up_ne (by omega)]) g1⟩
    have l5 := (ewT_len o hin.1).2.2
    refine lp_form (KI := KI) (KX := KX) hin.1 h60 (fun x n e p h k => k) (ewT (12 + o)) 0 _ y [] [] rfl (Nat.zero_le _) s2 n2 hin.2.2 (by simp; omega) (fun f hf h' f1 f2 f3 => ?_) (fun a b c hf h' f1 f2 f3 f4 => ?_)
    · dsimp only at HF
      rw [hf] at HF
      exact HF f rfl h' (frT (frT fr1 (frT fr_p fr_p)) f1) f2 f3
    · dsimp only at HS
      rw [hf] at HS
      exact HS o a b c rfl h' (frT (frT fr1 (frT fr_p fr_p)) f1) f2 f3 (by rw [f4, up_eq])
theorem lp_count (h60 : T.length ≤ 60) {l1 : Nat} : ∀ (k i : Nat) (h : Nat → Nat → Int) (q : Nat), i + k = 61 → T.length < q + 2 * k → rS h T q → q ≤ T.length → lCh h 563 → ∀ Q, (∀ f, rdAll T k q = .inl f → ∀ h', frm 560 566 h h' → rS h' T f → lCh h' 563 → Q (.inl (some (vI (-1)))) (eNT, e, ewP, h')) → (∀ n, rdAll T k q = .inr n → ∀ h', frm 560 566 h h' → lR h' 561 T → lCh h' 563 → Q (.inl (some (vI ((i : Int) + n - 1)))) (eNT, e, ewP, h')) → eP X m_X6_countOrders 8 [vR 560, vR l1, vI (i : Int)] [] (eNT, e, ewP, h) Q := by
  intro k
  induction k with
  | zero => intro i h q hi hk l hq lW Q HF HS; omega
  | succ k ih =>
    intro i h q hi hk l hq lW Q HF HS
    refine bk_X6_countOrders_8 X 560 l1 i eNT e ewP h Q ?_
    rw [if_pos (by omega), if_pos ck560]
    rw [rdAll] at HF HS
    refine c_readOrder l lW h60 hq (fun f hf h' f1 f2 f3 => ?_) (fun o q1 ns W hs h' f1 f2 f3 f4 => ?_)
    · rw [if_pos rfl]
      rw [hf] at HF
      exact HF f rfl h' f1 f2 f3
    · rw [hs] at HF HS
      dsimp only at HF HS
      have hin := (rdOrd_in hq).2 o q1 ns W hs
      rw [if_neg (by decide), if_pos ck560, if_pos ck560, rq0, if_pos rl561, c_size1 rk561 f2.1, f2.2]
      by_cases a : T.length ≤ q1
      · rw [if_neg (by omega)]
        rw [if_pos a] at HS
        have H := HS 1 rfl h' f1 f2.1 f3.2.2.2.2.2.2
        rw [show (i : Int) + ((1 : Nat) : Int) - 1 = (i : Int) by omega] at H
        exact H
      · rw [if_pos (by omega), if_pos ck560, c_readSign f2 (by omega)]
        rw [if_neg a] at HF HS
        by_cases b : sg T q1 = 59
        · rw [if_pos b, if_neg (by decide), wi1 (by omega)]
          rw [if_pos b] at HF HS
          refine ih (i + 1) _ (q1 + 1) (by omega) (by omega) (rS_p f2) (by omega) (lCh_f (up_ne (by omega)) f3.2.2.2.2.2.2) Q (fun f hf h2 g1 g2 g3 => ?_) (fun n hn h2 g1 g2 g3 => ?_)
          · rw [hf] at HF
            exact HF f rfl h2 (frT (frT f1 fr_p) g1) g2 g3
          · rw [hn] at HS
            have H := HS (n + 1) rfl h2 (frT (frT f1 fr_p) g1) g2 g3
            rw [show (i : Int) + ((n + 1 : Nat) : Int) - 1 = ((i + 1 : Nat) : Int) + (n : Int) - 1 by omega] at H
            exact H
        · rw [if_neg b, if_pos rfl]
          rw [if_neg b] at HF
          exact HF q1 rfl h' f1 f2 f3.2.2.2.2.2.2
theorem c_countOrders {I : List Int} (l : lR h 573 I) (lT : lCh h 561) (lW : lCh h 563) {KI KX} (HF : ∀ f, rdAll I 60 0 = .inl f → ∀ h', frm 560 566 h h' → rS h' I f → lCh h' 563 → KI (-1) eNT e ewP h') (HS : ∀ n : Nat, rdAll I 60 0 = .inr n → ∀ h', frm 560 566 h h' → lR h' 561 I → lCh h' 563 → KI (n : Int) eNT e ewP h') : eCi X m_X6_countOrders [vR 560, vR 573] eNT e ewP h KI KX := by
  refine bk_X6_countOrders_0 X 560 573 eNT e ewP h _ ?_
  rw [if_pos ck560, rq0, if_pos rl561]
  refine w_copy rk561 cl573 (by decide) lT l (fun h1 f1 g1 => ?_)
  rw [if_pos ck560]
  refine bk_X6_rewind_0 X 560 eNT e ewP h1 _ ?_
  rw [if_pos ck560]
  have h60 := l.2.1
  refine lp_count h60 60 1 _ 0 rfl (by omega) ⟨lR_f (up_ne (by omega)) (up_ne (by omega)) g1, up_eq⟩ (Nat.zero_le _) (lCh_f (by rw [up_ne (by omega), f1 _ (by omega)]) lW) _ (fun f hf h' f2 g2 g3 => HF f hf h' (frT (frT (frL f1 (by omega)) fr_p) f2) g2 g3) (fun n hn h' f2 g2 g3 => ?_)
  have H := HS n hn h' (frT (frT (frL f1 (by omega)) fr_p) f2) g2 g3
  show KI (((1 : Nat) : Int) + (n : Int) - 1) eNT e ewP h'
  rw [show ((1 : Nat) : Int) + (n : Int) - 1 = (n : Int) by omega]
  exact H
end
