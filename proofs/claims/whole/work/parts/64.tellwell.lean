/-! a well is told, class and reference -/
section
variable {X : eX} {e : Nat} {h : Nat → Nat → Int} {w : Nat → Int} {c : Nat} {U : Nat → Nat → Int} {b : Bool} {r : Nat → Int} {k1 k2 : Int × Int} {W I L : List Int} {f : Int} {N R : Nat} {T : Nat → Nat}
theorem lp_ctw {d n : Nat} {g : Nat → Int} {x : Int} (hd : ewK d = 10) (wo : wOk g n) (d5 : d + 5 ≤ 575) : ∀ (k t : Nat) (L : List Int) (h : Nat → Nat → Int), t + k = n → wlR h d g n → lR h 575 L → L.length ≤ 3 + 7 * t → ∀ Q, (∀ h', frm 575 577 h h' → lR h' 575 (tlF g t k L) → Q (.inl (some (vI ((tlF g t k L).length : Int)))) (eNT, e, ewP, h')) → eP X m_X12_tellWell 29 [vR 1, vI x, vR d, vI (t : Int)] [] (eNT, e, ewP, h) Q := by
  have n5 := wo.1
  have kd := (w10 hd).1
  intro k
  induction k with
  | zero =>
    intro t L h ht wl l hL Q H
    refine bk_X12_tellWell_29 X 1 x d t eNT e ewP h Q ?_
    rw [if_pos kd, wl.2.2.1, if_neg (by omega), if_pos ck1, cp9, if_pos ck575, c_size1 cl575 l]
    exact H h frm_rfl l
  | succ k ih =>
    intro t L h ht wl l hL Q H
    refine bk_X12_tellWell_29 X 1 x d t eNT e ewP h Q ?_
    rw [if_pos kd, wl.2.2.1, if_pos (by omega), if_pos ck1]
    refine c_tellThing hd wl wo (by omega) d5 l (by omega) (fun h1 f1 l1 => ?_)
    rw [wi1 (by omega)]
    exact ih (t + 1) _ h1 (by omega) (wlR_frm f1 (by omega) wl) l1 (by have := thA_le g t L; omega) Q (fun h' f' => H h' (frm_tr (a := 575) (b := 577) f1 f' (by omega)))
theorem c_tellWell {x : Int} (l : CI h w c U b r k1 k2 W I L f) {KI KX} (H1 : ¬ (0 ≤ x ∧ x < w 0) → KX 4 eNT (e + 1) ewP h) (H : 0 ≤ x ∧ x < w 0 → ∀ h', (∀ z, 577 ≤ z → h' z = h z) → CI h' w c U b r k1 k2 W I (tWl (wW w x.toNat)) f → KI ((tWl (wW w x.toNat)).length : Int) eNT e ewP h') : eCi X m_X12_tellWell [vR 1, vI x] eNT e ewP h KI KX := by
  have l' := l
  obtain ⟨l1, l2, l3, l4, p1, p2, p3, p4, p5, p6, p7, p8, p9⟩ := l
  refine bk_X12_tellWell_0 X 1 x eNT e ewP h _ ?_
  rw [if_pos ck1]
  refine c_asked l1 ?_
  by_cases q : 0 ≤ x ∧ x < w 0
  · rw [if_pos q]
    have H := H q
    obtain ⟨hk, wl, wo, x8⟩ := wR_well l1 q
    unfold tWl at H
    generalize hg : wW w x.toNat = g at *
    generalize hd : 4 + 5 * x.toNat = d at *
    have kd := (w10 hk).1
    have oD := wo.2.2.1
    have oB := wo.2.2.2.1
    have n5 := wo.1
    have nn : (g 2).toNat = (g 2).toNat := rfl
    have d1 := dgt_le (g 0)
    rw [if_pos ck1, cp9, if_pos ck575]
    refine w_clear cl575 p5.2.2.2 (fun h1 f1 q1 => ?_)
    have wl1 := wlR_frm f1 (by omega) wl
    rw [if_pos ck1, if_pos kd, cp9, if_pos ck575, wl1.2.2.2.1]
    refine w_putNumber cl575 q1 (by decide) (by omega) (fun h2 f2 q2 => ?_)
    have wl2 := wlR_frm f2 (by omega) wl1
    rw [List.nil_append] at q2
    have K : ∀ h', frm 575 577 h h' → lR h' 575 (tlF g 0 (g 2).toNat (dgt (g 0) ++ [btS g])) → KI ((tlF g 0 (g 2).toNat (dgt (g 0) ++ [btS g])).length : Int) eNT e ewP h' := fun h' ff q' => by
      refine H h' (fun z hz => ff z (by omega)) (CI_L l' (by rw [ff 1 (by omega)]) (fun z h2 h3 h4 => ?_) ⟨lR_frm ff (by omega) p1, p2, lR_frm ff (by omega) p3, lR_frm ff (by omega) p4, q', by rw [ff 1 (by omega)]; exact p6, lCh_f (ff _ (by omega)) p7, lCh_f (ff _ (by omega)) p8, lCh_f (ff _ (by omega)) p9⟩)
      exact ff z (by omega)
    have fin : ∀ (Q : eO → eM → Prop), (∀ h', frm 575 577 h h' → lR h' 575 (tlF g 0 (g 2).toNat (dgt (g 0) ++ [btS g])) → Q (.inl (some (vI ((tlF g 0 (g 2).toNat (dgt (g 0) ++ [btS g])).length : Int)))) (eNT, e, ewP, h')) → ∀ h3, frm 575 577 h2 h3 → lR h3 575 (dgt (g 0) ++ [btS g]) → eP X m_X12_tellWell 29 [vR 1, vI x, vR d, vI 0] [] (eNT, e, ewP, h3) Q := fun Q HQ h3 f3 q3 =>
      lp_ctw hk wo (by omega) (g 2).toNat 0 _ h3 (by omega) (wlR_frm f3 (by omega) wl2) q3 (by simp only [List.length_append, List.length_cons, List.length_nil]; omega) Q (fun h' f' q' => HQ h' (frm_tr (a := 575) (b := 577) f1 (frm_tr (a := 575) (b := 577) f2 (frm_tr (a := 575) (b := 577) f3 f' (by omega)) (by omega)) (by omega)) q')
    have bS : btS g = if g 1 = 0 then 115 else if g 1 = 1 then 119 else 109 := rfl
    rw [if_pos ck1, if_pos kd, wl2.2.2.2.2.1]
    by_cases b0 : g 1 = 0
    · rw [if_pos b0, cp9, if_pos ck575]
      refine w_put cl575 q2 (by omega) (by decide) (fun h3 f3 q3 => ?_)
      exact fin _ K h3 f3 (by rw [bS, if_pos b0]; exact q3)
    · rw [if_neg b0, if_pos kd]
      by_cases b1 : g 1 = 1
      · rw [if_pos b1, cp9, if_pos ck575]
        refine w_put cl575 q2 (by omega) (by decide) (fun h3 f3 q3 => ?_)
        exact fin _ K h3 f3 (by rw [bS, if_neg b0, if_pos b1]; exact q3)
      · rw [if_neg b1, cp9, if_pos ck575]
        refine w_put cl575 q2 (by omega) (by decide) (fun h3 f3 q3 => ?_)
        exact fin _ K h3 f3 (by rw [bS, if_neg b0, if_neg b1]; exact q3)
  · rw [if_neg q]
    exact H1 q
theorem lp_mtw {i n : Nat} {x2 : Int} (hi : i < 8) (wo : wOk (wW w i) n) : ∀ (k t : Nat) (L : List Int) (h : Nat → Nat → Int), t + k = n → h 578 = w → lnR h L → L.length ≤ 3 + 7 * t → ∀ Q, (∀ h', mfr [585] [22] h h' → lnR h' (tlF (wW w i) t k L) → Q (.inl (some (vI ((tlF (wW w i) t k L).length : Int)))) (eNT, e, ewP, h')) → eP X m_X13_tellWell 39 [vR 577, vI (i : Int), vI x2, vI (t : Int)] [] (eNT, e, ewP, h) Q := by
  have n5 := wo.1
  have n2 := wo.2.1
  intro k
  induction k with
  | zero =>
    intro t L h ht hw l hL Q H
    refine bk_X13_tellWell_39 X 577 i x2 t eNT e ewP h Q ?_
    rw [if_pos mk577, m_of hi (by decide), hw, show (2 : Int).toNat = 2 from rfl, n2, if_neg (by omega), if_pos mk577, l.1]
    exact H h mfr_rfl l
  | succ k ih =>
    intro t L h ht hw l hL Q H
    refine bk_X13_tellWell_39 X 577 i x2 t eNT e ewP h Q ?_
    rw [if_pos mk577, m_of hi (by decide), hw, show (2 : Int).toNat = 2 from rfl, n2, if_pos (by omega), if_pos mk577]
    refine m_writesThing hw hi wo (by omega) l (by omega) (fun h1 f1 l1 => ?_)
    rw [wi1 (by omega)]
    exact ih (t + 1) _ h1 (by omega) (by rw [f1.1 578 (by decide) (by decide)]; exact hw) l1 (by have := thA_le (wW w i) t L; omega) Q (fun h' f' => H h' (mfr_tr f1 f'))
theorem m_tellWell {x : Int} (o : rOk w N R T) (l : MI h w c U b r k1 k2 W I L f) {KI KX} (H1 : ¬ (0 ≤ x ∧ x < w 0) → KI 0 eNT e ewP (up h 577 0 1)) (H : 0 ≤ x ∧ x < w 0 → ∀ h', mB h h' → h' 577 0 = 0 → MI h' w c U b r k1 k2 W I (tWl (wW w x.toNat)) f → KI ((tWl (wW w x.toNat)).length : Int) eNT e ewP h') : eCi X m_X13_tellWell [vR 577, vI x] eNT e ewP h KI KX := by
  refine bk_X13_tellWell_0 X 577 x eNT e ewP h _ ?_
  have w1 : up h 577 0 0 578 = w := by rw [up_ne (by decide)]; exact l.1
  have o1 := o.1
  have o2 := o.2.1
  rw [if_pos mk577, if_pos mk577, m_isWell (by rw [w1]; omega), w1]
  by_cases q : 0 ≤ x ∧ x < w 0
  · rw [if_pos q, if_neg (by decide), if_pos mk577, if_pos mk577]
    have H := H q
    obtain ⟨j, rfl⟩ : ∃ j : Nat, x = (j : Int) := ⟨x.toNat, by omega⟩
    rw [Int.toNat_natCast] at H
    have hj : j < N := by omega
    have wo := o.2.2.2.2.1 j hj
    have oD := wo.2.2.1
    have oB := wo.2.2.2.1
    have n5 := wo.1
    have d1 := dgt_le (wW w j 0)
    have f0 : mfr [585] [0, 22] h (up (up h 577 0 0) 577 22 0) := mfr_f (mfr_f mfr_rfl (by decide)) (by decide)
    have z0 : up (up h 577 0 0) 577 22 0 577 0 = 0 := by rw [up_nk (by decide), up_eq]
    have w2 : up (up h 577 0 0) 577 22 0 578 = w := by rw [f0.1 _ (by decide) (by decide)]; exact l.1
    have l0 : lnR (up (up h 577 0 0) 577 22 0) [] := ⟨by rw [up_eq]; rfl, fun k hk => absurd hk (Nat.not_lt_zero _)⟩
    generalize up (up h 577 0 0) 577 22 0 = h0 at *
    rw [m_of (by omega) (by decide), w2, show (0 : Int).toNat = 0 from rfl, if_pos mk577]
    refine m_writesNumber l0 (by decide) (by omega) (fun h2 f2 q2 => ?_)
    have w3 : h2 578 = w := by rw [f2.1 _ (by decide) (by decide)]; exact w2
    rw [List.nil_append] at q2
    rw [if_pos mk577, m_of (by omega) (by decide), w3, show (1 : Int).toNat = 1 from rfl]
    unfold tWl at H
    rw [wo.2.1, Int.toNat_natCast] at H
    have K : ∀ h', mfr [585] [22] h2 h' → lnR h' (tlF (wW w j) 0 (T j) (dgt (wW w j 0) ++ [btS (wW w j)])) → KI ((tlF (wW w j) 0 (T j) (dgt (wW w j 0) ++ [btS (wW w j)])).length : Int) eNT e ewP h' := fun h' f' q' => by
      have ff := mfr_tr f2 f'
      have fg := mfr_tr f0 (mfr_le ff (fun c q => q) (by decide))
      refine H h' (mB_m fg (by simp)) (by rw [ff.2 0 (by decide)]; exact z0) (MI_ln l fg q' ?_)
      have := tlF_le (wW w j) (T j) 0 (dgt (wW w j 0) ++ [btS (wW w j)])
      simp only [List.length_append, List.length_cons, List.length_nil] at this
      omega
    have fin : ∀ (Q : eO → eM → Prop), (∀ h', mfr [585] [22] h2 h' → lnR h' (tlF (wW w j) 0 (T j) (dgt (wW w j 0) ++ [btS (wW w j)])) → Q (.inl (some (vI ((tlF (wW w j) 0 (T j) (dgt (wW w j 0) ++ [btS (wW w j)])).length : Int)))) (eNT, e, ewP, h')) → ∀ h3 x2, mfr [585] [22] h2 h3 → lnR h3 (dgt (wW w j 0) ++ [btS (wW w j)]) → eP X m_X13_tellWell 39 [vR 577, vI (j : Int), vI x2, vI 0] [] (eNT, e, ewP, h3) Q := fun Q HQ h3 x2 f3 q3 =>
      lp_mtw (by omega) wo (T j) 0 _ h3 (by omega) (by rw [f3.1 _ (by decide) (by decide)]; exact w3) q3 (by simp only [List.length_append, List.length_cons, List.length_nil]; omega) Q (fun h' f' q' => HQ h' (mfr_tr f3 f') q')
    have bS : btS (wW w j) = if wW w j 1 = 0 then 115 else if wW w j 1 = 1 then 119 else 109 := rfl
    by_cases b0 : wW w j 1 = 0
    · rw [if_pos b0, if_pos mk577]
      refine m_writes q2 (by omega) (by decide) (fun h3 f3 q3 => ?_)
      exact fin _ K h3 _ f3 (by rw [bS, if_pos b0]; exact q3)
    · rw [if_neg b0]
      by_cases b1 : wW w j 1 = 1
      · rw [if_pos b1, if_pos mk577]
        refine m_writes q2 (by omega) (by decide) (fun h3 f3 q3 => ?_)
        exact fin _ K h3 _ f3 (by rw [bS, if_neg b0, if_pos b1]; exact q3)
      · rw [if_neg b1, if_pos mk577]
        refine m_writes q2 (by omega) (by decide) (fun h3 f3 q3 => ?_)
        exact fin _ K h3 _ f3 (by rw [bS, if_neg b0, if_neg b1]; exact q3)
  · rw [if_neg q, if_pos rfl, if_pos mk577, m_fails, upup]
    exact H1 q
end
