/-! what the law asks of a shout -/
theorem wln {x : Int} (h1 : -9223372036854775808 ≤ x) (h2 : x ≤ 9223372036854775807) : wl x = x := by
  unfold wl Int.bmod
  dsimp only
  split <;> omega
section
variable {w : Nat → Int} {W : List Int} {x : Int}
theorem vEL (q : 0 ≤ x ∧ x < w 0) (hW : ¬ W.length = 0) : gJ (gEL w W x) = ((eE w x W).length : Int) := by
  have e : gEL w W x = (0, ((eE w x W).length : Int)) := by unfold gEL; rw [if_pos q, if_neg hW]
  rw [e]; rfl
theorem vEC (q : 0 ≤ x ∧ x < w 0) (hW : ¬ W.length = 0) {k : Nat} (hk : k < (eE w x W).length) : gJ (gEC w W x (k : Int)) = (eE w x W).getD k 0 := by
  have e : gEC w W x (k : Int) = (0, (eE w x W).getD k 0) := by
    unfold gEC
    rw [if_pos q, if_neg hW, if_pos (show (0 : Int) ≤ (k : Int) ∧ (k : Int) < ((eE w x W).length : Int) from ⟨by omega, by omega⟩)]
    rfl
  rw [e]; rfl
theorem vLo (q : 0 ≤ x ∧ x < w 0) (hW : ¬ W.length = 0) : gJ (gLo w W x) = W.length + fFrg (wW w x.toNat) 1 (wW w x.toNat 2).toNat - (eE w x W).length := by
  have e : gLo w W x = (0, W.length + fFrg (wW w x.toNat) 1 (wW w x.toNat 2).toNat - (eE w x W).length) := by unfold gLo; rw [if_pos q, if_neg hW]
  rw [e]; rfl
theorem vWG (q : 0 ≤ x ∧ x < w 0) (hW : ¬ W.length = 0) : gJ (gWG w W x) = gSh w x.toNat W := by
  have e : gWG w W x = (0, gSh w x.toNat W) := by unfold gWG; rw [if_pos q, if_neg hW]
  rw [e]; rfl
theorem vTi (q : 0 ≤ x ∧ x < w 0) : gJ (gTi w x) = fTime (wW w x.toNat) (wW w x.toNat 2).toNat := by
  have e : gTi w x = (0, fTime (wW w x.toNat) (wW w x.toNat 2).toNat) := by unfold gTi; rw [if_pos q]
  rw [e]; rfl
theorem vW4 (q : 0 ≤ x ∧ x < w 0) : gJ (gW w x 4) = fFrg (wW w x.toNat) 1 (wW w x.toNat 2).toNat := by
  have e : gW w x 4 = (0, fFrg (wW w x.toNat) 1 (wW w x.toNat 2).toNat) := by unfold gW; rw [if_pos q]; rfl
  rw [e]; rfl
theorem vCh {E : List Int} {k : Nat} (hk : k < E.length) : gJ (gCh E (k : Int)) = E.getD k 0 := by
  have e : gCh E (k : Int) = (0, E.getD k 0) := by
    unfold gCh
    rw [if_pos (show (0 : Int) ≤ (k : Int) ∧ (k : Int) < (E.length : Int) from ⟨by omega, by omega⟩)]
    rfl
  rw [e]; rfl
theorem vIL {y : Int} (q : 0 ≤ x ∧ x < w 0) (q2 : 0 ≤ y ∧ y < w 0) : gJ (gIL w x y) = if tm w x ≤ tm w y then 0 else 1 := by
  have e : gIL w x y = (0, if tm w x ≤ tm w y then 0 else 1) := by unfold gIL; rw [if_pos q, if_pos q2]
  rw [e]; rfl
theorem vBW (hW : ¬ W.length = 0) (h0 : ¬ w 0 = 0) : gJ (gBW w W) = ((bwF w W 1 ((w 0).toNat - 1) 0 : Nat) : Int) := by
  have e : gBW w W = (0, ((bwF w W 1 ((w 0).toNat - 1) 0 : Nat) : Int)) := by unfold gBW; rw [if_neg (fun z => by rcases z with z | z; exact hW z; exact h0 z)]
  rw [e]; rfl
theorem vB {y : Int} (h : 0 < w 10) (hy : 0 ≤ y ∧ y < 5) : gJ (gB w 0 y) = w (25 + y.toNat) := by
  have e : gB w 0 y = (0, w (25 + 5 * (0 : Int).toNat + y.toNat)) := by unfold gB; rw [if_pos ⟨by decide, h⟩, if_pos hy]
  rw [e]; rfl
end
section
variable {X : eX} {w : Nat → Int} {c : Nat} {U : Nat → Nat → Int} {b : Bool} {r : Nat → Int} {k1 k2 : Int × Int} {W I : List Int} {f : Int} {Q : eO → eM → Prop} {N : Nat}
set_option maxRecDepth 4000 in
theorem lp_s190 {E : List Int} {w0 : Nat → Int} {l1 l2 l3 l4 l7 l9 l11 l13 : Int} (h13 : E.length ≤ 13) (hc : 0 < c) (hUw : U (c - 1) = w0) : ∀ (j k : Nat) (e : Nat) (h : Nat → Nat → Int), k + j = E.length → CI h w c U b r k1 k2 [] [] E f → (∀ h' e', e ≤ e' → e' ≤ e + (j + 510) → LI h' w0 (c - 1) U b r [] [] → Q (.inl (some (vI 1))) (eNT, e', ewP, h')) → eP X m_L_sounds 190 [vR 1, vI l1, vI l2, vI l3, vI l4, vL (mkV w0), vJ, vL l7, vJ, vL l9, vJ, vL l11, vJ, vL l13, vJ, vL (E.length : Int), vJ, vT E, vI (k : Int)] [] (eNT, e, ewP, h) Q := by
  intro j
  induction j with
  | zero =>
    intro k e h hk l H
    refine bk_L_sounds_190 X 1 l1 l2 l3 l4 (mkV w0) l7 l9 l11 l13 E.length E k eNT e ewP h Q ?_
    rw [if_neg (cmp_ge (by omega))]
    have l' : LI h w c U b r [] [] := ⟨_, _, _, _, l⟩
    refine j_undo l' (fun z => by omega) (fun _ h1 l1 => ?_)
    rw [hUw] at l1
    refine j_mark l1 (fun h2 e2 a1 a2 l2 => ?_)
    rw [if_pos (cmp_eq rfl)]
    refine j_account l2 (by omega) (fun h3 e3 b1 b2 l3 => ?_)
    rw [if_pos (cmp_eq (show gJ (gAc w0 [] [] (c - 1) 4) = 0 from rfl)), if_pos (Or.inr rfl)]
    exact H h3 e3 (by omega) (by omega) l3
  | succ j ih =>
    intro k e h hk l H
    refine bk_L_sounds_190 X 1 l1 l2 l3 l4 (mkV w0) l7 l9 l11 l13 E.length E k eNT e ewP h Q ?_
    rw [if_pos (cmp_lt (by omega))]
    refine j_character l (fun h' e' a1 a2 l' => ?_)
    rw [if_pos ⟨by omega, by omega⟩, vCh (by omega), Int.toNat_natCast, if_pos (cmp_eq rfl), wr1 (by omega)]
    exact ih (k + 1) e' h' (by omega) l' (fun h2 e2 c1 c2 l2 => H h2 e2 (by omega) (by omega) l2)
set_option maxRecDepth 4000 in
theorem s107_end {x : Int} {l1 l2 l3 : Int} {e : Nat} {h : Nat → Nat → Int} (q : 0 ≤ x ∧ x < w 0) (hW : ¬ W.length = 0) (ct : ctB N w) (hU : HI N c U) (l : LI h w c U b r W []) (H : ∀ h' e' c' U', e ≤ e' → e' ≤ e + 1100 → LI h' w c' U' b r [] [] → HI N c' U' → Q (.inl (some (vI 1))) (eNT, e', ewP, h')) :
    eP X m_L_sounds 107 [vR 1, vI l1, vI l2, vI l3, vI x, vL (mkV w), vJ, vL (gSh w x.toNat W), vJ, vL (fTime (wW w x.toNat) (wW w x.toNat 2).toNat), vJ, vL (fFrg (wW w x.toNat) 1 (wW w x.toNat 2).toNat), vJ, vL (W.length : Int), vJ, vL ((eE w x W).length : Int), vJ, vT (eE w x W), vI ((eE w x W).length : Int)] [] (eNT, e, ewP, h) Q := by
  obtain ⟨N', R, T, ok⟩ := LI_0 l
  obtain ⟨v1, v2, v3, -⟩ := wl_i ok q
  have h0 := ok.1
  have h08 := ok.2.1
  have hW8 := LI_W l
  have hc8 := LI_c l
  have hw10 := ok.2.2.2.2.2.2.1
  have n5 := v3.1
  have hE : (eE w x W).length ≤ 13 := by have := eEc_len (M := W) v3; show (eEc _ _ _).length ≤ 13; omega
  have fb : 0 ≤ fFrg (wW w x.toNat) 1 (wW w x.toNat 2).toNat ∧ fFrg (wW w x.toNat) 1 (wW w x.toNat 2).toNat ≤ (wW w x.toNat 2).toNat * 1 := sumF_le (fun t => (sFrg01 t).1) (fun t => (sFrg01 t).2) _ 0
  have tb := fTime_b v3
  refine bk_L_sounds_107 X 1 l1 l2 l3 x (mkV w) (gSh w x.toNat W) (fTime (wW w x.toNat) (wW w x.toNat 2).toNat) (fFrg (wW w x.toNat) 1 (wW w x.toNat 2).toNat) W.length (eE w x W).length (eE w x W) (eE w x W).length eNT e ewP h Q ?_
  rw [if_neg (cmp_ge (Int.le_refl _))]
  refine j_losses l (fun h1 e1 a1 a2 l1 => ?_)
  rw [vLo q hW, if_pos (cmp_eq (by rw [wln (x := (W.length : Int) + fFrg (wW w x.toNat) 1 (wW w x.toNat 2).toNat) (by omega) (by omega), wln (by omega) (by omega)]; omega))]
  refine j_mark l1 (fun h2 e2 b1 b2 l2 => ?_)
  rw [if_pos (cmp_eq rfl)]
  have hn : nShout w x W.length = (0, 0) := by unfold nShout; rw [if_pos q, if_neg hW]
  refine j_shout l2 (fun hr => absurd (congrArg Prod.fst hn) hr) (fun _ h3 l3 => ?_)
  rw [if_pos (cmp_eq (show aOrd 11 w x 0 0 W = gSh w x.toNat W from rfl))]
  have l3' : LI h3 (dShout w x.toNat W) (pC c) (pU2 c U w) b r [] [] := l3
  have d10 : 0 < dShout w x.toNat W 10 := ds_10 (by omega)
  refine j_bookOf l3' (fun h4 e4 c1 c2 l4 => ?_)
  rw [vB d10 ⟨by decide, by decide⟩, if_pos (cmp_eq (show dShout w x.toNat W (25 + (3 : Int).toNat) = fTime (wW w x.toNat) (wW w x.toNat 2).toNat from ds_28))]
  refine j_bookOf l4 (fun h5 e5 d1 d2 l5 => ?_)
  rw [vB d10 ⟨by decide, by decide⟩, if_pos (cmp_eq (show dShout w x.toNat W (25 + (2 : Int).toNat) = ((eE w x W).length : Int) from ds_27))]
  have q' : 0 ≤ x ∧ x < dShout w x.toNat W 0 := by rw [ds_0]; exact q
  refine j_wellOf l5 (fun h6 e6 f1 f2 l6 => ?_)
  rw [vW4 q', ds_2, ds_fr n5, if_pos (cmp_eq rfl)]
  refine j_time l6 (fun h7 e7 g1 g2 l7 => ?_)
  rw [vTi q', ds_2, ds_tm n5, if_pos (cmp_eq (by rw [wln (x := 3 * fFrg (wW w x.toNat) 1 (wW w x.toNat 2).toNat) (by omega) (by omega), wln (by omega) (by omega)])), if_pos ck1]
  obtain ⟨k1, k2, L, f, l7⟩ := l7
  obtain ⟨E', hE', -⟩ := wR_lat l7.1
  have eE' : eE w x W = E' := (ds_lat hE).symm.trans (lat_eq hE')
  refine c_tellEcho hE' l7 (fun h8 _ l8 => ?_)
  rw [← eE'] at l8 ⊢
  rw [if_pos (cmp_eq rfl)]
  obtain ⟨p1, p2, p3⟩ := pC_b hc8
  exact lp_s190 hE p1 (pU2_l hc8) (eE w x W).length 0 e7 h8 (by omega) l8 (fun h9 e9 m1 m2 l9 => H h9 e9 _ _ (by omega) (by omega) l9 (fun k hk => HI_p ct hU hc8 k (by omega)))
set_option maxRecDepth 4000 in
theorem lp_s107 {x : Int} {l1 l2 l3 : Int} (q : 0 ≤ x ∧ x < w 0) (hW : ¬ W.length = 0) (hz : wz W) (ct : ctB N w) (hU : HI N c U) : ∀ (j k : Nat) (e : Nat) (h : Nat → Nat → Int), k + j = (eE w x W).length → 0 < e → LI h w c U b r W [] → (∀ h' e' c' U', e ≤ e' → e' ≤ e + (41 * j + 1100) → LI h' w c' U' b r [] [] → HI N c' U' → Q (.inl (some (vI 1))) (eNT, e', ewP, h')) →
    eP X m_L_sounds 107 [vR 1, vI l1, vI l2, vI l3, vI x, vL (mkV w), vJ, vL (gSh w x.toNat W), vJ, vL (fTime (wW w x.toNat) (wW w x.toNat 2).toNat), vJ, vL (fFrg (wW w x.toNat) 1 (wW w x.toNat 2).toNat), vJ, vL (W.length : Int), vJ, vL ((eE w x W).length : Int), vJ, vT ((eE w x W).take k), vI (k : Int)] [] (eNT, e, ewP, h) Q := by
  intro j
  induction j with
  | zero =>
    intro k e h hk he l H
    obtain rfl : k = (eE w x W).length := by omega
    rw [List.take_of_length_le (Nat.le_refl _)]
    exact s107_end q hW ct hU l (fun h' e' c' U' a1 a2 l' hU' => H h' e' c' U' a1 (by omega) l' hU')
  | succ j ih =>
    intro k e h hk he l H
    obtain ⟨N', R, T, ok⟩ := LI_0 l
    obtain ⟨v1, v2, v3, -⟩ := wl_i ok q
    have hW8 := LI_W l
    have n5 := v3.1
    have hE : (eE w x W).length ≤ 13 := by have := eEc_len (M := W) v3; show (eEc _ _ _).length ≤ 13; omega
    have hzE : wz (eE w x W) := wz_ec v3 hz
    have hl := hzE _ (getD_m (T := eE w x W) (k := k) (by omega))
    refine bk_L_sounds_107 X 1 l1 l2 l3 x (mkV w) (gSh w x.toNat W) (fTime (wW w x.toNat) (wW w x.toNat 2).toNat) (fFrg (wW w x.toNat) 1 (wW w x.toNat 2).toNat) W.length (eE w x W).length ((eE w x W).take k) k eNT e ewP h Q ?_
    rw [if_pos (cmp_lt (by omega)), if_pos ⟨by rw [List.length_take]; omega, he, rfl⟩]
    refine j_echoLetter l (fun h' e' a1 a2 l' => ?_)
    rw [vEC q hW (by omega), if_pos ⟨by omega, by omega, by rw [List.length_take]; omega⟩, take_s (by omega), wr1 (by omega)]
    exact ih (k + 1) (e' + 40) h' (by omega) (by omega) l' (fun h2 e2 c' U' b1 b2 l2 hU' => H h2 e2 c' U' (by omega) (by omega) l2 hU')
set_option maxRecDepth 4000 in
theorem lp_s79 {x : Int} {l1 l2 l3 l5 : Int} {j18 : eV} {e : Nat} {h : Nat → Nat → Int} (q : 0 ≤ x ∧ x < w 0) (hW : ¬ W.length = 0) (hz : wz W) (ct : ctB N w) (hU : HI N c U) (l : LI h w c U b r W []) (H : ∀ h' e' c' U', e ≤ e' → e' ≤ e + 2200 → LI h' w c' U' b r [] [] → HI N c' U' → Q (.inl (some (vI 1))) (eNT, e', ewP, h')) :
    eP X m_L_sounds 79 [vR 1, vI l1, vI l2, vI l3, vI x, vI l5, vJ, vJ, vJ, vJ, vJ, vJ, vJ, vJ, vJ, vJ, vJ, vJ, j18] [] (eNT, e, ewP, h) Q := by
  obtain ⟨N', R, T, ok⟩ := LI_0 l
  obtain ⟨v1, v2, v3, -⟩ := wl_i ok q
  have hW8 := LI_W l
  have n5 := v3.1
  have hE : (eE w x W).length ≤ 13 := by have := eEc_len (M := W) v3; show (eEc _ _ _).length ≤ 13; omega
  refine bk_L_sounds_79 X 1 l1 l2 l3 x l5 j18 eNT e ewP h Q ?_
  refine j_mark l (fun h1 e1 a1 a2 l1' => ?_)
  refine j_wouldGrade l1' (fun h2 e2 b1 b2 l2' => ?_)
  refine j_time l2' (fun h3 e3 c1 c2 l3' => ?_)
  refine j_wellOf l3' (fun h4 e4 d1 d2 l4' => ?_)
  refine j_account l4' (by omega) (fun h5 e5 f1 f2 l5' => ?_)
  refine j_echoLength l5' (fun h6 e6 g1 g2 l6' => ?_)
  rw [vWG q hW, vTi q, vW4 q, vEL q hW, show gJ (gAc w W [] c 4) = (W.length : Int) from rfl]
  refine bk_L_sounds_103 X 1 l1 l2 l3 x (mkV w) (gSh w x.toNat W) (fTime (wW w x.toNat) (wW w x.toNat 2).toNat) (fFrg (wW w x.toNat) 1 (wW w x.toNat 2).toNat) W.length (eE w x W).length j18 eNT e6 ewP h6 Q ?_
  exact lp_s107 q hW hz ct hU (eE w x W).length 0 (e6 + 1) h6 (by omega) (by omega) l6' (fun h7 e7 c' U' m1 m2 l7 hU' => H h7 e7 c' U' (by omega) (by omega) l7 hU')
set_option maxRecDepth 4000 in
theorem lp_s41 {x : Int} {l1 : Int} {bs D : Nat} (hD : 2200 ≤ D) (q : 0 ≤ x ∧ x < w 0) (hW : ¬ W.length = 0) (hz : wz W) (ct : ctB N w) (hU : HI N c U) (hb : (bs : Int) < w 0) (hbs : ∀ m : Nat, ((m : Nat) : Int) < w 0 → btr w W m bs = false) : ∀ (j k : Nat) (e : Nat) (h : Nat → Nat → Int) (j18 : eV), k + j = (w 0).toNat → LI h w c U b r W [] → (∀ h' e' c' U', e ≤ e' → e' ≤ e + (7 * j + D) → LI h' w c' U' b r [] [] → HI N c' U' → Q (.inl (some (vI 1))) (eNT, e', ewP, h')) →
    eP X m_L_sounds 41 [vR 1, vI l1, vI (w 0), vI (bs : Int), vI x, vI (k : Int), vJ, vJ, vJ, vJ, vJ, vJ, vJ, vJ, vJ, vJ, vJ, vJ, j18] [] (eNT, e, ewP, h) Q := by
  intro j
  induction j with
  | zero =>
    intro k e h j18 hk l H
    refine bk_L_sounds_41 X 1 l1 (w 0) bs x k j18 eNT e ewP h Q ?_
    rw [if_neg (by omega)]
    exact lp_s79 q hW hz ct hU l (fun h' e' c' U' a1 a2 l' hU' => H h' e' c' U' a1 (by omega) l' hU')
  | succ j ih =>
    intro k e h j18 hk l H
    obtain ⟨N', R, T, ok⟩ := LI_0 l
    have h0 := ok.1
    have h08 := ok.2.1
    have qk : 0 ≤ (k : Int) ∧ (k : Int) < w 0 := by omega
    have qb : 0 ≤ (bs : Int) ∧ (bs : Int) < w 0 := by omega
    have hbk := hbs k qk.2
    rw [btr_f] at hbk
    refine bk_L_sounds_41 X 1 l1 (w 0) bs x k j18 eNT e ewP h Q ?_
    rw [if_pos (by omega)]
    refine j_time l (fun h1 e1 a1 a2 l1' => ?_)
    refine j_timeAgain l1' (fun h2 e2 b1 b2 l2' => ?_)
    rw [if_pos (cmp_eq rfl)]
    refine j_wouldGrade l2' (fun h3 e3 c1 c2 l3' => ?_)
    refine j_wouldGrade l3' (fun h4 e4 d1 d2 l4' => ?_)
    rw [vWG qk hW, vWG qb hW, Int.toNat_natCast, Int.toNat_natCast, if_pos (cmp_le (by omega))]
    refine j_wouldGrade l4' (fun h5 e5 f1 f2 l5' => ?_)
    refine j_wouldGrade l5' (fun h6 e6 g1 g2 l6' => ?_)
    rw [vWG qk hW, vWG qb hW, Int.toNat_natCast, Int.toNat_natCast]
    by_cases hg : gSh w k W = gSh w bs W
    · rw [if_pos (cmp_eq hg)]
      refine j_isLater l6' (fun h7 e7 m1 m2 l7' => ?_)
      have ht : tm w (bs : Int) ≤ tm w (k : Int) := by
        show tmN w bs ≤ tmN w k
        omega
      rw [vIL qb qk, if_pos ht, if_neg (cmp_ne (show ¬ (0 : Int) = 1 by decide)), wr1 (by omega)]
      have z1 : e7 ≤ e + 7 := by omega
      have z2 : e ≤ e7 := by omega
      exact ih (k + 1) e7 h7 j18 (by omega) l7' (fun h' e' c' U' n1 n2 l' hU' => H h' e' c' U' (Nat.le_trans z2 n1) (by clear H ih hbs hbk hD; omega) l' hU')
    · rw [if_neg (cmp_ne hg), wr1 (by omega)]
      have z1 : e6 ≤ e + 7 := by omega
      have z2 : e ≤ e6 := by omega
      exact ih (k + 1) e6 h6 j18 (by omega) l6' (fun h' e' c' U' n1 n2 l' hU' => H h' e' c' U' (Nat.le_trans z2 n1) (by clear H ih hbs hbk hD; omega) l' hU')
set_option maxRecDepth 4000 in
theorem j_sounds {x : Int} {e : Nat} {h : Nat → Nat → Int} (hz : wz W) (ct : ctB N w) (hU : HI N c U) (l : LI h w c U b r W []) {KI KX} (H : ∀ h' e' c' U' W', e ≤ e' → e' ≤ e + 2600 → LI h' w c' U' b r W' [] → HI N c' U' → wz W' → KI 1 eNT e' ewP h') : eCi X m_L_sounds [vR 1, vI x] eNT e ewP h KI KX := by
  obtain ⟨N', R, T, ok⟩ := LI_0 l
  have h0 := ok.1
  have h08 := ok.2.1
  refine bk_L_sounds_0 X 1 x eNT e ewP h _ ?_
  refine j_account l (by omega) (fun h1 e1 a1 a2 l1 => ?_)
  rw [show gJ (gAc w W [] c 4) = (W.length : Int) from rfl]
  by_cases hW : W.length = 0
  · obtain rfl : W = [] := List.eq_nil_of_length_eq_zero hW
    rw [if_pos (cmp_eq (show (([] : List Int).length : Int) = 0 from rfl))]
    refine c_chosen (show ¬ (8 : Int) = 0 by decide) ?_
    have q1 := Int.tmod_nonneg (8 : Int) (Int.emod_nonneg x (show ¬ (2147483648 : Int) = 0 by decide))
    have q2 := Int.tmod_lt_of_pos (x % 2147483648) (show (0 : Int) < 8 by decide)
    generalize (x % 2147483648).tmod 8 = y at q1 q2 ⊢
    rw [if_neg (fun z => absurd z.1 (by decide)), if_neg (fun z => absurd z.1 (by decide)), if_pos ⟨rfl, q1, q2⟩]
    refine j_says (by omega) l1 (fun h5 W' w1 wz' l5 => ?_)
    have hW' : ¬ W'.length = 0 := by omega
    refine j_account l5 (by omega) (fun h2 e2 b1 b2 l2 => ?_)
    rw [show gJ (gAc w W' [] c 0) = w 0 from rfl, wrn (by omega) (by omega)]
    by_cases h00 : w 0 = 0
    · rw [if_pos h00]
      refine j_bestWell l2 (fun h3 e3 c1 c2 l3 => ?_)
      have hb : gJ (gBW w W') = jT1 := by
        have e9 : gBW w W' = (1, 0) := by unfold gBW; rw [if_pos (Or.inr h00)]
        rw [e9]; rfl
      rw [hb, if_pos (cmp_eq rfl), if_pos (Or.inr rfl)]
      exact H h3 e3 _ _ _ (by omega) (by omega) l3 hU wz'
    · rw [if_neg h00]
      refine j_bestWell l2 (fun h3 e3 c1 c2 l3 => ?_)
      obtain ⟨p1, p2⟩ := bw_sp (w := w) (W := W') ((w 0).toNat - 1) 1 0 (by omega) (fun m hm => by
        obtain rfl : m = 0 := by omega
        rw [btr_f]
        omega)
      have hbl : ((bwF w W' 1 ((w 0).toNat - 1) 0 : Nat) : Int) < w 0 := by omega
      rw [if_pos ⟨by decide, by decide⟩, vBW hW' h00, wrn (by omega) (by omega)]
      refine c_chosen h00 ?_
      obtain ⟨D, hD, hD2⟩ : ∃ D : Nat, 2200 ≤ D ∧ D ≤ 2200 := ⟨2200, Nat.le_refl _, Nat.le_refl _⟩
      exact lp_s41 hD ⟨Int.tmod_nonneg _ (Int.emod_nonneg _ (by decide)), Int.tmod_lt_of_pos _ (by omega)⟩ hW' wz' ct hU hbl (fun m hm => p2 m (by omega)) (w 0).toNat 0 e3 h3 vJ (by omega) l3 (fun h' e' c' U' n1 n2 l' hU' => H h' e' c' U' _ (by omega) (by omega) l' hU' (fun z hz' => absurd hz' List.not_mem_nil))
  · rw [if_neg (cmp_ne (by omega))]
    refine j_account l1 (by omega) (fun h2 e2 b1 b2 l2 => ?_)
    rw [show gJ (gAc w W [] c 0) = w 0 from rfl, wrn (by omega) (by omega)]
    by_cases h00 : w 0 = 0
    · rw [if_pos h00]
      refine j_bestWell l2 (fun h3 e3 c1 c2 l3 => ?_)
      have hb : gJ (gBW w W) = jT1 := by
        have e9 : gBW w W = (1, 0) := by unfold gBW; rw [if_pos (Or.inr h00)]
        rw [e9]; rfl
      rw [hb, if_pos (cmp_eq rfl), if_pos (Or.inr rfl)]
      exact H h3 e3 _ _ _ (by omega) (by omega) l3 hU hz
    · rw [if_neg h00]
      refine j_bestWell l2 (fun h3 e3 c1 c2 l3 => ?_)
      obtain ⟨p1, p2⟩ := bw_sp (w := w) (W := W) ((w 0).toNat - 1) 1 0 (by omega) (fun m hm => by
        obtain rfl : m = 0 := by omega
        rw [btr_f]
        omega)
      have hbl : ((bwF w W 1 ((w 0).toNat - 1) 0 : Nat) : Int) < w 0 := by omega
      rw [if_pos ⟨by decide, by decide⟩, vBW hW h00, wrn (by omega) (by omega)]
      refine c_chosen h00 ?_
      obtain ⟨D, hD, hD2⟩ : ∃ D : Nat, 2200 ≤ D ∧ D ≤ 2200 := ⟨2200, Nat.le_refl _, Nat.le_refl _⟩
      exact lp_s41 hD ⟨Int.tmod_nonneg _ (Int.emod_nonneg _ (by decide)), Int.tmod_lt_of_pos _ (by omega)⟩ hW hz ct hU hbl (fun m hm => p2 m (by omega)) (w 0).toNat 0 e3 h3 vJ (by omega) l3 (fun h' e' c' U' n1 n2 l' hU' => H h' e' c' U' _ (by omega) (by omega) l' hU' (fun z hz' => absurd hz' List.not_mem_nil))
end
