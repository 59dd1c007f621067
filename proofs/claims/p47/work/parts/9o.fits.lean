/-! what the law asks of orders and accounts -/
section
variable {X : eX} {w : Nat → Int} {c : Nat} {U : Nat → Nat → Int} {b : Bool} {r : Nat → Int} {W I : List Int} {Q : eO → eM → Prop} {N : Nat}
theorem vWy {x y : Int} (q : 0 ≤ x ∧ x < w 0) (hy : y = 0 ∨ y = 2 ∨ y = 5) : gJ (gW w x y) = if y = 0 then wW w x.toNat 0 else if y = 2 then wW w x.toNat 2 else wW w x.toNat 3 := by
  unfold gW
  rw [if_pos q]
  rcases hy with rfl | rfl | rfl <;> rfl
theorem s51 {l1 kk i l6 : Int} {a d : Nat} {j7 : eV} {e : Nat} {h : Nat → Nat → Int} (hk : kk = 0 ∧ l6 = 0 ∨ kk = 1 ∨ kk = 2 ∧ l6 = 2 ∨ kk = 3 ∧ l6 = 5) (qa : (a : Int) < w 0) (qd : (d : Int) < w 0) (ho : msF w kk d ≤ msF w kk a) (l : LI h w c U b r W I) (H : ∀ h' e', e ≤ e' → e' ≤ e + 2 → LI h' w c U b r W I → eP X m_L_fits 19 [vR 1, vI l1, vI kk, vI (wr (i + 1)), vI (a : Int), vI (d : Int), vI l6, vI 0] [] (eNT, e', ewP, h') Q) :
    eP X m_L_fits 51 [vR 1, vI l1, vI kk, vI i, vI (a : Int), vI (d : Int), vI l6, j7] [] (eNT, e, ewP, h) Q := by
  refine bk_L_fits_51 X 1 l1 kk i a d l6 j7 eNT e ewP h Q ?_
  have pa : 0 ≤ (a : Int) ∧ (a : Int) < w 0 := ⟨by omega, qa⟩
  have pd : 0 ≤ (d : Int) ∧ (d : Int) < w 0 := ⟨by omega, qd⟩
  by_cases g1 : kk = 1
  · subst g1
    rw [if_pos rfl]
    refine j_time l (fun h1 e1 a1 a2 l1 => ?_)
    refine j_time l1 (fun h2 e2 b1 b2 l2 => ?_)
    have ho2 : fTime (wW w (d : Int).toNat) (wW w (d : Int).toNat 2).toNat ≤ fTime (wW w (a : Int).toNat) (wW w (a : Int).toNat 2).toNat := ho
    rw [vTi pa, vTi pd, if_neg (cmp_ge ho2)]
    refine bk_L_fits_80 X 1 _ 1 i a d l6 0 eNT e2 ewP h2 Q ?_
    rw [if_pos rfl]
    exact H h2 e2 (by omega) (by omega) l2
  · rw [if_neg g1]
    have hy : l6 = 0 ∨ l6 = 2 ∨ l6 = 5 := by omega
    refine j_wellOf l (fun h1 e1 a1 a2 l1 => ?_)
    refine j_wellOf l1 (fun h2 e2 b1 b2 l2 => ?_)
    have ho' : gJ (gW w (d : Int) l6) ≤ gJ (gW w (a : Int) l6) := by
      rw [vWy pa hy, vWy pd hy]
      rcases hk with ⟨rfl, rfl⟩ | hk | ⟨rfl, rfl⟩ | ⟨rfl, rfl⟩
      · exact ho
      · exact absurd hk g1
      · exact ho
      · exact ho
    rw [if_neg (cmp_ge ho')]
    refine bk_L_fits_80 X 1 _ kk i a d l6 0 eNT e2 ewP h2 Q ?_
    rw [if_pos rfl]
    exact H h2 e2 (by omega) (by omega) l2
theorem lp_f19 {l1 kk : Int} (hk : 0 ≤ kk ∧ kk ≤ 3) : ∀ (j i : Nat) (e : Nat) (h : Nat → Nat → Int) (j4 j5 j6 j7 : eV), 1 ≤ i → i ≤ 1000 → w 0 ≤ 8 → w 0 ≤ i + j → LI h w c U b r W I → (∀ h' e' (i' : Int) j4' j5' j6' j7', e ≤ e' → e' ≤ e + (5 * j + 1) → LI h' w c U b r W I → eP X m_L_fits 14 [vR 1, vI l1, vI (wr (kk + 1)), vI i', j4', j5', j6', j7'] [] (eNT, e', ewP, h') Q) →
    eP X m_L_fits 19 [vR 1, vI l1, vI kk, vI (i : Int), j4, j5, j6, j7] [] (eNT, e, ewP, h) Q := by
  intro j
  induction j with
  | zero =>
    intro i e h j4 j5 j6 j7 hi hi2 h8 hw l H
    refine eP_j X (jle_of (a := [vR 1, vI l1, vI kk, vI (i : Int), vJ, vJ, vJ, j7]) ⟨Or.inr rfl, Or.inr rfl, Or.inr rfl, Or.inr rfl, Or.inl rfl, Or.inl rfl, Or.inl rfl, Or.inr rfl, trivial⟩) ?_
    refine bk_L_fits_19 X 1 l1 kk i j7 eNT e ewP h Q ?_
    refine j_account l (by omega) (fun h1 e1 a1 a2 l1' => ?_)
    rw [show gJ (gAc w W I c 0) = w 0 from rfl, if_neg (cmp_ge (by omega))]
    exact H h1 e1 i _ _ _ _ (by omega) (by omega) l1'
  | succ j ih =>
    intro i e h j4 j5 j6 j7 hi hi2 h8 hw l H
    refine eP_j X (jle_of (a := [vR 1, vI l1, vI kk, vI (i : Int), vJ, vJ, vJ, j7]) ⟨Or.inr rfl, Or.inr rfl, Or.inr rfl, Or.inr rfl, Or.inl rfl, Or.inl rfl, Or.inl rfl, Or.inr rfl, trivial⟩) ?_
    refine bk_L_fits_19 X 1 l1 kk i j7 eNT e ewP h Q ?_
    refine j_account l (by omega) (fun h1 e1 a1 a2 l1' => ?_)
    rw [show gJ (gAc w W I c 0) = w 0 from rfl]
    by_cases q : (i : Int) < w 0
    · rw [if_pos (cmp_lt q)]
      refine j_ranked l1' (fun h2 e2 b1 b2 l2 => ?_)
      refine j_ranked l2 (fun h3 e3 c1 c2 l3 => ?_)
      rw [wrn (x := (i : Int) - 1) (by omega) (by omega), show (i : Int) - 1 = ((i - 1 : Nat) : Int) by omega]
      obtain ⟨a, g1, g2, g3⟩ := gRk_sp (w := w) hk (x := i - 1) (by omega)
      obtain ⟨d, g4, g5, g6⟩ := gRk_sp (w := w) hk (x := i) q
      have ho := rk_ord (w := w) (y := kk) (N := (w 0).toNat) (a := a) (b := d) (by omega) (by omega)
      rw [g1, g4, wrn (x := (a : Int)) (by omega) (by omega), wrn (x := (d : Int)) (by omega) (by omega)]
      have G : ∀ l6 : Int, ∀ h' e', e3 ≤ e' → e' ≤ e3 + 2 → LI h' w c U b r W I → eP X m_L_fits 19 [vR 1, vI l1, vI kk, vI (wr ((i : Int) + 1)), vI (a : Int), vI (d : Int), vI l6, vI 0] [] (eNT, e', ewP, h') Q := by
        intro l6 h4 e4 d1 d2 l4
        rw [wr1 (by omega)]
        exact ih (i + 1) e4 h4 _ _ _ _ (by omega) (by omega) h8 (by omega) l4 (fun h5 e5 i' j4' j5' j6' j7' f1 f2 l5 => H h5 e5 i' j4' j5' j6' j7' (by omega) (by omega) l5)
      by_cases k0 : kk = 0
      · rw [if_pos k0]
        exact s51 (Or.inl ⟨k0, rfl⟩) g2 g5 ho l3 (G 0)
      rw [if_neg k0]
      by_cases k2 : kk = 2
      · rw [if_pos k2]
        exact s51 (Or.inr (Or.inr (Or.inl ⟨k2, rfl⟩))) g2 g5 ho l3 (G 2)
      · rw [if_neg k2]
        exact s51 (by omega) g2 g5 ho l3 (G 5)
    · rw [if_neg (cmp_ge (by omega))]
      exact H h1 e1 i _ _ _ _ (by omega) (by omega) l1'
theorem lp_f14 {l1 : Int} (ct : ctB N w) (hN : N < 100000) : ∀ (j k : Nat) (e : Nat) (h : Nat → Nat → Int) (j3 j4 j5 j6 j7 : eV), k + j = 4 → w 0 ≤ 8 → LI h w c U b r W I → (∀ h' e', e ≤ e' → e' ≤ e + (41 * j + 4) → LI h' w c U b r W I → Q (.inl (some (vI 1))) (eNT, e', ewP, h')) →
    eP X m_L_fits 14 [vR 1, vI l1, vI (k : Int), j3, j4, j5, j6, j7] [] (eNT, e, ewP, h) Q := by
  intro j
  induction j with
  | zero =>
    intro k e h j3 j4 j5 j6 j7 hk h8 l H
    obtain rfl : k = 4 := by omega
    refine eP_j X (jle_of (a := [vR 1, vI l1, vI ((4 : Nat) : Int), vJ, vJ, vJ, vJ, j7]) ⟨Or.inr rfl, Or.inr rfl, Or.inr rfl, Or.inl rfl, Or.inl rfl, Or.inl rfl, Or.inl rfl, Or.inr rfl, trivial⟩) ?_
    refine bk_L_fits_14 X 1 l1 ((4 : Nat) : Int) j7 eNT e ewP h Q ?_
    rw [if_neg (by decide)]
    refine j_account l (by omega) (fun h1 e1 a1 a2 l1 => ?_)
    refine j_account l1 (by omega) (fun h2 e2 b1 b2 l2 => ?_)
    refine j_account l2 (by omega) (fun h3 e3 c1 c2 l3 => ?_)
    refine j_account l3 (by omega) (fun h4 e4 d1 d2 l4 => ?_)
    rw [show gJ (gAc w W I c 9) = w 6 from rfl, show gJ (gAc w W I c 6) = w 3 from rfl, show gJ (gAc w W I c 8) = w 5 from rfl, show gJ (gAc w W I c 7) = w 4 from rfl]
    have ct' := ct
    unfold ctB at ct'
    rw [wln (x := w 3 + w 5) (by omega) (by omega), wln (by omega) (by omega), if_pos (cmp_eq (by omega)), if_pos (Or.inr rfl)]
    exact H h4 e4 (by omega) (by omega) l4
  | succ j ih =>
    intro k e h j3 j4 j5 j6 j7 hk h8 l H
    refine eP_j X (jle_of (a := [vR 1, vI l1, vI (k : Int), vJ, vJ, vJ, vJ, j7]) ⟨Or.inr rfl, Or.inr rfl, Or.inr rfl, Or.inl rfl, Or.inl rfl, Or.inl rfl, Or.inl rfl, Or.inr rfl, trivial⟩) ?_
    refine bk_L_fits_14 X 1 l1 k j7 eNT e ewP h Q ?_
    rw [if_pos (by omega)]
    exact lp_f19 (kk := (k : Int)) ⟨by omega, by omega⟩ 8 1 e h _ _ _ _ (by omega) (by omega) h8 (by omega) l (fun h' e' i' j4' j5' j6' j7' a1 a2 l' => by
      rw [wr1 (by omega)]
      exact ih (k + 1) e' h' _ _ _ _ _ (by omega) h8 l' (fun h2 e2 b1 b2 l2 => H h2 e2 (by omega) (by omega) l2))
theorem j_fits {x : Int} {e : Nat} {h : Nat → Nat → Int} (hz : wz W) (ct : ctB N w) (hN : N < 100000) (hU : HI N c U) (l : LI h w c U b r W []) {KI KX} (H : ∀ h' e' c' U' W', e ≤ e' → e' ≤ e + 7000 → LI h' w c' U' b r W' [] → HI N c' U' → wz W' → KI 1 eNT e' ewP h') : eCi X m_L_fits [vR 1, vI x] eNT e ewP h KI KX := by
  obtain ⟨N', R, T, ok⟩ := LI_0 l
  have h8 : w 0 ≤ 8 := by have h0 := ok.1; have h8 := ok.2.1; omega
  refine bk_L_fits_0 X 1 x eNT e ewP h _ ?_
  rw [if_pos ck1]
  obtain ⟨k1, k2, L, f, l⟩ := l
  refine c_isTold l (fun h1 _ l1 => ?_)
  have l1' : LI h1 w c U b r W [] := ⟨_, _, _, _, l1⟩
  have ct' := ct
  unfold ctB at ct'
  have ht : tld w = 1 := by
    unfold tld
    rw [wrn (x := w 3 + w 5) (by omega) (by omega), wrn (by omega) (by omega), if_pos (by omega)]
  rw [ht, if_neg (by decide)]
  refine j_ropes ct l1' hU (fun h2 e2 c2 U2 a1 a2 l2 hU2 => ?_)
  rw [if_neg (by decide)]
  refine j_sounds hz ct hU2 l2 (fun h3 e3 c3 U3 W3 b1 b2 l3 hU3 hz3 => ?_)
  rw [if_neg (by decide)]
  exact lp_f14 ct hN 4 0 e3 h3 _ _ _ _ _ rfl h8 l3 (fun h4 e4 d1 d2 l4 => H h4 e4 _ _ _ (by omega) (by omega) l4 hU3 hz3)
end
