/-! the law -/
theorem HI_le {N M c : Nat} {U : Nat → Nat → Int} (q : N ≤ M) (h : HI N c U) : HI M c U := fun j hj => ctB_le q (h j hj)
def LWS (h : Nat → Nat → Int) (N : Nat) : Prop := ∃ w c U b r W, LI h w c U b r W [] ∧ ctB N w ∧ HI N c U ∧ wz W
theorem LWS_le {N M : Nat} {h : Nat → Nat → Int} (q : N ≤ M) (l : LWS h N) : LWS h M := by
  obtain ⟨w, c, U, b, r, W, l, ct, hU, hz⟩ := l
  exact ⟨w, c, U, b, r, W, l, ctB_le q ct, HI_le q hU, hz⟩
section
variable {X : eX} {w : Nat → Int} {c : Nat} {U : Nat → Nat → Int} {b : Bool} {r : Nat → Int} {W I : List Int} {Q : eO → eM → Prop} {N : Nat} {e : Nat} {h : Nat → Nat → Int}
theorem c_cell {x : Int} {KI KX} (hx : 0 ≤ x) (H : ∀ v, KI v eNT e ewP h) : eCi X m_L_cell [vR 1000, vI x] eNT e ewP h KI KX := by
  refine bk_L_cell_0 X 1000 x eNT e ewP h _ ?_
  rw [if_pos rfl]
  by_cases q : x < (X.1 : Int)
  · rw [if_pos q, if_pos ⟨rfl, hx, q⟩]
    exact H _
  · rw [if_neg q]
    exact H _
theorem LWS_AR {KJ : Int → Nat → Nat → (Nat → Nat → Nat) → (Nat → Nat → Int) → Prop} {e1 e2 : Nat} (l : LI h w c U b r W []) (ct : ctB N w) (hU : HI N c U) (H : ∀ v h' e', e1 ≤ e' → e' ≤ e2 → LWS h' (N + 60) → KJ v eNT e' ewP h') : AR KJ w c U b r N e1 e2 :=
  ⟨fun v h' e' W' _ a1 a2 hz' l' => H v h' e' a1 a2 ⟨w, c, U, b, r, W', l', ctB_le (by omega) ct, HI_le (by omega) hU, hz'⟩, fun v h' e' w' W' _ a1 a2 ct' hz' l' => H v h' e' a1 a2 ⟨w', pC c, pU2 c U w, b, r, W', l', ct', HI_p (ctB_le (by omega) ct) (HI_le (by omega) hU) (LI_c l), hz'⟩⟩
theorem lp_l6 : ∀ (j k : Nat) (e : Nat) (h : Nat → Nat → Int) (N : Nat) (j11 : eV), k + j = 3 → N + 120 * j < 90000 → LWS h N → (∀ h' e', e ≤ e' → e' ≤ e + 2 * j → LWS h' (N + 120 * j) → eP X m_L_law 49 [vR 1000, vR 1, vI 1, vJ, vJ, vJ, vJ, vJ, vJ, vJ, vJ, j11] [] (eNT, e', ewP, h') Q) → eP X m_L_law 6 [vR 1000, vR 1, vI (k : Int), vJ, vJ, vJ, vJ, vJ, vJ, vJ, vJ, j11] [] (eNT, e, ewP, h) Q := by
  intro j
  induction j with
  | zero =>
    intro k e h N j11 hk hN l H
    refine bk_L_law_6 X 1000 1 k j11 eNT e ewP h Q ?_
    rw [if_neg (by omega)]
    exact H h e (Nat.le_refl _) (by omega) l
  | succ j ih =>
    intro k e h N j11 hk hN ls H
    refine bk_L_law_6 X 1000 1 k j11 eNT e ewP h Q ?_
    rw [if_pos (by omega)]
    refine c_cell (by decide) (fun v1 => ?_)
    rw [wrn (x := 3 * (k : Int)) (by omega) (by omega), if_pos ⟨by omega, by omega⟩]
    refine c_chosen (by decide) ?_
    obtain ⟨w, c, U, b, r, W, l, ct, hU, hz⟩ := ls
    refine ac_dig (e1 := e) (e2 := e + 1) (LWS_AR l ct hU (fun v2 h2 e2 a1 a2 ls2 => ?_)) (Nat.le_refl _) (Nat.le_refl _) ct (by omega) hz l
    refine c_cell (by decide) (fun v3 => ?_)
    rw [wrn (x := 2 * (k : Int)) (by omega) (by omega), if_pos ⟨by omega, by omega⟩]
    refine c_chosen (by decide) ?_
    obtain ⟨w2, c2, U2, b2, r2, W2, l2, ct2, hU2, hz2⟩ := ls2
    refine ac_frog (e1 := e2) (e2 := e2 + 1) (LWS_AR l2 ct2 hU2 (fun v4 h4 e4 b1 b2 ls4 => ?_)) (Nat.le_refl _) (Nat.le_refl _) ct2 (by omega) hz2 l2
    rw [wr1 (by omega)]
    exact ih (k + 1) e4 h4 (N + 60 + 60) j11 (by omega) (by omega) ls4 (fun h5 e5 c1 c2 ls5 => H h5 e5 (by omega) (by omega) (LWS_le (by omega) ls5))
theorem s152 {l2 l3 l4 l6 l8 : Int} {j10 j11 : eV} (ls : LWS h N) (hN : N < 90000) (H : ∀ h' e', e ≤ e' → e' ≤ e + 7000 → LWS h' N → eP X m_L_law 49 [vR 1000, vR 1, vI (wr (l2 + 1)), vI l3, vL l4, vJ, vL l6, vJ, vL l8, vJ, vJ, j11] [] (eNT, e', ewP, h') Q) :
    eP X m_L_law 152 [vR 1000, vR 1, vI l2, vI l3, vL l4, vJ, vL l6, vJ, vL l8, vJ, j10, j11] [] (eNT, e, ewP, h) Q := by
  refine eP_j X (jle_of (a := [vR 1000, vR 1, vI l2, vI l3, vL l4, vJ, vL l6, vJ, vL l8, vJ, vJ, j11]) ⟨Or.inr rfl, Or.inr rfl, Or.inr rfl, Or.inr rfl, Or.inr rfl, Or.inr rfl, Or.inr rfl, Or.inr rfl, Or.inr rfl, Or.inr rfl, Or.inl rfl, Or.inr rfl, trivial⟩) ?_
  refine bk_L_law_152 X 1000 1 l2 l3 l4 l6 l8 j11 eNT e ewP h Q ?_
  rw [if_neg (by decide)]
  by_cases q : l2.tmod 3 = 1
  · rw [if_pos q, if_pos ⟨by decide, by decide⟩]
    obtain ⟨w, c, U, b, r, W, l, ct, hU, hz⟩ := ls
    refine j_fits hz ct (by omega) hU l (fun h1 e1 c1 U1 W1 a1 a2 l1 hU1 hz1 => ?_)
    rw [if_neg (by decide)]
    refine bk_L_law_165 X 1000 1 l2 l3 l4 l6 l8 j11 eNT e1 ewP h1 Q ?_
    exact H h1 e1 a1 a2 ⟨w, c1, U1, b, r, W1, l1, ct, hU1, hz1⟩
  · rw [if_neg q]
    refine bk_L_law_165 X 1000 1 l2 l3 l4 l6 l8 j11 eNT e ewP h Q ?_
    exact H h e (Nat.le_refl _) (by omega) ls
theorem s110 {l2 l3 l4 l6 l8 : Int} {j11 : eV} (ls : LWS h N) (hN : N < 90000) (H : ∀ h' e' j10' j11', e ≤ e' → e' ≤ e + 1010 → LWS h' N → eP X m_L_law 152 [vR 1000, vR 1, vI l2, vI l3, vL l4, vJ, vL l6, vJ, vL l8, vJ, j10', j11'] [] (eNT, e', ewP, h') Q) :
    eP X m_L_law 110 [vR 1000, vR 1, vI l2, vI l3, vL l4, vJ, vL l6, vJ, vL l8, vJ, vJ, j11] [] (eNT, e, ewP, h) Q := by
  refine bk_L_law_110 X 1000 1 l2 l3 l4 l6 l8 j11 eNT e ewP h Q ?_
  rw [if_neg (by decide)]
  by_cases q : l2.tmod 5 = 0
  · rw [if_pos q]
    obtain ⟨w, c, U, b, r, W, l, ct, hU, hz⟩ := ls
    refine j_mark l (fun h1 e1 a1 a2 l1 => ?_)
    rw [if_pos ck1]
    obtain ⟨k1, k2, L, f, l1⟩ := l1
    refine c_save l1 (fun h2 _ l2 => ?_)
    have l2' : LI h2 w c U true w W [] := ⟨_, _, _, _, l2⟩
    refine j_account l2' (by omega) (fun h3 e3 b1 b2 l3 => ?_)
    rw [if_pos (cmp_eq (show w 0 = gJ (gAc w W [] c 0) from rfl))]
    refine j_acts (e1 := e3) (e2 := e3 + 4) ⟨fun v h4 e4 W4 hv c1 c2 hz4 l4 => ?_, fun v h4 e4 w4 W4 hv c1 c2 ct4 hz4 l4 => ?_⟩ (Nat.le_refl _) (Nat.le_refl _) ct hN hz l3
    · refine j_restore l4 (fun h5 l5 => ?_)
      refine j_account l5 (by omega) (fun h6 e6 d1 d2 l6 => ?_)
      rw [if_pos (cmp_eq (show w 0 = gJ (gAc w W4 [] 0 0) from rfl))]
      refine j_mark l6 (fun h7 e7 f1 f2 l7 => ?_)
      rw [if_pos (cmp_eq rfl)]
      refine j_undo l7 (fun _ l8 => ?_) (fun z => absurd z (Nat.lt_irrefl _))
      rw [if_pos (cmp_eq rfl)]
      exact H h7 (e7 + 1) _ _ (by omega) (by omega) ⟨w, 0, _, true, w, W4, l8, ct, fun j hj => absurd hj (Nat.not_lt_zero _), hz4⟩
    · refine j_restore l4 (fun h5 l5 => ?_)
      refine j_account l5 (by omega) (fun h6 e6 d1 d2 l6 => ?_)
      rw [if_pos (cmp_eq (show w 0 = gJ (gAc w W4 [] 0 0) from rfl))]
      refine j_mark l6 (fun h7 e7 f1 f2 l7 => ?_)
      rw [if_pos (cmp_eq rfl)]
      refine j_undo l7 (fun _ l8 => ?_) (fun z => absurd z (Nat.lt_irrefl _))
      rw [if_pos (cmp_eq rfl)]
      exact H h7 (e7 + 1) _ _ (by omega) (by omega) ⟨w, 0, _, true, w, W4, l8, ct, fun j hj => absurd hj (Nat.not_lt_zero _), hz4⟩
  · rw [if_neg q]
    exact H h e _ _ (Nat.le_refl _) (by omega) ls
end
