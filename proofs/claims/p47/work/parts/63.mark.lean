/-! the mark of an object: a number of its row alone -/
theorem wr1 {k : Nat} (hk : k < 1000) : wr ((k : Int) + 1) = ((k + 1 : Nat) : Int) := by
  rw [wrn (by omega) (by omega)]
  rfl
theorem cmp_lt {x y : Int} (q : x < y) : (if x = y then (0 : Int) else if x < y then -1 else 1) < 0 := by
  rw [if_neg (by omega), if_pos q]
  decide
theorem cmp_ge {x y : Int} (q : y ≤ x) : ¬ (if x = y then (0 : Int) else if x < y then -1 else 1) < 0 := by
  by_cases h : x = y
  · rw [if_pos h]; decide
  · rw [if_neg h, if_neg (by omega)]; decide
def mSt (v x : Int) : Int := wl (wl (31 * v) + x)
def mFo (g : Nat → Int) : Nat → Nat → Int → Int
  | 0, _, v => v
  | n + 1, i, v => mFo g n (i + 1) (mSt v (g i))
/-- what the account says for the mark, place 4 left out -/
def gA (w : Nat → Int) (k : Nat) : Int := if k = 4 then 0 else gJ (gAc w [] [] 0 (k : Int))
theorem gA_eq {w : Nat → Int} {W I : List Int} {c k : Nat} (hk : k < 12) (h4 : k ≠ 4) : gJ (gAc w W I c (k : Int)) = gA w k := by
  unfold gA
  rw [if_neg h4]
  have h : k = 0 ∨ k = 1 ∨ k = 2 ∨ k = 3 ∨ k = 5 ∨ k = 6 ∨ k = 7 ∨ k = 8 ∨ k = 9 ∨ k = 10 ∨ k = 11 := by omega
  rcases h with rfl | rfl | rfl | rfl | rfl | rfl | rfl | rfl | rfl | rfl | rfl <;> rfl
def lat (w : Nat → Int) : List Int := (List.range (w 11).toNat).map (fun k => w (12 + k))
def mTh (w : Nat → Int) (i : Nat) : Nat → Nat → Int → Int
  | 0, _, v => v
  | n + 1, t, v => mTh w i n (t + 1) (mFo (fun k => gJ (gT w (i : Int) (t : Int) (k : Int))) 5 0 v)
def mWl (w : Nat → Int) : Nat → Nat → Int → Int
  | 0, _, v => v
  | n + 1, i, v => mWl w n (i + 1) (mTh w i (wW w i 2).toNat 0 (mFo (fun k => gJ (gW w (i : Int) (k : Int))) 8 0 v))
def mRp (w : Nat → Int) : Nat → Nat → Int → Int
  | 0, _, v => v
  | n + 1, i, v => mRp w n (i + 1) (mFo (fun k => gJ (gR w (i : Int) (k : Int))) 3 0 v)
def mBk (w : Nat → Int) : Nat → Nat → Int → Int
  | 0, _, v => v
  | n + 1, i, v => mBk w n (i + 1) (mFo (fun k => gJ (gB w (i : Int) (k : Int))) 5 0 v)
def mkV (w : Nat → Int) : Int := mFo (fun k => gJ (gCh (lat w) (k : Int))) (lat w).length 0 (mBk w 6 0 (mRp w (w 1).toNat 0 (mWl w (w 0).toNat 0 (mFo (gA w) 12 0 17))))
section
variable {X : eX} {w : Nat → Int} {c : Nat} {U : Nat → Nat → Int} {b : Bool} {r : Nat → Int} {W I : List Int} {Q : eO → eM → Prop}
theorem LI_0 {h : Nat → Nat → Int} (l : LI h w c U b r W I) : ∃ N R T, rOk w N R T := by
  obtain ⟨k1, k2, L, f, l⟩ := l
  obtain ⟨N, R, T, o, -⟩ := l.1
  exact ⟨N, R, T, o⟩
theorem lp_mk4 (j5 : eV) : ∀ (j k : Nat) (v : Int) (e : Nat) (h : Nat → Nat → Int), k + j = 12 → LI h w c U b r W I → (∀ h' e', e ≤ e' → e' ≤ e + j → LI h' w c U b r W I → eP X m_L_mark 24 [vR 1, vL (mFo (gA w) j k v), vJ, vI 0, vJ, j5] [] (eNT, e', ewP, h') Q) → eP X m_L_mark 4 [vR 1, vL v, vJ, vI (k : Int), vJ, j5] [] (eNT, e, ewP, h) Q := by
  intro j
  induction j with
  | zero =>
    intro k v e h hk l H
    refine bk_L_mark_4 X 1 v k j5 eNT e ewP h Q ?_
    rw [if_neg (by omega)]
    exact H h e (Nat.le_refl _) (Nat.le_refl _) l
  | succ j ih =>
    intro k v e h hk l H
    refine bk_L_mark_4 X 1 v k j5 eNT e ewP h Q ?_
    rw [if_pos (by omega)]
    by_cases h4 : k = 4
    · rw [if_pos (by omega), wr1 (by omega)]
      refine ih (k + 1) _ e h (by omega) l (fun h' e' h1 h2 l' => ?_)
      have H1 := H h' e' h1 (by omega) l'
      unfold mFo gA at H1
      rw [if_pos h4] at H1
      exact H1
    · rw [if_neg (by omega)]
      refine j_account l (by omega) (fun h' e' h1 h2 l' => ?_)
      rw [gA_eq (by omega) h4, wr1 (by omega)]
      exact ih (k + 1) _ e' h' (by omega) l' (fun h2' e2 h3 h4' l2 => H h2' e2 (by omega) (by omega) l2)
theorem lp_mk33 (i : Nat) (j5 : eV) : ∀ (j k : Nat) (v : Int) (e : Nat) (h : Nat → Nat → Int), k + j = 8 → LI h w c U b r W I → (∀ h' e', e ≤ e' → e' ≤ e + j → LI h' w c U b r W I → eP X m_L_mark 49 [vR 1, vL (mFo (fun k => gJ (gW w (i : Int) (k : Int))) j k v), vJ, vI (i : Int), vI 0, j5] [] (eNT, e', ewP, h') Q) → eP X m_L_mark 33 [vR 1, vL v, vJ, vI (i : Int), vI (k : Int), j5] [] (eNT, e, ewP, h) Q := by
  intro j
  induction j with
  | zero =>
    intro k v e h hk l H
    refine bk_L_mark_33 X 1 v i k j5 eNT e ewP h Q ?_
    rw [if_neg (by omega)]
    obtain rfl : k = 8 := by omega
    exact H h e (Nat.le_refl _) (Nat.le_refl _) l
  | succ j ih =>
    intro k v e h hk l H
    refine bk_L_mark_33 X 1 v i k j5 eNT e ewP h Q ?_
    rw [if_pos (by omega)]
    refine j_wellOf l (fun h' e' h1 h2 l' => ?_)
    rw [wr1 (by omega)]
    exact ih (k + 1) _ e' h' (by omega) l' (fun h2' e2 h3 h4 l2 => H h2' e2 (by omega) (by omega) l2)
theorem lp_mk89 (i : Nat) (hi : i < 900) (j5 : eV) : ∀ (j k : Nat) (v : Int) (e : Nat) (h : Nat → Nat → Int), k + j = 3 → LI h w c U b r W I → (∀ h' e', e ≤ e' → e' ≤ e + j → LI h' w c U b r W I → eP X m_L_mark 80 [vR 1, vL (mFo (fun k => gJ (gR w (i : Int) (k : Int))) j k v), vJ, vI (wr ((i : Int) + 1)), vI 3, j5] [] (eNT, e', ewP, h') Q) → eP X m_L_mark 89 [vR 1, vL v, vJ, vI (i : Int), vI (k : Int), j5] [] (eNT, e, ewP, h) Q := by
  intro j
  induction j with
  | zero =>
    intro k v e h hk l H
    refine bk_L_mark_89 X 1 v i k j5 eNT e ewP h Q ?_
    rw [if_neg (by omega)]
    obtain rfl : k = 3 := by omega
    exact H h e (Nat.le_refl _) (Nat.le_refl _) l
  | succ j ih =>
    intro k v e h hk l H
    refine bk_L_mark_89 X 1 v i k j5 eNT e ewP h Q ?_
    rw [if_pos (by omega)]
    refine j_ropeOf l (fun h' e' h1 h2 l' => ?_)
    rw [wr1 (by omega)]
    exact ih (k + 1) _ e' h' (by omega) l' (fun h2' e2 h3 h4 l2 => H h2' e2 (by omega) (by omega) l2)
theorem lp_mk112 (i : Nat) (hi : i < 900) (j5 : eV) : ∀ (j k : Nat) (v : Int) (e : Nat) (h : Nat → Nat → Int), k + j = 5 → LI h w c U b r W I → (∀ h' e', e ≤ e' → e' ≤ e + j → LI h' w c U b r W I → eP X m_L_mark 107 [vR 1, vL (mFo (fun k => gJ (gB w (i : Int) (k : Int))) j k v), vJ, vI (wr ((i : Int) + 1)), vI 5, j5] [] (eNT, e', ewP, h') Q) → eP X m_L_mark 112 [vR 1, vL v, vJ, vI (i : Int), vI (k : Int), j5] [] (eNT, e, ewP, h) Q := by
  intro j
  induction j with
  | zero =>
    intro k v e h hk l H
    refine bk_L_mark_112 X 1 v i k j5 eNT e ewP h Q ?_
    rw [if_neg (by omega)]
    obtain rfl : k = 5 := by omega
    exact H h e (Nat.le_refl _) (Nat.le_refl _) l
  | succ j ih =>
    intro k v e h hk l H
    refine bk_L_mark_112 X 1 v i k j5 eNT e ewP h Q ?_
    rw [if_pos (by omega)]
    refine j_bookOf l (fun h' e' h1 h2 l' => ?_)
    rw [wr1 (by omega)]
    exact ih (k + 1) _ e' h' (by omega) l' (fun h2' e2 h3 h4 l2 => H h2' e2 (by omega) (by omega) l2)
theorem lp_mk59 (i t : Nat) : ∀ (j k : Nat) (v : Int) (e : Nat) (h : Nat → Nat → Int), k + j = 5 → LI h w c U b r W I → (∀ h' e', e ≤ e' → e' ≤ e + j → LI h' w c U b r W I → eP X m_L_mark 49 [vR 1, vL (mFo (fun k => gJ (gT w (i : Int) (t : Int) (k : Int))) j k v), vJ, vI (i : Int), vI (wr ((t : Int) + 1)), vI 5] [] (eNT, e', ewP, h') Q) → eP X m_L_mark 59 [vR 1, vL v, vJ, vI (i : Int), vI (t : Int), vI (k : Int)] [] (eNT, e, ewP, h) Q := by
  intro j
  induction j with
  | zero =>
    intro k v e h hk l H
    refine bk_L_mark_59 X 1 v i t k eNT e ewP h Q ?_
    rw [if_neg (by omega)]
    obtain rfl : k = 5 := by omega
    exact H h e (Nat.le_refl _) (Nat.le_refl _) l
  | succ j ih =>
    intro k v e h hk l H
    refine bk_L_mark_59 X 1 v i t k eNT e ewP h Q ?_
    rw [if_pos (by omega)]
    refine j_thingOf l (fun h' e' h1 h2 l' => ?_)
    rw [wr1 (by omega)]
    exact ih (k + 1) _ e' h' (by omega) l' (fun h2' e2 h3 h4 l2 => H h2' e2 (by omega) (by omega) l2)
end
