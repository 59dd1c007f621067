/-! the second layer: what the methods do, as equations; first the layout -/
theorem ly_out : ∀ c, ewK c ≠ 0 → c < 577 := by
  intro c h
  rcases Nat.lt_or_ge c 577 with q | q
  · exact q
  · exfalso
    apply h
    have h1 : kdTbl.length = 19 := by decide +kernel
    have h2 : (kdTbl.getD 18 []).length = 1 := by decide +kernel
    unfold ewK
    by_cases h3 : c / 32 = 18
    · rw [h3, List.getD_eq_getElem?_getD, List.getElem?_eq_none (by omega)]
      rfl
    · rw [show kdTbl.getD (c / 32) [] = [] by rw [List.getD_eq_getElem?_getD, List.getElem?_eq_none (by omega)]; rfl]
      rfl
theorem kn_ly {c k : Nat} (h : ewK c = k) (hk : k ≠ 0) : kn ewK eNT c = k := by
  have := ly_out c (by rw [h]; exact hk)
  unfold kn
  rw [if_pos (by show c ≤ 576; omega)]
  exact h
theorem ly_4 : ∀ c, c < 577 → ewK c = 4 → ewP c 0 = c + 1 ∧ ewK (c + 1) = 21 ∧ ewL (c + 1) = 60 := by decide +kernel
theorem ly_10 : ∀ c, c < 577 → ewK c = 10 → ewP c 0 = c + 1 ∧ ewP c 1 = c + 2 ∧ ewP c 2 = c + 3 ∧ ewP c 3 = c + 4 ∧ ewK (c + 1) = 20 ∧ ewK (c + 2) = 20 ∧ ewK (c + 3) = 20 ∧ ewK (c + 4) = 22 ∧ ewL (c + 1) = 5 ∧ ewL (c + 2) = 5 ∧ ewL (c + 3) = 5 ∧ ewL (c + 4) = 5 := by decide +kernel
theorem ly_11 : ∀ b, b < 577 → ewK b = 11 → ewP b 0 = b + 1 ∧ ewP b 1 = b + 42 ∧ ewP b 2 = b + 46 ∧ ewK (b + 1) = 30 ∧ ewL (b + 1) = 8 ∧ ewK (b + 42) = 31 ∧ ewL (b + 42) = 3 ∧ ewK (b + 46) = 1 := by decide +kernel
theorem ly_11w : ∀ b, b < 577 → ewK b = 11 → ∀ i, i < 8 → ewP (b + 1) i = b + 2 + 5 * i ∧ ewK (b + 2 + 5 * i) = 10 := by decide +kernel
theorem ly_11r : ∀ b, b < 577 → ewK b = 11 → ∀ i, i < 3 → ewP (b + 42) i = b + 43 + i ∧ ewK (b + 43 + i) = 8 := by decide +kernel
theorem ly_1 : ∀ c, c < 577 → ewK c = 1 → ewP c 0 = c + 1 ∧ ewP c 1 = c + 2 ∧ ewK (c + 1) = 20 ∧ ewL (c + 1) = 30 ∧ ewK (c + 2) = 4 := by decide +kernel
section
variable {X : eX} {e : Nat} {h : Nat → Nat → Int}
/-- a letters object is there -/
theorem l4 {c : Nat} (hc : ewK c = 4) : kn ewK eNT c = 4 ∧ ewP c 0 = c + 1 ∧ kn ewK eNT (c + 1) = 21 ∧ ewL (c + 1) = 60 := by
  obtain ⟨h1, h2, h3⟩ := ly_4 c (ly_out c (by rw [hc]; decide)) hc
  exact ⟨kn_ly hc (by decide), h1, kn_ly h2 (by decide), h3⟩
theorem c_size {c : Nat} (hc : ewK c = 4) (KI KX) : eCi X m_X4_size [vR c] eNT e ewP h KI KX = KI (h c 1) eNT e ewP h := by
  refine eCi_eq X (fun Q H => ?_) KI KX
  refine bk_X4_size_0 X c eNT e ewP h Q ?_
  rw [if_pos (l4 hc).1]
  exact H
def lAt (h : Nat → Nat → Int) (c : Nat) (i : Int) : Int := if 0 ≤ i ∧ i < h c 1 ∧ i < 60 then h (c + 1) i.toNat else 0
/-- signs are chars -/
def lCh (h : Nat → Nat → Int) (c : Nat) : Prop := ∀ k, 0 ≤ h (c + 1) k ∧ h (c + 1) k < 65536
theorem c_at {c : Nat} {i : Int} (hc : ewK c = 4) (hch : lCh h c) (KI KX) : eCi X m_X4_at [vR c, vI i] eNT e ewP h KI KX = KI (lAt h c i) eNT e ewP h := by
  refine eCi_eq X (fun Q H => ?_) KI KX
  refine bk_X4_at_0 X c i eNT e ewP h Q ?_
  obtain ⟨h1, h2, h3, h4⟩ := l4 hc
  unfold lAt at H
  have h5 := hch i.toNat
  simp only [h1, h2, h3, h4, if_true]
  by_cases a1 : i < 0
  · rw [if_pos a1, if_pos (by decide)]
    rw [if_neg (by omega)] at H
    exact H
  · rw [if_neg a1]
    by_cases a2 : i < h c 1
    · rw [if_pos a2, if_pos (by decide)]
      by_cases a3 : i < ((60 : Nat) : Int)
      · rw [if_pos a3, if_pos ⟨trivial, by omega, a3⟩, if_pos h5]
        rw [if_pos (by omega)] at H
        exact H
      · rw [if_neg a3, if_pos (by decide)]
        rw [if_neg (by omega)] at H
        exact H
    · rw [if_neg a2, if_pos (by decide)]
      rw [if_neg (by omega)] at H
      exact H
end
theorem wrn {x : Int} (h1 : -2147483648 ≤ x) (h2 : x ≤ 2147483647) : wr x = x := by
  unfold wr
  rw [Int.bmod_def]
  omega
/-- the sum over k places from i on -/
def sumF (f : Nat → Int) : Nat → Nat → Int
  | _, 0 => 0
  | i, k + 1 => f i + sumF f (i + 1) k
theorem sumF_le {f : Nat → Int} {M : Int} (h0 : ∀ t, 0 ≤ f t) (hM : ∀ t, f t ≤ M) : ∀ k i, 0 ≤ sumF f i k ∧ sumF f i k ≤ k * M := by
  intro k
  induction k with
  | zero => intro i; simp [sumF]
  | succ k ih =>
    intro i
    have h1 := ih (i + 1)
    have h2 := h0 i
    have h3 := hM i
    simp only [sumF]
    refine ⟨by omega, ?_⟩
    have h4 : ((k + 1 : Nat) : Int) * M = k * M + M := by rw [Int.natCast_add, Int.add_mul]; simp
    omega
theorem sumF_congr {f g : Nat → Int} : ∀ k i, (∀ t, i ≤ t → t < i + k → f t = g t) → sumF f i k = sumF g i k := by
  intro k
  induction k with
  | zero => intro i _; rfl
  | succ k ih =>
    intro i h
    simp only [sumF]
    rw [h i (Nat.le_refl _) (by omega), ih (i + 1) (fun t h1 h2 => h t (by omega) (by omega))]
theorem eqT (a : Nat) : (a = a) = True := eq_self a
section
variable {h : Nat → Nat → Int}
/-- a well's cells -/
theorem w10 {c : Nat} (hc : ewK c = 10) : kn ewK eNT c = 10 ∧ ewP c 0 = c + 1 ∧ ewP c 1 = c + 2 ∧ ewP c 2 = c + 3 ∧ ewP c 3 = c + 4 ∧ kn ewK eNT (c + 1) = 20 ∧ kn ewK eNT (c + 2) = 20 ∧ kn ewK eNT (c + 3) = 20 ∧ kn ewK eNT (c + 4) = 22 ∧ ewL (c + 1) = 5 ∧ ewL (c + 2) = 5 ∧ ewL (c + 3) = 5 ∧ ewL (c + 4) = 5 := by
  obtain ⟨h1, h2, h3, h4, h5, h6, h7, h8, h9⟩ := ly_10 c (ly_out c (by rw [hc]; decide)) hc
  exact ⟨kn_ly hc (by decide), h1, h2, h3, h4, kn_ly h5 (by decide), kn_ly h6 (by decide), kn_ly h7 (by decide), kn_ly h8 (by decide), h9⟩
theorem b11 {b : Nat} (hb : ewK b = 11) : kn ewK eNT b = 11 ∧ ewP b 0 = b + 1 ∧ ewP b 1 = b + 42 ∧ ewP b 2 = b + 46 ∧ kn ewK eNT (b + 1) = 30 ∧ ewL (b + 1) = 8 ∧ kn ewK eNT (b + 42) = 31 ∧ ewL (b + 42) = 3 ∧ ewK (b + 46) = 1 := by
  obtain ⟨h1, h2, h3, h4, h5, h6, h7, h8⟩ := ly_11 b (ly_out b (by rw [hb]; decide)) hb
  exact ⟨kn_ly hb (by decide), h1, h2, h3, kn_ly h4 (by decide), h5, kn_ly h6 (by decide), h7, h8⟩
end
