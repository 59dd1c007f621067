/-! a run of the small machine is a run of the JVM -/
def eSum : Nat → Nat
  | 0 => 0
  | n + 1 => eSum n + eSz (n + 1)
theorem eSum_le {a b : Nat} (h : a ≤ b) : eSum a ≤ eSum b := by
  induction b with
  | zero => rw [show a = 0 by omega]; exact Nat.le_refl _
  | succ b ih =>
    by_cases hab : a = b + 1
    · rw [hab]; exact Nat.le_refl _
    · have h1 := ih (by omega)
      show eSum a ≤ eSum b + eSz (b + 1)
      omega
def eCc (μ : eM) : Nat := μ.1 + μ.2.1
def eSs (μ : eM) : Nat := eSum μ.1 + 6 * μ.2.1
def opsL : List Nat := [0, 1, 2, 3, 4, 5, 6, 7, 8, 9, 10, 11, 12, 13, 14, 15, 16, 17, 18, 19, 20, 21, 22, 23, 24, 25, 26, 29, 30, 31, 32, 33, 34, 38, 39, 40, 41, 42, 43, 45, 49, 50, 51, 54, 57, 67, 68, 69, 70, 71, 72, 73, 74, 75, 76, 77, 78, 79, 80, 81, 82, 83, 84, 85, 86, 87, 88, 89, 90, 91, 92, 93, 94, 95, 96, 97, 99]
theorem chk_op {m i op a b k : Nat} {v : Int} {tg : List Nat} : chk m i (op, a, b, k, v, tg) = true → op ∈ opsL := by
  intro h
  unfold chk at h
  dsimp only at h
  split at h <;> first | (cases h; done) | decide
theorem lk_c {x : Int} {F : Nat → Nat × List eV × List eV × eM} {y : (Nat × List eV × List eV) ⊕ (eO × eM)} : ∀ (k : Nat) (tg : List Nat) (d : Nat), tg.length ≤ k → eLk x (fun t => (some (.inl (F t)) : eA)) d tg = some (.inr y) → False := by
  intro k
  induction k with
  | zero =>
    intro tg d h h2
    have : tg = [] := List.eq_nil_of_length_eq_zero (by omega)
    subst this
    cases h2
  | succ k ih =>
    intro tg d h h2
    match tg, h, h2 with
    | [], _, h2 => cases h2
    | [_], _, h2 => cases h2
    | a :: t :: r, h, h2 =>
      unfold eLk at h2
      split at h2
      · cases h2
      · exact ih r d (by simp at h; omega) h2
section
variable {X : eX}
theorem nc_0 {pc a b k : Nat} {v : Int} {tg : List Nat} {ls st : List eV} {μ : eM} {y : Nat × List eV × List eV} (hs : eSel ewK ewL ewT X pc (0, a, b, k, v, tg) ls st μ = some (.inr (.inl y))) : False := by
  obtain ⟨n, e0, pp, hh⟩ := μ
  rw [sl_0] at hs
  repeat' split at hs
  all_goals cases hs
theorem ne_0 {pc a b k : Nat} {v : Int} {tg : List Nat} {ls st : List eV} {μ : eM} {y : eO × eM} (hs : eSel ewK ewL ewT X pc (0, a, b, k, v, tg) ls st μ = some (.inr (.inr y))) : False := by
  obtain ⟨n, e0, pp, hh⟩ := μ
  rw [sl_0] at hs
  repeat' split at hs
  all_goals cases hs
theorem nc_1 {pc a b k : Nat} {v : Int} {tg : List Nat} {ls st : List eV} {μ : eM} {y : Nat × List eV × List eV} (hs : eSel ewK ewL ewT X pc (1, a, b, k, v, tg) ls st μ = some (.inr (.inl y))) : False := by
  obtain ⟨n, e0, pp, hh⟩ := μ
  rw [sl_1] at hs
  repeat' split at hs
  all_goals cases hs
theorem ne_1 {pc a b k : Nat} {v : Int} {tg : List Nat} {ls st : List eV} {μ : eM} {y : eO × eM} (hs : eSel ewK ewL ewT X pc (1, a, b, k, v, tg) ls st μ = some (.inr (.inr y))) : False := by
  obtain ⟨n, e0, pp, hh⟩ := μ
  rw [sl_1] at hs
  repeat' split at hs
  all_goals cases hs
theorem nc_2 {pc a b k : Nat} {v : Int} {tg : List Nat} {ls st : List eV} {μ : eM} {y : Nat × List eV × List eV} (hs : eSel ewK ewL ewT X pc (2, a, b, k, v, tg) ls st μ = some (.inr (.inl y))) : False := by
  obtain ⟨n, e0, pp, hh⟩ := μ
  rw [sl_2] at hs
  repeat' split at hs
  all_goals cases hs
theorem ne_2 {pc a b k : Nat} {v : Int} {tg : List Nat} {ls st : List eV} {μ : eM} {y : eO × eM} (hs : eSel ewK ewL ewT X pc (2, a, b, k, v, tg) ls st μ = some (.inr (.inr y))) : False := by
  obtain ⟨n, e0, pp, hh⟩ := μ
  rw [sl_2] at hs
  repeat' split at hs
  all_goals cases hs
theorem nc_4 {pc a b k : Nat} {v : Int} {tg : List Nat} {ls st : List eV} {μ : eM} {y : Nat × List eV × List eV} (hs : eSel ewK ewL ewT X pc (4, a, b, k, v, tg) ls st μ = some (.inr (.inl y))) : False := by
  obtain ⟨n, e0, pp, hh⟩ := μ
  rw [sl_4] at hs
  repeat' split at hs
  all_goals cases hs
theorem ne_4 {pc a b k : Nat} {v : Int} {tg : List Nat} {ls st : List eV} {μ : eM} {y : eO × eM} (hs : eSel ewK ewL ewT X pc (4, a, b, k, v, tg) ls st μ = some (.inr (.inr y))) : False := by
  obtain ⟨n, e0, pp, hh⟩ := μ
  rw [sl_4] at hs
  repeat' split at hs
  all_goals cases hs
theorem nc_5 {pc a b k : Nat} {v : Int} {tg : List Nat} {ls st : List eV} {μ : eM} {y : Nat × List eV × List eV} (hs : eSel ewK ewL ewT X pc (5, a, b, k, v, tg) ls st μ = some (.inr (.inl y))) : False := by
  obtain ⟨n, e0, pp, hh⟩ := μ
  rw [sl_5] at hs
  repeat' split at hs
  all_goals cases hs
theorem ne_5 {pc a b k : Nat} {v : Int} {tg : List Nat} {ls st : List eV} {μ : eM} {y : eO × eM} (hs : eSel ewK ewL ewT X pc (5, a, b, k, v, tg) ls st μ = some (.inr (.inr y))) : False := by
  obtain ⟨n, e0, pp, hh⟩ := μ
  rw [sl_5] at hs
  repeat' split at hs
  all_goals cases hs
theorem nc_7 {pc a b k : Nat} {v : Int} {tg : List Nat} {ls st : List eV} {μ : eM} {y : Nat × List eV × List eV} (hs : eSel ewK ewL ewT X pc (7, a, b, k, v, tg) ls st μ = some (.inr (.inl y))) : False := by
  obtain ⟨n, e0, pp, hh⟩ := μ
  rw [sl_7] at hs
  repeat' split at hs
  all_goals cases hs
theorem ne_7 {pc a b k : Nat} {v : Int} {tg : List Nat} {ls st : List eV} {μ : eM} {y : eO × eM} (hs : eSel ewK ewL ewT X pc (7, a, b, k, v, tg) ls st μ = some (.inr (.inr y))) : False := by
  obtain ⟨n, e0, pp, hh⟩ := μ
  rw [sl_7] at hs
  repeat' split at hs
  all_goals cases hs
theorem nc_8 {pc a b k : Nat} {v : Int} {tg : List Nat} {ls st : List eV} {μ : eM} {y : Nat × List eV × List eV} (hs : eSel ewK ewL ewT X pc (8, a, b, k, v, tg) ls st μ = some (.inr (.inl y))) : False := by
  obtain ⟨n, e0, pp, hh⟩ := μ
  rw [sl_8] at hs
  repeat' split at hs
  all_goals cases hs
theorem ne_8 {pc a b k : Nat} {v : Int} {tg : List Nat} {ls st : List eV} {μ : eM} {y : eO × eM} (hs : eSel ewK ewL ewT X pc (8, a, b, k, v, tg) ls st μ = some (.inr (.inr y))) : False := by
  obtain ⟨n, e0, pp, hh⟩ := μ
  rw [sl_8] at hs
  repeat' split at hs
  all_goals cases hs
theorem nc_9 {pc a b k : Nat} {v : Int} {tg : List Nat} {ls st : List eV} {μ : eM} {y : Nat × List eV × List eV} (hs : eSel ewK ewL ewT X pc (9, a, b, k, v, tg) ls st μ = some (.inr (.inl y))) : False := by
  obtain ⟨n, e0, pp, hh⟩ := μ
  rw [sl_9] at hs
  repeat' split at hs
  all_goals cases hs
theorem ne_9 {pc a b k : Nat} {v : Int} {tg : List Nat} {ls st : List eV} {μ : eM} {y : eO × eM} (hs : eSel ewK ewL ewT X pc (9, a, b, k, v, tg) ls st μ = some (.inr (.inr y))) : False := by
  obtain ⟨n, e0, pp, hh⟩ := μ
  rw [sl_9] at hs
  repeat' split at hs
  all_goals cases hs
theorem nc_10 {pc a b k : Nat} {v : Int} {tg : List Nat} {ls st : List eV} {μ : eM} {y : Nat × List eV × List eV} (hs : eSel ewK ewL ewT X pc (10, a, b, k, v, tg) ls st μ = some (.inr (.inl y))) : False := by
  obtain ⟨n, e0, pp, hh⟩ := μ
  rw [sl_10] at hs
  repeat' split at hs
  all_goals cases hs
theorem ne_10 {pc a b k : Nat} {v : Int} {tg : List Nat} {ls st : List eV} {μ : eM} {y : eO × eM} (hs : eSel ewK ewL ewT X pc (10, a, b, k, v, tg) ls st μ = some (.inr (.inr y))) : False := by
  obtain ⟨n, e0, pp, hh⟩ := μ
  rw [sl_10] at hs
  repeat' split at hs
  all_goals cases hs
theorem nc_11 {pc a b k : Nat} {v : Int} {tg : List Nat} {ls st : List eV} {μ : eM} {y : Nat × List eV × List eV} (hs : eSel ewK ewL ewT X pc (11, a, b, k, v, tg) ls st μ = some (.inr (.inl y))) : False := by
  obtain ⟨n, e0, pp, hh⟩ := μ
  rw [sl_11] at hs
  repeat' split at hs
  all_goals cases hs
theorem ne_11 {pc a b k : Nat} {v : Int} {tg : List Nat} {ls st : List eV} {μ : eM} {y : eO × eM} (hs : eSel ewK ewL ewT X pc (11, a, b, k, v, tg) ls st μ = some (.inr (.inr y))) : False := by
  obtain ⟨n, e0, pp, hh⟩ := μ
  rw [sl_11] at hs
  repeat' split at hs
  all_goals cases hs
theorem nc_12 {pc a b k : Nat} {v : Int} {tg : List Nat} {ls st : List eV} {μ : eM} {y : Nat × List eV × List eV} (hs : eSel ewK ewL ewT X pc (12, a, b, k, v, tg) ls st μ = some (.inr (.inl y))) : False := by
  obtain ⟨n, e0, pp, hh⟩ := μ
  rw [sl_12] at hs
  repeat' split at hs
  all_goals cases hs
theorem ne_12 {pc a b k : Nat} {v : Int} {tg : List Nat} {ls st : List eV} {μ : eM} {y : eO × eM} (hs : eSel ewK ewL ewT X pc (12, a, b, k, v, tg) ls st μ = some (.inr (.inr y))) : False := by
  obtain ⟨n, e0, pp, hh⟩ := μ
  rw [sl_12] at hs
  repeat' split at hs
  all_goals cases hs
theorem nc_13 {pc a b k : Nat} {v : Int} {tg : List Nat} {ls st : List eV} {μ : eM} {y : Nat × List eV × List eV} (hs : eSel ewK ewL ewT X pc (13, a, b, k, v, tg) ls st μ = some (.inr (.inl y))) : False := by
  obtain ⟨n, e0, pp, hh⟩ := μ
  rw [sl_13] at hs
  repeat' split at hs
  all_goals cases hs
theorem ne_13 {pc a b k : Nat} {v : Int} {tg : List Nat} {ls st : List eV} {μ : eM} {y : eO × eM} (hs : eSel ewK ewL ewT X pc (13, a, b, k, v, tg) ls st μ = some (.inr (.inr y))) : False := by
  obtain ⟨n, e0, pp, hh⟩ := μ
  rw [sl_13] at hs
  repeat' split at hs
  all_goals cases hs
theorem nc_14 {pc a b k : Nat} {v : Int} {tg : List Nat} {ls st : List eV} {μ : eM} {y : Nat × List eV × List eV} (hs : eSel ewK ewL ewT X pc (14, a, b, k, v, tg) ls st μ = some (.inr (.inl y))) : False := by
  obtain ⟨n, e0, pp, hh⟩ := μ
  rw [sl_14] at hs
  repeat' split at hs
  all_goals cases hs
theorem ne_14 {pc a b k : Nat} {v : Int} {tg : List Nat} {ls st : List eV} {μ : eM} {y : eO × eM} (hs : eSel ewK ewL ewT X pc (14, a, b, k, v, tg) ls st μ = some (.inr (.inr y))) : False := by
  obtain ⟨n, e0, pp, hh⟩ := μ
  rw [sl_14] at hs
  repeat' split at hs
  all_goals cases hs
theorem nc_15 {pc a b k : Nat} {v : Int} {tg : List Nat} {ls st : List eV} {μ : eM} {y : Nat × List eV × List eV} (hs : eSel ewK ewL ewT X pc (15, a, b, k, v, tg) ls st μ = some (.inr (.inl y))) : False := by
  obtain ⟨n, e0, pp, hh⟩ := μ
  rw [sl_15] at hs
  repeat' split at hs
  all_goals cases hs
theorem ne_15 {pc a b k : Nat} {v : Int} {tg : List Nat} {ls st : List eV} {μ : eM} {y : eO × eM} (hs : eSel ewK ewL ewT X pc (15, a, b, k, v, tg) ls st μ = some (.inr (.inr y))) : False := by
  obtain ⟨n, e0, pp, hh⟩ := μ
  rw [sl_15] at hs
  repeat' split at hs
  all_goals cases hs
theorem nc_16 {pc a b k : Nat} {v : Int} {tg : List Nat} {ls st : List eV} {μ : eM} {y : Nat × List eV × List eV} (hs : eSel ewK ewL ewT X pc (16, a, b, k, v, tg) ls st μ = some (.inr (.inl y))) : False := by
  obtain ⟨n, e0, pp, hh⟩ := μ
  rw [sl_16] at hs
  repeat' split at hs
  all_goals cases hs
theorem ne_16 {pc a b k : Nat} {v : Int} {tg : List Nat} {ls st : List eV} {μ : eM} {y : eO × eM} (hs : eSel ewK ewL ewT X pc (16, a, b, k, v, tg) ls st μ = some (.inr (.inr y))) : False := by
  obtain ⟨n, e0, pp, hh⟩ := μ
  rw [sl_16] at hs
  repeat' split at hs
  all_goals cases hs
theorem nc_18 {pc a b k : Nat} {v : Int} {tg : List Nat} {ls st : List eV} {μ : eM} {y : Nat × List eV × List eV} (hs : eSel ewK ewL ewT X pc (18, a, b, k, v, tg) ls st μ = some (.inr (.inl y))) : False := by
  obtain ⟨n, e0, pp, hh⟩ := μ
  rw [sl_18] at hs
  repeat' split at hs
  all_goals cases hs
theorem ne_18 {pc a b k : Nat} {v : Int} {tg : List Nat} {ls st : List eV} {μ : eM} {y : eO × eM} (hs : eSel ewK ewL ewT X pc (18, a, b, k, v, tg) ls st μ = some (.inr (.inr y))) : False := by
  obtain ⟨n, e0, pp, hh⟩ := μ
  rw [sl_18] at hs
  repeat' split at hs
  all_goals cases hs
theorem nc_19 {pc a b k : Nat} {v : Int} {tg : List Nat} {ls st : List eV} {μ : eM} {y : Nat × List eV × List eV} (hs : eSel ewK ewL ewT X pc (19, a, b, k, v, tg) ls st μ = some (.inr (.inl y))) : False := by
  obtain ⟨n, e0, pp, hh⟩ := μ
  rw [sl_19] at hs
  repeat' split at hs
  all_goals cases hs
theorem ne_19 {pc a b k : Nat} {v : Int} {tg : List Nat} {ls st : List eV} {μ : eM} {y : eO × eM} (hs : eSel ewK ewL ewT X pc (19, a, b, k, v, tg) ls st μ = some (.inr (.inr y))) : False := by
  obtain ⟨n, e0, pp, hh⟩ := μ
  rw [sl_19] at hs
  repeat' split at hs
  all_goals cases hs
theorem nc_20 {pc a b k : Nat} {v : Int} {tg : List Nat} {ls st : List eV} {μ : eM} {y : Nat × List eV × List eV} (hs : eSel ewK ewL ewT X pc (20, a, b, k, v, tg) ls st μ = some (.inr (.inl y))) : False := by
  obtain ⟨n, e0, pp, hh⟩ := μ
  rw [sl_20] at hs
  repeat' split at hs
  all_goals cases hs
theorem ne_20 {pc a b k : Nat} {v : Int} {tg : List Nat} {ls st : List eV} {μ : eM} {y : eO × eM} (hs : eSel ewK ewL ewT X pc (20, a, b, k, v, tg) ls st μ = some (.inr (.inr y))) : False := by
  obtain ⟨n, e0, pp, hh⟩ := μ
  rw [sl_20] at hs
  repeat' split at hs
  all_goals cases hs
theorem nc_21 {pc a b k : Nat} {v : Int} {tg : List Nat} {ls st : List eV} {μ : eM} {y : Nat × List eV × List eV} (hs : eSel ewK ewL ewT X pc (21, a, b, k, v, tg) ls st μ = some (.inr (.inl y))) : False := by
  obtain ⟨n, e0, pp, hh⟩ := μ
  rw [sl_21] at hs
  repeat' split at hs
  all_goals cases hs
theorem ne_21 {pc a b k : Nat} {v : Int} {tg : List Nat} {ls st : List eV} {μ : eM} {y : eO × eM} (hs : eSel ewK ewL ewT X pc (21, a, b, k, v, tg) ls st μ = some (.inr (.inr y))) : False := by
  obtain ⟨n, e0, pp, hh⟩ := μ
  rw [sl_21] at hs
  repeat' split at hs
  all_goals cases hs
theorem nc_22 {pc a b k : Nat} {v : Int} {tg : List Nat} {ls st : List eV} {μ : eM} {y : Nat × List eV × List eV} (hs : eSel ewK ewL ewT X pc (22, a, b, k, v, tg) ls st μ = some (.inr (.inl y))) : False := by
  obtain ⟨n, e0, pp, hh⟩ := μ
  rw [sl_22] at hs
  repeat' split at hs
  all_goals cases hs
theorem ne_22 {pc a b k : Nat} {v : Int} {tg : List Nat} {ls st : List eV} {μ : eM} {y : eO × eM} (hs : eSel ewK ewL ewT X pc (22, a, b, k, v, tg) ls st μ = some (.inr (.inr y))) : False := by
  obtain ⟨n, e0, pp, hh⟩ := μ
  rw [sl_22] at hs
  repeat' split at hs
  all_goals cases hs
theorem nc_25 {pc a b k : Nat} {v : Int} {tg : List Nat} {ls st : List eV} {μ : eM} {y : Nat × List eV × List eV} (hs : eSel ewK ewL ewT X pc (25, a, b, k, v, tg) ls st μ = some (.inr (.inl y))) : False := by
  obtain ⟨n, e0, pp, hh⟩ := μ
  rw [sl_25] at hs
  repeat' split at hs
  all_goals cases hs
theorem ne_25 {pc a b k : Nat} {v : Int} {tg : List Nat} {ls st : List eV} {μ : eM} {y : eO × eM} (hs : eSel ewK ewL ewT X pc (25, a, b, k, v, tg) ls st μ = some (.inr (.inr y))) : False := by
  obtain ⟨n, e0, pp, hh⟩ := μ
  rw [sl_25] at hs
  repeat' split at hs
  all_goals cases hs
theorem nc_29 {pc a b k : Nat} {v : Int} {tg : List Nat} {ls st : List eV} {μ : eM} {y : Nat × List eV × List eV} (hs : eSel ewK ewL ewT X pc (29, a, b, k, v, tg) ls st μ = some (.inr (.inl y))) : False := by
  obtain ⟨n, e0, pp, hh⟩ := μ
  rw [sl_29] at hs
  repeat' split at hs
  all_goals cases hs
theorem ne_29 {pc a b k : Nat} {v : Int} {tg : List Nat} {ls st : List eV} {μ : eM} {y : eO × eM} (hs : eSel ewK ewL ewT X pc (29, a, b, k, v, tg) ls st μ = some (.inr (.inr y))) : False := by
  obtain ⟨n, e0, pp, hh⟩ := μ
  rw [sl_29] at hs
  repeat' split at hs
  all_goals cases hs
theorem nc_30 {pc a b k : Nat} {v : Int} {tg : List Nat} {ls st : List eV} {μ : eM} {y : Nat × List eV × List eV} (hs : eSel ewK ewL ewT X pc (30, a, b, k, v, tg) ls st μ = some (.inr (.inl y))) : False := by
  obtain ⟨n, e0, pp, hh⟩ := μ
  rw [sl_30] at hs
  repeat' split at hs
  all_goals cases hs
theorem ne_30 {pc a b k : Nat} {v : Int} {tg : List Nat} {ls st : List eV} {μ : eM} {y : eO × eM} (hs : eSel ewK ewL ewT X pc (30, a, b, k, v, tg) ls st μ = some (.inr (.inr y))) : False := by
  obtain ⟨n, e0, pp, hh⟩ := μ
  rw [sl_30] at hs
  repeat' split at hs
  all_goals cases hs
theorem nc_32 {pc a b k : Nat} {v : Int} {tg : List Nat} {ls st : List eV} {μ : eM} {y : Nat × List eV × List eV} (hs : eSel ewK ewL ewT X pc (32, a, b, k, v, tg) ls st μ = some (.inr (.inl y))) : False := by
  obtain ⟨n, e0, pp, hh⟩ := μ
  rw [sl_32] at hs
  repeat' split at hs
  all_goals cases hs
theorem ne_32 {pc a b k : Nat} {v : Int} {tg : List Nat} {ls st : List eV} {μ : eM} {y : eO × eM} (hs : eSel ewK ewL ewT X pc (32, a, b, k, v, tg) ls st μ = some (.inr (.inr y))) : False := by
  obtain ⟨n, e0, pp, hh⟩ := μ
  rw [sl_32] at hs
  repeat' split at hs
  all_goals cases hs
theorem nc_33 {pc a b k : Nat} {v : Int} {tg : List Nat} {ls st : List eV} {μ : eM} {y : Nat × List eV × List eV} (hs : eSel ewK ewL ewT X pc (33, a, b, k, v, tg) ls st μ = some (.inr (.inl y))) : False := by
  obtain ⟨n, e0, pp, hh⟩ := μ
  rw [sl_33] at hs
  repeat' split at hs
  all_goals cases hs
theorem ne_33 {pc a b k : Nat} {v : Int} {tg : List Nat} {ls st : List eV} {μ : eM} {y : eO × eM} (hs : eSel ewK ewL ewT X pc (33, a, b, k, v, tg) ls st μ = some (.inr (.inr y))) : False := by
  obtain ⟨n, e0, pp, hh⟩ := μ
  rw [sl_33] at hs
  repeat' split at hs
  all_goals cases hs
theorem nc_34 {pc a b k : Nat} {v : Int} {tg : List Nat} {ls st : List eV} {μ : eM} {y : Nat × List eV × List eV} (hs : eSel ewK ewL ewT X pc (34, a, b, k, v, tg) ls st μ = some (.inr (.inl y))) : False := by
  obtain ⟨n, e0, pp, hh⟩ := μ
  rw [sl_34] at hs
  repeat' split at hs
  all_goals cases hs
theorem ne_34 {pc a b k : Nat} {v : Int} {tg : List Nat} {ls st : List eV} {μ : eM} {y : eO × eM} (hs : eSel ewK ewL ewT X pc (34, a, b, k, v, tg) ls st μ = some (.inr (.inr y))) : False := by
  obtain ⟨n, e0, pp, hh⟩ := μ
  rw [sl_34] at hs
  repeat' split at hs
  all_goals cases hs
theorem nc_38 {pc a b k : Nat} {v : Int} {tg : List Nat} {ls st : List eV} {μ : eM} {y : Nat × List eV × List eV} (hs : eSel ewK ewL ewT X pc (38, a, b, k, v, tg) ls st μ = some (.inr (.inl y))) : False := by
  obtain ⟨n, e0, pp, hh⟩ := μ
  rw [sl_38] at hs
  repeat' split at hs
  all_goals cases hs
theorem ne_38 {pc a b k : Nat} {v : Int} {tg : List Nat} {ls st : List eV} {μ : eM} {y : eO × eM} (hs : eSel ewK ewL ewT X pc (38, a, b, k, v, tg) ls st μ = some (.inr (.inr y))) : False := by
  obtain ⟨n, e0, pp, hh⟩ := μ
  rw [sl_38] at hs
  repeat' split at hs
  all_goals cases hs
theorem nc_39 {pc a b k : Nat} {v : Int} {tg : List Nat} {ls st : List eV} {μ : eM} {y : Nat × List eV × List eV} (hs : eSel ewK ewL ewT X pc (39, a, b, k, v, tg) ls st μ = some (.inr (.inl y))) : False := by
  obtain ⟨n, e0, pp, hh⟩ := μ
  rw [sl_39] at hs
  repeat' split at hs
  all_goals cases hs
theorem ne_39 {pc a b k : Nat} {v : Int} {tg : List Nat} {ls st : List eV} {μ : eM} {y : eO × eM} (hs : eSel ewK ewL ewT X pc (39, a, b, k, v, tg) ls st μ = some (.inr (.inr y))) : False := by
  obtain ⟨n, e0, pp, hh⟩ := μ
  rw [sl_39] at hs
  repeat' split at hs
  all_goals cases hs
theorem nc_41 {pc a b k : Nat} {v : Int} {tg : List Nat} {ls st : List eV} {μ : eM} {y : Nat × List eV × List eV} (hs : eSel ewK ewL ewT X pc (41, a, b, k, v, tg) ls st μ = some (.inr (.inl y))) : False := by
  obtain ⟨n, e0, pp, hh⟩ := μ
  rw [sl_41] at hs
  repeat' split at hs
  all_goals cases hs
theorem ne_41 {pc a b k : Nat} {v : Int} {tg : List Nat} {ls st : List eV} {μ : eM} {y : eO × eM} (hs : eSel ewK ewL ewT X pc (41, a, b, k, v, tg) ls st μ = some (.inr (.inr y))) : False := by
  obtain ⟨n, e0, pp, hh⟩ := μ
  rw [sl_41] at hs
  repeat' split at hs
  all_goals cases hs
theorem nc_42 {pc a b k : Nat} {v : Int} {tg : List Nat} {ls st : List eV} {μ : eM} {y : Nat × List eV × List eV} (hs : eSel ewK ewL ewT X pc (42, a, b, k, v, tg) ls st μ = some (.inr (.inl y))) : False := by
  obtain ⟨n, e0, pp, hh⟩ := μ
  rw [sl_42] at hs
  repeat' split at hs
  all_goals cases hs
theorem ne_42 {pc a b k : Nat} {v : Int} {tg : List Nat} {ls st : List eV} {μ : eM} {y : eO × eM} (hs : eSel ewK ewL ewT X pc (42, a, b, k, v, tg) ls st μ = some (.inr (.inr y))) : False := by
  obtain ⟨n, e0, pp, hh⟩ := μ
  rw [sl_42] at hs
  repeat' split at hs
  all_goals cases hs
theorem nc_43 {pc a b k : Nat} {v : Int} {tg : List Nat} {ls st : List eV} {μ : eM} {y : Nat × List eV × List eV} (hs : eSel ewK ewL ewT X pc (43, a, b, k, v, tg) ls st μ = some (.inr (.inl y))) : False := by
  obtain ⟨n, e0, pp, hh⟩ := μ
  rw [sl_43] at hs
  repeat' split at hs
  all_goals cases hs
theorem ne_43 {pc a b k : Nat} {v : Int} {tg : List Nat} {ls st : List eV} {μ : eM} {y : eO × eM} (hs : eSel ewK ewL ewT X pc (43, a, b, k, v, tg) ls st μ = some (.inr (.inr y))) : False := by
  obtain ⟨n, e0, pp, hh⟩ := μ
  rw [sl_43] at hs
  repeat' split at hs
  all_goals cases hs
theorem nc_45 {pc a b k : Nat} {v : Int} {tg : List Nat} {ls st : List eV} {μ : eM} {y : Nat × List eV × List eV} (hs : eSel ewK ewL ewT X pc (45, a, b, k, v, tg) ls st μ = some (.inr (.inl y))) : False := by
  obtain ⟨n, e0, pp, hh⟩ := μ
  rw [sl_45] at hs
  repeat' split at hs
  all_goals cases hs
theorem ne_45 {pc a b k : Nat} {v : Int} {tg : List Nat} {ls st : List eV} {μ : eM} {y : eO × eM} (hs : eSel ewK ewL ewT X pc (45, a, b, k, v, tg) ls st μ = some (.inr (.inr y))) : False := by
  obtain ⟨n, e0, pp, hh⟩ := μ
  rw [sl_45] at hs
  repeat' split at hs
  all_goals cases hs
theorem nc_49 {pc a b k : Nat} {v : Int} {tg : List Nat} {ls st : List eV} {μ : eM} {y : Nat × List eV × List eV} (hs : eSel ewK ewL ewT X pc (49, a, b, k, v, tg) ls st μ = some (.inr (.inl y))) : False := by
  obtain ⟨n, e0, pp, hh⟩ := μ
  rw [sl_49] at hs
  repeat' split at hs
  all_goals cases hs
theorem ne_49 {pc a b k : Nat} {v : Int} {tg : List Nat} {ls st : List eV} {μ : eM} {y : eO × eM} (hs : eSel ewK ewL ewT X pc (49, a, b, k, v, tg) ls st μ = some (.inr (.inr y))) : False := by
  obtain ⟨n, e0, pp, hh⟩ := μ
  rw [sl_49] at hs
  repeat' split at hs
  all_goals cases hs
theorem nc_50 {pc a b k : Nat} {v : Int} {tg : List Nat} {ls st : List eV} {μ : eM} {y : Nat × List eV × List eV} (hs : eSel ewK ewL ewT X pc (50, a, b, k, v, tg) ls st μ = some (.inr (.inl y))) : False := by
  obtain ⟨n, e0, pp, hh⟩ := μ
  rw [sl_50] at hs
  repeat' split at hs
  all_goals cases hs
theorem ne_50 {pc a b k : Nat} {v : Int} {tg : List Nat} {ls st : List eV} {μ : eM} {y : eO × eM} (hs : eSel ewK ewL ewT X pc (50, a, b, k, v, tg) ls st μ = some (.inr (.inr y))) : False := by
  obtain ⟨n, e0, pp, hh⟩ := μ
  rw [sl_50] at hs
  repeat' split at hs
  all_goals cases hs
theorem nc_51 {pc a b k : Nat} {v : Int} {tg : List Nat} {ls st : List eV} {μ : eM} {y : Nat × List eV × List eV} (hs : eSel ewK ewL ewT X pc (51, a, b, k, v, tg) ls st μ = some (.inr (.inl y))) : False := by
  obtain ⟨n, e0, pp, hh⟩ := μ
  rw [sl_51] at hs
  repeat' split at hs
  all_goals cases hs
theorem ne_51 {pc a b k : Nat} {v : Int} {tg : List Nat} {ls st : List eV} {μ : eM} {y : eO × eM} (hs : eSel ewK ewL ewT X pc (51, a, b, k, v, tg) ls st μ = some (.inr (.inr y))) : False := by
  obtain ⟨n, e0, pp, hh⟩ := μ
  rw [sl_51] at hs
  repeat' split at hs
  all_goals cases hs
theorem nc_54 {pc a b k : Nat} {v : Int} {tg : List Nat} {ls st : List eV} {μ : eM} {y : Nat × List eV × List eV} (hs : eSel ewK ewL ewT X pc (54, a, b, k, v, tg) ls st μ = some (.inr (.inl y))) : False := by
  obtain ⟨n, e0, pp, hh⟩ := μ
  rw [sl_54] at hs
  repeat' split at hs
  all_goals cases hs
theorem ne_54 {pc a b k : Nat} {v : Int} {tg : List Nat} {ls st : List eV} {μ : eM} {y : eO × eM} (hs : eSel ewK ewL ewT X pc (54, a, b, k, v, tg) ls st μ = some (.inr (.inr y))) : False := by
  obtain ⟨n, e0, pp, hh⟩ := μ
  rw [sl_54] at hs
  repeat' split at hs
  all_goals cases hs
theorem nc_57 {pc a b k : Nat} {v : Int} {tg : List Nat} {ls st : List eV} {μ : eM} {y : Nat × List eV × List eV} (hs : eSel ewK ewL ewT X pc (57, a, b, k, v, tg) ls st μ = some (.inr (.inl y))) : False := by
  obtain ⟨n, e0, pp, hh⟩ := μ
  rw [sl_57] at hs
  repeat' split at hs
  all_goals cases hs
theorem ne_57 {pc a b k : Nat} {v : Int} {tg : List Nat} {ls st : List eV} {μ : eM} {y : eO × eM} (hs : eSel ewK ewL ewT X pc (57, a, b, k, v, tg) ls st μ = some (.inr (.inr y))) : False := by
  obtain ⟨n, e0, pp, hh⟩ := μ
  rw [sl_57] at hs
  repeat' split at hs
  all_goals cases hs
theorem nc_67 {pc a b k : Nat} {v : Int} {tg : List Nat} {ls st : List eV} {μ : eM} {y : Nat × List eV × List eV} (hs : eSel ewK ewL ewT X pc (67, a, b, k, v, tg) ls st μ = some (.inr (.inl y))) : False := by
  obtain ⟨n, e0, pp, hh⟩ := μ
  rw [sl_67] at hs
  repeat' split at hs
  all_goals cases hs
theorem ne_67 {pc a b k : Nat} {v : Int} {tg : List Nat} {ls st : List eV} {μ : eM} {y : eO × eM} (hs : eSel ewK ewL ewT X pc (67, a, b, k, v, tg) ls st μ = some (.inr (.inr y))) : False := by
  obtain ⟨n, e0, pp, hh⟩ := μ
  rw [sl_67] at hs
  repeat' split at hs
  all_goals cases hs
theorem nc_68 {pc a b k : Nat} {v : Int} {tg : List Nat} {ls st : List eV} {μ : eM} {y : Nat × List eV × List eV} (hs : eSel ewK ewL ewT X pc (68, a, b, k, v, tg) ls st μ = some (.inr (.inl y))) : False := by
  obtain ⟨n, e0, pp, hh⟩ := μ
  rw [sl_68] at hs
  repeat' split at hs
  all_goals cases hs
theorem ne_68 {pc a b k : Nat} {v : Int} {tg : List Nat} {ls st : List eV} {μ : eM} {y : eO × eM} (hs : eSel ewK ewL ewT X pc (68, a, b, k, v, tg) ls st μ = some (.inr (.inr y))) : False := by
  obtain ⟨n, e0, pp, hh⟩ := μ
  rw [sl_68] at hs
  repeat' split at hs
  all_goals cases hs
theorem nc_69 {pc a b k : Nat} {v : Int} {tg : List Nat} {ls st : List eV} {μ : eM} {y : Nat × List eV × List eV} (hs : eSel ewK ewL ewT X pc (69, a, b, k, v, tg) ls st μ = some (.inr (.inl y))) : False := by
  obtain ⟨n, e0, pp, hh⟩ := μ
  rw [sl_69] at hs
  repeat' split at hs
  all_goals cases hs
theorem ne_69 {pc a b k : Nat} {v : Int} {tg : List Nat} {ls st : List eV} {μ : eM} {y : eO × eM} (hs : eSel ewK ewL ewT X pc (69, a, b, k, v, tg) ls st μ = some (.inr (.inr y))) : False := by
  obtain ⟨n, e0, pp, hh⟩ := μ
  rw [sl_69] at hs
  repeat' split at hs
  all_goals cases hs
theorem nc_74 {pc a b k : Nat} {v : Int} {tg : List Nat} {ls st : List eV} {μ : eM} {y : Nat × List eV × List eV} (hs : eSel ewK ewL ewT X pc (74, a, b, k, v, tg) ls st μ = some (.inr (.inl y))) : False := by
  obtain ⟨n, e0, pp, hh⟩ := μ
  rw [sl_74] at hs
  repeat' split at hs
  all_goals cases hs
theorem ne_74 {pc a b k : Nat} {v : Int} {tg : List Nat} {ls st : List eV} {μ : eM} {y : eO × eM} (hs : eSel ewK ewL ewT X pc (74, a, b, k, v, tg) ls st μ = some (.inr (.inr y))) : False := by
  obtain ⟨n, e0, pp, hh⟩ := μ
  rw [sl_74] at hs
  repeat' split at hs
  all_goals cases hs
theorem nc_77 {pc a b k : Nat} {v : Int} {tg : List Nat} {ls st : List eV} {μ : eM} {y : Nat × List eV × List eV} (hs : eSel ewK ewL ewT X pc (77, a, b, k, v, tg) ls st μ = some (.inr (.inl y))) : False := by
  obtain ⟨n, e0, pp, hh⟩ := μ
  rw [sl_77] at hs
  repeat' split at hs
  all_goals cases hs
theorem ne_77 {pc a b k : Nat} {v : Int} {tg : List Nat} {ls st : List eV} {μ : eM} {y : eO × eM} (hs : eSel ewK ewL ewT X pc (77, a, b, k, v, tg) ls st μ = some (.inr (.inr y))) : False := by
  obtain ⟨n, e0, pp, hh⟩ := μ
  rw [sl_77] at hs
  repeat' split at hs
  all_goals cases hs
theorem nc_78 {pc a b k : Nat} {v : Int} {tg : List Nat} {ls st : List eV} {μ : eM} {y : Nat × List eV × List eV} (hs : eSel ewK ewL ewT X pc (78, a, b, k, v, tg) ls st μ = some (.inr (.inl y))) : False := by
  obtain ⟨n, e0, pp, hh⟩ := μ
  rw [sl_78] at hs
  repeat' split at hs
  all_goals cases hs
theorem ne_78 {pc a b k : Nat} {v : Int} {tg : List Nat} {ls st : List eV} {μ : eM} {y : eO × eM} (hs : eSel ewK ewL ewT X pc (78, a, b, k, v, tg) ls st μ = some (.inr (.inr y))) : False := by
  obtain ⟨n, e0, pp, hh⟩ := μ
  rw [sl_78] at hs
  repeat' split at hs
  all_goals cases hs
theorem nc_80 {pc a b k : Nat} {v : Int} {tg : List Nat} {ls st : List eV} {μ : eM} {y : Nat × List eV × List eV} (hs : eSel ewK ewL ewT X pc (80, a, b, k, v, tg) ls st μ = some (.inr (.inl y))) : False := by
  obtain ⟨n, e0, pp, hh⟩ := μ
  rw [sl_80] at hs
  repeat' split at hs
  all_goals cases hs
theorem ne_80 {pc a b k : Nat} {v : Int} {tg : List Nat} {ls st : List eV} {μ : eM} {y : eO × eM} (hs : eSel ewK ewL ewT X pc (80, a, b, k, v, tg) ls st μ = some (.inr (.inr y))) : False := by
  obtain ⟨n, e0, pp, hh⟩ := μ
  rw [sl_80] at hs
  repeat' split at hs
  all_goals cases hs
theorem nc_82 {pc a b k : Nat} {v : Int} {tg : List Nat} {ls st : List eV} {μ : eM} {y : Nat × List eV × List eV} (hs : eSel ewK ewL ewT X pc (82, a, b, k, v, tg) ls st μ = some (.inr (.inl y))) : False := by
  obtain ⟨n, e0, pp, hh⟩ := μ
  rw [sl_82] at hs
  split at hs
  · exact lk_c _ _ _ (Nat.le_refl _) hs
  · cases hs
theorem ne_82 {pc a b k : Nat} {v : Int} {tg : List Nat} {ls st : List eV} {μ : eM} {y : eO × eM} (hs : eSel ewK ewL ewT X pc (82, a, b, k, v, tg) ls st μ = some (.inr (.inr y))) : False := by
  obtain ⟨n, e0, pp, hh⟩ := μ
  rw [sl_82] at hs
  split at hs
  · exact lk_c _ _ _ (Nat.le_refl _) hs
  · cases hs
theorem nc_83 {pc a b k : Nat} {v : Int} {tg : List Nat} {ls st : List eV} {μ : eM} {y : Nat × List eV × List eV} (hs : eSel ewK ewL ewT X pc (83, a, b, k, v, tg) ls st μ = some (.inr (.inl y))) : False := by
  obtain ⟨n, e0, pp, hh⟩ := μ
  rw [sl_83] at hs
  repeat' split at hs
  all_goals cases hs
theorem ne_83 {pc a b k : Nat} {v : Int} {tg : List Nat} {ls st : List eV} {μ : eM} {y : eO × eM} (hs : eSel ewK ewL ewT X pc (83, a, b, k, v, tg) ls st μ = some (.inr (.inr y))) : False := by
  obtain ⟨n, e0, pp, hh⟩ := μ
  rw [sl_83] at hs
  repeat' split at hs
  all_goals cases hs
theorem nc_84 {pc a b k : Nat} {v : Int} {tg : List Nat} {ls st : List eV} {μ : eM} {y : Nat × List eV × List eV} (hs : eSel ewK ewL ewT X pc (84, a, b, k, v, tg) ls st μ = some (.inr (.inl y))) : False := by
  obtain ⟨n, e0, pp, hh⟩ := μ
  rw [sl_84] at hs
  repeat' split at hs
  all_goals cases hs
theorem ne_84 {pc a b k : Nat} {v : Int} {tg : List Nat} {ls st : List eV} {μ : eM} {y : eO × eM} (hs : eSel ewK ewL ewT X pc (84, a, b, k, v, tg) ls st μ = some (.inr (.inr y))) : False := by
  obtain ⟨n, e0, pp, hh⟩ := μ
  rw [sl_84] at hs
  repeat' split at hs
  all_goals cases hs
theorem nc_85 {pc a b k : Nat} {v : Int} {tg : List Nat} {ls st : List eV} {μ : eM} {y : Nat × List eV × List eV} (hs : eSel ewK ewL ewT X pc (85, a, b, k, v, tg) ls st μ = some (.inr (.inl y))) : False := by
  obtain ⟨n, e0, pp, hh⟩ := μ
  rw [sl_85] at hs
  repeat' split at hs
  all_goals cases hs
theorem ne_85 {pc a b k : Nat} {v : Int} {tg : List Nat} {ls st : List eV} {μ : eM} {y : eO × eM} (hs : eSel ewK ewL ewT X pc (85, a, b, k, v, tg) ls st μ = some (.inr (.inr y))) : False := by
  obtain ⟨n, e0, pp, hh⟩ := μ
  rw [sl_85] at hs
  repeat' split at hs
  all_goals cases hs
theorem nc_86 {pc a b k : Nat} {v : Int} {tg : List Nat} {ls st : List eV} {μ : eM} {y : Nat × List eV × List eV} (hs : eSel ewK ewL ewT X pc (86, a, b, k, v, tg) ls st μ = some (.inr (.inl y))) : False := by
  obtain ⟨n, e0, pp, hh⟩ := μ
  rw [sl_86] at hs
  repeat' split at hs
  all_goals cases hs
theorem ne_86 {pc a b k : Nat} {v : Int} {tg : List Nat} {ls st : List eV} {μ : eM} {y : eO × eM} (hs : eSel ewK ewL ewT X pc (86, a, b, k, v, tg) ls st μ = some (.inr (.inr y))) : False := by
  obtain ⟨n, e0, pp, hh⟩ := μ
  rw [sl_86] at hs
  repeat' split at hs
  all_goals cases hs
theorem nc_87 {pc a b k : Nat} {v : Int} {tg : List Nat} {ls st : List eV} {μ : eM} {y : Nat × List eV × List eV} (hs : eSel ewK ewL ewT X pc (87, a, b, k, v, tg) ls st μ = some (.inr (.inl y))) : False := by
  obtain ⟨n, e0, pp, hh⟩ := μ
  rw [sl_87] at hs
  repeat' split at hs
  all_goals cases hs
theorem ne_87 {pc a b k : Nat} {v : Int} {tg : List Nat} {ls st : List eV} {μ : eM} {y : eO × eM} (hs : eSel ewK ewL ewT X pc (87, a, b, k, v, tg) ls st μ = some (.inr (.inr y))) : False := by
  obtain ⟨n, e0, pp, hh⟩ := μ
  rw [sl_87] at hs
  repeat' split at hs
  all_goals cases hs
theorem nc_88 {pc a b k : Nat} {v : Int} {tg : List Nat} {ls st : List eV} {μ : eM} {y : Nat × List eV × List eV} (hs : eSel ewK ewL ewT X pc (88, a, b, k, v, tg) ls st μ = some (.inr (.inl y))) : False := by
  obtain ⟨n, e0, pp, hh⟩ := μ
  rw [sl_88] at hs
  repeat' split at hs
  all_goals cases hs
theorem ne_88 {pc a b k : Nat} {v : Int} {tg : List Nat} {ls st : List eV} {μ : eM} {y : eO × eM} (hs : eSel ewK ewL ewT X pc (88, a, b, k, v, tg) ls st μ = some (.inr (.inr y))) : False := by
  obtain ⟨n, e0, pp, hh⟩ := μ
  rw [sl_88] at hs
  repeat' split at hs
  all_goals cases hs
theorem nc_90 {pc a b k : Nat} {v : Int} {tg : List Nat} {ls st : List eV} {μ : eM} {y : Nat × List eV × List eV} (hs : eSel ewK ewL ewT X pc (90, a, b, k, v, tg) ls st μ = some (.inr (.inl y))) : False := by
  obtain ⟨n, e0, pp, hh⟩ := μ
  rw [sl_90] at hs
  repeat' split at hs
  all_goals cases hs
theorem ne_90 {pc a b k : Nat} {v : Int} {tg : List Nat} {ls st : List eV} {μ : eM} {y : eO × eM} (hs : eSel ewK ewL ewT X pc (90, a, b, k, v, tg) ls st μ = some (.inr (.inr y))) : False := by
  obtain ⟨n, e0, pp, hh⟩ := μ
  rw [sl_90] at hs
  repeat' split at hs
  all_goals cases hs
theorem nc_91 {pc a b k : Nat} {v : Int} {tg : List Nat} {ls st : List eV} {μ : eM} {y : Nat × List eV × List eV} (hs : eSel ewK ewL ewT X pc (91, a, b, k, v, tg) ls st μ = some (.inr (.inl y))) : False := by
  obtain ⟨n, e0, pp, hh⟩ := μ
  rw [sl_91] at hs
  repeat' split at hs
  all_goals cases hs
theorem ne_91 {pc a b k : Nat} {v : Int} {tg : List Nat} {ls st : List eV} {μ : eM} {y : eO × eM} (hs : eSel ewK ewL ewT X pc (91, a, b, k, v, tg) ls st μ = some (.inr (.inr y))) : False := by
  obtain ⟨n, e0, pp, hh⟩ := μ
  rw [sl_91] at hs
  repeat' split at hs
  all_goals cases hs
theorem nc_92 {pc a b k : Nat} {v : Int} {tg : List Nat} {ls st : List eV} {μ : eM} {y : Nat × List eV × List eV} (hs : eSel ewK ewL ewT X pc (92, a, b, k, v, tg) ls st μ = some (.inr (.inl y))) : False := by
  obtain ⟨n, e0, pp, hh⟩ := μ
  rw [sl_92] at hs
  repeat' split at hs
  all_goals cases hs
theorem ne_92 {pc a b k : Nat} {v : Int} {tg : List Nat} {ls st : List eV} {μ : eM} {y : eO × eM} (hs : eSel ewK ewL ewT X pc (92, a, b, k, v, tg) ls st μ = some (.inr (.inr y))) : False := by
  obtain ⟨n, e0, pp, hh⟩ := μ
  rw [sl_92] at hs
  repeat' split at hs
  all_goals cases hs
theorem nc_24 {pc a b k : Nat} {v : Int} {tg : List Nat} {ls st : List eV} {μ : eM} {y : Nat × List eV × List eV} (hs : eSel ewK ewL ewT X pc (24, a, b, k, v, tg) ls st μ = some (.inr (.inl y))) : False := by
  obtain ⟨n, e0, pp, hh⟩ := μ
  rw [sl_24] at hs
  repeat' split at hs
  all_goals cases hs
theorem ne_24 {pc a b k : Nat} {v : Int} {tg : List Nat} {ls st : List eV} {μ : eM} {y : eO × eM} (hs : eSel ewK ewL ewT X pc (24, a, b, k, v, tg) ls st μ = some (.inr (.inr y))) : False := by
  obtain ⟨n, e0, pp, hh⟩ := μ
  rw [sl_24] at hs
  repeat' split at hs
  all_goals cases hs
theorem nc_70 {pc a b k : Nat} {v : Int} {tg : List Nat} {ls st : List eV} {μ : eM} {y : Nat × List eV × List eV} (hs : eSel ewK ewL ewT X pc (70, a, b, k, v, tg) ls st μ = some (.inr (.inl y))) : False := by
  obtain ⟨n, e0, pp, hh⟩ := μ
  rw [sl_70] at hs
  repeat' split at hs
  all_goals cases hs
theorem ne_70 {pc a b k : Nat} {v : Int} {tg : List Nat} {ls st : List eV} {μ : eM} {y : eO × eM} (hs : eSel ewK ewL ewT X pc (70, a, b, k, v, tg) ls st μ = some (.inr (.inr y))) : False := by
  obtain ⟨n, e0, pp, hh⟩ := μ
  rw [sl_70] at hs
  repeat' split at hs
  all_goals cases hs
theorem nc_71 {pc a b k : Nat} {v : Int} {tg : List Nat} {ls st : List eV} {μ : eM} {y : Nat × List eV × List eV} (hs : eSel ewK ewL ewT X pc (71, a, b, k, v, tg) ls st μ = some (.inr (.inl y))) : False := by
  obtain ⟨n, e0, pp, hh⟩ := μ
  rw [sl_71] at hs
  repeat' split at hs
  all_goals cases hs
theorem ne_71 {pc a b k : Nat} {v : Int} {tg : List Nat} {ls st : List eV} {μ : eM} {y : eO × eM} (hs : eSel ewK ewL ewT X pc (71, a, b, k, v, tg) ls st μ = some (.inr (.inr y))) : False := by
  obtain ⟨n, e0, pp, hh⟩ := μ
  rw [sl_71] at hs
  repeat' split at hs
  all_goals cases hs
theorem nc_72 {pc a b k : Nat} {v : Int} {tg : List Nat} {ls st : List eV} {μ : eM} {y : Nat × List eV × List eV} (hs : eSel ewK ewL ewT X pc (72, a, b, k, v, tg) ls st μ = some (.inr (.inl y))) : False := by
  obtain ⟨n, e0, pp, hh⟩ := μ
  rw [sl_72] at hs
  repeat' split at hs
  all_goals cases hs
theorem ne_72 {pc a b k : Nat} {v : Int} {tg : List Nat} {ls st : List eV} {μ : eM} {y : eO × eM} (hs : eSel ewK ewL ewT X pc (72, a, b, k, v, tg) ls st μ = some (.inr (.inr y))) : False := by
  obtain ⟨n, e0, pp, hh⟩ := μ
  rw [sl_72] at hs
  repeat' split at hs
  all_goals cases hs
theorem nc_73 {pc a b k : Nat} {v : Int} {tg : List Nat} {ls st : List eV} {μ : eM} {y : Nat × List eV × List eV} (hs : eSel ewK ewL ewT X pc (73, a, b, k, v, tg) ls st μ = some (.inr (.inl y))) : False := by
  obtain ⟨n, e0, pp, hh⟩ := μ
  rw [sl_73] at hs
  repeat' split at hs
  all_goals cases hs
theorem ne_73 {pc a b k : Nat} {v : Int} {tg : List Nat} {ls st : List eV} {μ : eM} {y : eO × eM} (hs : eSel ewK ewL ewT X pc (73, a, b, k, v, tg) ls st μ = some (.inr (.inr y))) : False := by
  obtain ⟨n, e0, pp, hh⟩ := μ
  rw [sl_73] at hs
  repeat' split at hs
  all_goals cases hs
theorem nc_75 {pc a b k : Nat} {v : Int} {tg : List Nat} {ls st : List eV} {μ : eM} {y : Nat × List eV × List eV} (hs : eSel ewK ewL ewT X pc (75, a, b, k, v, tg) ls st μ = some (.inr (.inl y))) : False := by
  obtain ⟨n, e0, pp, hh⟩ := μ
  rw [sl_75] at hs
  repeat' split at hs
  all_goals cases hs
theorem ne_75 {pc a b k : Nat} {v : Int} {tg : List Nat} {ls st : List eV} {μ : eM} {y : eO × eM} (hs : eSel ewK ewL ewT X pc (75, a, b, k, v, tg) ls st μ = some (.inr (.inr y))) : False := by
  obtain ⟨n, e0, pp, hh⟩ := μ
  rw [sl_75] at hs
  repeat' split at hs
  all_goals cases hs
theorem nc_76 {pc a b k : Nat} {v : Int} {tg : List Nat} {ls st : List eV} {μ : eM} {y : Nat × List eV × List eV} (hs : eSel ewK ewL ewT X pc (76, a, b, k, v, tg) ls st μ = some (.inr (.inl y))) : False := by
  obtain ⟨n, e0, pp, hh⟩ := μ
  rw [sl_76] at hs
  repeat' split at hs
  all_goals cases hs
theorem ne_76 {pc a b k : Nat} {v : Int} {tg : List Nat} {ls st : List eV} {μ : eM} {y : eO × eM} (hs : eSel ewK ewL ewT X pc (76, a, b, k, v, tg) ls st μ = some (.inr (.inr y))) : False := by
  obtain ⟨n, e0, pp, hh⟩ := μ
  rw [sl_76] at hs
  repeat' split at hs
  all_goals cases hs
theorem nc_93 {pc a b k : Nat} {v : Int} {tg : List Nat} {ls st : List eV} {μ : eM} {y : Nat × List eV × List eV} (hs : eSel ewK ewL ewT X pc (93, a, b, k, v, tg) ls st μ = some (.inr (.inl y))) : False := by
  obtain ⟨n, e0, pp, hh⟩ := μ
  rw [sl_93] at hs
  repeat' split at hs
  all_goals cases hs
theorem ne_93 {pc a b k : Nat} {v : Int} {tg : List Nat} {ls st : List eV} {μ : eM} {y : eO × eM} (hs : eSel ewK ewL ewT X pc (93, a, b, k, v, tg) ls st μ = some (.inr (.inr y))) : False := by
  obtain ⟨n, e0, pp, hh⟩ := μ
  rw [sl_93] at hs
  repeat' split at hs
  all_goals cases hs
theorem nc_26 {pc a b k : Nat} {v : Int} {tg : List Nat} {ls st : List eV} {μ : eM} {y : Nat × List eV × List eV} (hs : eSel ewK ewL ewT X pc (26, a, b, k, v, tg) ls st μ = some (.inr (.inl y))) : False := by
  obtain ⟨n, e0, pp, hh⟩ := μ
  rw [sl_26] at hs
  repeat' split at hs
  all_goals cases hs
theorem ne_26 {pc a b k : Nat} {v : Int} {tg : List Nat} {ls st : List eV} {μ : eM} {y : eO × eM} (hs : eSel ewK ewL ewT X pc (26, a, b, k, v, tg) ls st μ = some (.inr (.inr y))) : False := by
  obtain ⟨n, e0, pp, hh⟩ := μ
  rw [sl_26] at hs
  repeat' split at hs
  all_goals cases hs
theorem nc_31 {pc a b k : Nat} {v : Int} {tg : List Nat} {ls st : List eV} {μ : eM} {y : Nat × List eV × List eV} (hs : eSel ewK ewL ewT X pc (31, a, b, k, v, tg) ls st μ = some (.inr (.inl y))) : False := by
  obtain ⟨n, e0, pp, hh⟩ := μ
  rw [sl_31] at hs
  repeat' split at hs
  all_goals cases hs
theorem ne_31 {pc a b k : Nat} {v : Int} {tg : List Nat} {ls st : List eV} {μ : eM} {y : eO × eM} (hs : eSel ewK ewL ewT X pc (31, a, b, k, v, tg) ls st μ = some (.inr (.inr y))) : False := by
  obtain ⟨n, e0, pp, hh⟩ := μ
  rw [sl_31] at hs
  repeat' split at hs
  all_goals cases hs
theorem nc_79 {pc a b k : Nat} {v : Int} {tg : List Nat} {ls st : List eV} {μ : eM} {y : Nat × List eV × List eV} (hs : eSel ewK ewL ewT X pc (79, a, b, k, v, tg) ls st μ = some (.inr (.inl y))) : False := by
  obtain ⟨n, e0, pp, hh⟩ := μ
  rw [sl_79] at hs
  repeat' split at hs
  all_goals cases hs
theorem ne_79 {pc a b k : Nat} {v : Int} {tg : List Nat} {ls st : List eV} {μ : eM} {y : eO × eM} (hs : eSel ewK ewL ewT X pc (79, a, b, k, v, tg) ls st μ = some (.inr (.inr y))) : False := by
  obtain ⟨n, e0, pp, hh⟩ := μ
  rw [sl_79] at hs
  repeat' split at hs
  all_goals cases hs
theorem nc_81 {pc a b k : Nat} {v : Int} {tg : List Nat} {ls st : List eV} {μ : eM} {y : Nat × List eV × List eV} (hs : eSel ewK ewL ewT X pc (81, a, b, k, v, tg) ls st μ = some (.inr (.inl y))) : False := by
  obtain ⟨n, e0, pp, hh⟩ := μ
  rw [sl_81] at hs
  repeat' split at hs
  all_goals cases hs
theorem ne_81 {pc a b k : Nat} {v : Int} {tg : List Nat} {ls st : List eV} {μ : eM} {y : eO × eM} (hs : eSel ewK ewL ewT X pc (81, a, b, k, v, tg) ls st μ = some (.inr (.inr y))) : False := by
  obtain ⟨n, e0, pp, hh⟩ := μ
  rw [sl_81] at hs
  repeat' split at hs
  all_goals cases hs
theorem nc_94 {pc a b k : Nat} {v : Int} {tg : List Nat} {ls st : List eV} {μ : eM} {y : Nat × List eV × List eV} (hs : eSel ewK ewL ewT X pc (94, a, b, k, v, tg) ls st μ = some (.inr (.inl y))) : False := by
  obtain ⟨n, e0, pp, hh⟩ := μ
  rw [sl_94] at hs
  repeat' split at hs
  all_goals cases hs
theorem ne_94 {pc a b k : Nat} {v : Int} {tg : List Nat} {ls st : List eV} {μ : eM} {y : eO × eM} (hs : eSel ewK ewL ewT X pc (94, a, b, k, v, tg) ls st μ = some (.inr (.inr y))) : False := by
  obtain ⟨n, e0, pp, hh⟩ := μ
  rw [sl_94] at hs
  repeat' split at hs
  all_goals cases hs
theorem nc_97 {pc a b k : Nat} {v : Int} {tg : List Nat} {ls st : List eV} {μ : eM} {y : Nat × List eV × List eV} (hs : eSel ewK ewL ewT X pc (97, a, b, k, v, tg) ls st μ = some (.inr (.inl y))) : False := by
  obtain ⟨n, e0, pp, hh⟩ := μ
  rw [sl_97] at hs
  repeat' split at hs
  all_goals cases hs
theorem ne_97 {pc a b k : Nat} {v : Int} {tg : List Nat} {ls st : List eV} {μ : eM} {y : eO × eM} (hs : eSel ewK ewL ewT X pc (97, a, b, k, v, tg) ls st μ = some (.inr (.inr y))) : False := by
  obtain ⟨n, e0, pp, hh⟩ := μ
  rw [sl_97] at hs
  repeat' split at hs
  all_goals cases hs
theorem nc_6 {pc a b k : Nat} {v : Int} {tg : List Nat} {ls st : List eV} {μ : eM} {y : Nat × List eV × List eV} (hs : eSel ewK ewL ewT X pc (6, a, b, k, v, tg) ls st μ = some (.inr (.inl y))) : False := by
  obtain ⟨n, e0, pp, hh⟩ := μ
  rw [sl_6] at hs
  repeat' split at hs
  all_goals cases hs
theorem nn_6 {pc a b k : Nat} {v : Int} {tg : List Nat} {ls st : List eV} {μ : eM} {y : Nat × List eV × List eV × eM} (hs : eSel ewK ewL ewT X pc (6, a, b, k, v, tg) ls st μ = some (.inl y)) : False := by
  obtain ⟨n, e0, pp, hh⟩ := μ
  rw [sl_6] at hs
  repeat' split at hs
  all_goals cases hs
theorem nc_17 {pc a b k : Nat} {v : Int} {tg : List Nat} {ls st : List eV} {μ : eM} {y : Nat × List eV × List eV} (hs : eSel ewK ewL ewT X pc (17, a, b, k, v, tg) ls st μ = some (.inr (.inl y))) : False := by
  obtain ⟨n, e0, pp, hh⟩ := μ
  rw [sl_17] at hs
  repeat' split at hs
  all_goals cases hs
theorem nn_17 {pc a b k : Nat} {v : Int} {tg : List Nat} {ls st : List eV} {μ : eM} {y : Nat × List eV × List eV × eM} (hs : eSel ewK ewL ewT X pc (17, a, b, k, v, tg) ls st μ = some (.inl y)) : False := by
  obtain ⟨n, e0, pp, hh⟩ := μ
  rw [sl_17] at hs
  repeat' split at hs
  all_goals cases hs
theorem nc_40 {pc a b k : Nat} {v : Int} {tg : List Nat} {ls st : List eV} {μ : eM} {y : Nat × List eV × List eV} (hs : eSel ewK ewL ewT X pc (40, a, b, k, v, tg) ls st μ = some (.inr (.inl y))) : False := by
  obtain ⟨n, e0, pp, hh⟩ := μ
  rw [sl_40] at hs
  repeat' split at hs
  all_goals cases hs
theorem nn_40 {pc a b k : Nat} {v : Int} {tg : List Nat} {ls st : List eV} {μ : eM} {y : Nat × List eV × List eV × eM} (hs : eSel ewK ewL ewT X pc (40, a, b, k, v, tg) ls st μ = some (.inl y)) : False := by
  obtain ⟨n, e0, pp, hh⟩ := μ
  rw [sl_40] at hs
  repeat' split at hs
  all_goals cases hs
theorem nc_89 {pc a b k : Nat} {v : Int} {tg : List Nat} {ls st : List eV} {μ : eM} {y : Nat × List eV × List eV} (hs : eSel ewK ewL ewT X pc (89, a, b, k, v, tg) ls st μ = some (.inr (.inl y))) : False := by
  obtain ⟨n, e0, pp, hh⟩ := μ
  rw [sl_89] at hs
  repeat' split at hs
  all_goals cases hs
theorem nn_89 {pc a b k : Nat} {v : Int} {tg : List Nat} {ls st : List eV} {μ : eM} {y : Nat × List eV × List eV × eM} (hs : eSel ewK ewL ewT X pc (89, a, b, k, v, tg) ls st μ = some (.inl y)) : False := by
  obtain ⟨n, e0, pp, hh⟩ := μ
  rw [sl_89] at hs
  repeat' split at hs
  all_goals cases hs
theorem nc_23 {pc a b k : Nat} {v : Int} {tg : List Nat} {ls st : List eV} {μ : eM} {y : Nat × List eV × List eV} (hs : eSel ewK ewL ewT X pc (23, a, b, k, v, tg) ls st μ = some (.inr (.inl y))) : False := by
  obtain ⟨n, e0, pp, hh⟩ := μ
  rw [sl_23] at hs
  repeat' split at hs
  all_goals cases hs
theorem nn_23 {pc a b k : Nat} {v : Int} {tg : List Nat} {ls st : List eV} {μ : eM} {y : Nat × List eV × List eV × eM} (hs : eSel ewK ewL ewT X pc (23, a, b, k, v, tg) ls st μ = some (.inl y)) : False := by
  obtain ⟨n, e0, pp, hh⟩ := μ
  rw [sl_23] at hs
  repeat' split at hs
  all_goals cases hs
theorem ne_95 {pc a b k : Nat} {v : Int} {tg : List Nat} {ls st : List eV} {μ : eM} {y : eO × eM} (hs : eSel ewK ewL ewT X pc (95, a, b, k, v, tg) ls st μ = some (.inr (.inr y))) : False := by
  obtain ⟨n, e0, pp, hh⟩ := μ
  rw [sl_95 X] at hs
  repeat' split at hs
  all_goals cases hs
theorem nn_95 {pc a b k : Nat} {v : Int} {tg : List Nat} {ls st : List eV} {μ : eM} {y : Nat × List eV × List eV × eM} (hs : eSel ewK ewL ewT X pc (95, a, b, k, v, tg) ls st μ = some (.inl y)) : False := by
  obtain ⟨n, e0, pp, hh⟩ := μ
  rw [sl_95 X] at hs
  repeat' split at hs
  all_goals cases hs
theorem sl_96 {pc a b k : Nat} {v : Int} {tg : List Nat} {ls st : List eV} {n e : Nat} {p : Nat → Nat → Nat} {h : Nat → Nat → Int} : eSel ewK ewL ewT X pc (96, a, b, k, v, tg) ls st (n, e, p, h) = (match st with
    | .inr (.inr (.inl x)) :: .inr (.inr (.inr (.inr (.inr (some t))))) :: [] => if 17 < ls.length then (if 0 ≤ x ∧ x < 128 ∧ t.length ≤ 20 then eNx (pc + 13) (eSt ls 17 (vT (t ++ [x]))) [] (n, e + 40, p, h) else none) else none
    | _ => none) := by rcases st with _ | ⟨(_ | _ | _ | _ | _ | _), _ | ⟨(_ | _ | _ | _ | _ | (_ | _)), _ | ⟨_, _⟩⟩⟩ <;> rfl
theorem nc_96 {pc a b k : Nat} {v : Int} {tg : List Nat} {ls st : List eV} {μ : eM} {y : Nat × List eV × List eV} (hs : eSel ewK ewL ewT X pc (96, a, b, k, v, tg) ls st μ = some (.inr (.inl y))) : False := by
  obtain ⟨n, e0, pp, hh⟩ := μ
  rw [sl_96] at hs
  repeat' split at hs
  all_goals cases hs
theorem ne_96 {pc a b k : Nat} {v : Int} {tg : List Nat} {ls st : List eV} {μ : eM} {y : eO × eM} (hs : eSel ewK ewL ewT X pc (96, a, b, k, v, tg) ls st μ = some (.inr (.inr y))) : False := by
  obtain ⟨n, e0, pp, hh⟩ := μ
  rw [sl_96] at hs
  repeat' split at hs
  all_goals cases hs
theorem nc_99 {pc a b k : Nat} {v : Int} {tg : List Nat} {ls st : List eV} {μ : eM} {y : Nat × List eV × List eV} (hs : eSel ewK ewL ewT X pc (99, a, b, k, v, tg) ls st μ = some (.inr (.inl y))) : False := by
  obtain ⟨n, e0, pp, hh⟩ := μ
  cases hs
theorem ne_99 {pc a b k : Nat} {v : Int} {tg : List Nat} {ls st : List eV} {μ : eM} {y : eO × eM} (hs : eSel ewK ewL ewT X pc (99, a, b, k, v, tg) ls st μ = some (.inr (.inr y))) : False := by
  obtain ⟨n, e0, pp, hh⟩ := μ
  cases hs
theorem nn_99 {pc a b k : Nat} {v : Int} {tg : List Nat} {ls st : List eV} {μ : eM} {y : Nat × List eV × List eV × eM} (hs : eSel ewK ewL ewT X pc (99, a, b, k, v, tg) ls st μ = some (.inl y)) : False := by
  obtain ⟨n, e0, pp, hh⟩ := μ
  cases hs
theorem sel_c {m pc : Nat} {i : eI} {ls st : List eV} {μ : eM} {y : Nat × List eV × List eV} (hk : chk m pc i = true) (hs : eSel ewK ewL ewT X pc i ls st μ = some (.inr (.inl y))) : i.1 = 3 ∨ i.1 = 95 := by
  obtain ⟨op, a, b, k, v, tg⟩ := i
  have hop := chk_op hk
  simp only [opsL, List.mem_cons, List.not_mem_nil, or_false] at hop
  rcases hop with rfl | rfl | rfl | rfl | rfl | rfl | rfl | rfl | rfl | rfl | rfl | rfl | rfl | rfl | rfl | rfl | rfl | rfl | rfl | rfl | rfl | rfl | rfl | rfl | rfl | rfl | rfl | rfl | rfl | rfl | rfl | rfl | rfl | rfl | rfl | rfl | rfl | rfl | rfl | rfl | rfl | rfl | rfl | rfl | rfl | rfl | rfl | rfl | rfl | rfl | rfl | rfl | rfl | rfl | rfl | rfl | rfl | rfl | rfl | rfl | rfl | rfl | rfl | rfl | rfl | rfl | rfl | rfl | rfl | rfl | rfl | rfl | rfl | rfl | rfl | rfl | rfl
  · exact (nc_0 hs).elim
  · exact (nc_1 hs).elim
  · exact (nc_2 hs).elim
  · exact Or.inl rfl
  · exact (nc_4 hs).elim
  · exact (nc_5 hs).elim
  · exact (nc_6 hs).elim
  · exact (nc_7 hs).elim
  · exact (nc_8 hs).elim
  · exact (nc_9 hs).elim
  · exact (nc_10 hs).elim
  · exact (nc_11 hs).elim
  · exact (nc_12 hs).elim
  · exact (nc_13 hs).elim
  · exact (nc_14 hs).elim
  · exact (nc_15 hs).elim
  · exact (nc_16 hs).elim
  · exact (nc_17 hs).elim
  · exact (nc_18 hs).elim
  · exact (nc_19 hs).elim
  · exact (nc_20 hs).elim
  · exact (nc_21 hs).elim
  · exact (nc_22 hs).elim
  · exact (nc_23 hs).elim
  · exact (nc_24 hs).elim
  · exact (nc_25 hs).elim
  · exact (nc_26 hs).elim
  · exact (nc_29 hs).elim
  · exact (nc_30 hs).elim
  · exact (nc_31 hs).elim
  · exact (nc_32 hs).elim
  · exact (nc_33 hs).elim
  · exact (nc_34 hs).elim
  · exact (nc_38 hs).elim
  · exact (nc_39 hs).elim
  · exact (nc_40 hs).elim
  · exact (nc_41 hs).elim
  · exact (nc_42 hs).elim
  · exact (nc_43 hs).elim
  · exact (nc_45 hs).elim
  · exact (nc_49 hs).elim
  · exact (nc_50 hs).elim
  · exact (nc_51 hs).elim
  · exact (nc_54 hs).elim
  · exact (nc_57 hs).elim
  · exact (nc_67 hs).elim
  · exact (nc_68 hs).elim
  · exact (nc_69 hs).elim
  · exact (nc_70 hs).elim
  · exact (nc_71 hs).elim
  · exact (nc_72 hs).elim
  · exact (nc_73 hs).elim
  · exact (nc_74 hs).elim
  · exact (nc_75 hs).elim
  · exact (nc_76 hs).elim
  · exact (nc_77 hs).elim
  · exact (nc_78 hs).elim
  · exact (nc_79 hs).elim
  · exact (nc_80 hs).elim
  · exact (nc_81 hs).elim
  · exact (nc_82 hs).elim
  · exact (nc_83 hs).elim
  · exact (nc_84 hs).elim
  · exact (nc_85 hs).elim
  · exact (nc_86 hs).elim
  · exact (nc_87 hs).elim
  · exact (nc_88 hs).elim
  · exact (nc_89 hs).elim
  · exact (nc_90 hs).elim
  · exact (nc_91 hs).elim
  · exact (nc_92 hs).elim
  · exact (nc_93 hs).elim
  · exact (nc_94 hs).elim
  · exact Or.inr rfl
  · exact (nc_96 hs).elim
  · exact (nc_97 hs).elim
  · exact (nc_99 hs).elim
theorem sel_e {m pc : Nat} {i : eI} {ls st : List eV} {μ : eM} {y : eO × eM} (hk : chk m pc i = true) (hs : eSel ewK ewL ewT X pc i ls st μ = some (.inr (.inr y))) : i.1 = 6 ∨ i.1 = 17 ∨ i.1 = 40 ∨ i.1 = 89 ∨ i.1 = 23 := by
  obtain ⟨op, a, b, k, v, tg⟩ := i
  have hop := chk_op hk
  simp only [opsL, List.mem_cons, List.not_mem_nil, or_false] at hop
  rcases hop with rfl | rfl | rfl | rfl | rfl | rfl | rfl | rfl | rfl | rfl | rfl | rfl | rfl | rfl | rfl | rfl | rfl | rfl | rfl | rfl | rfl | rfl | rfl | rfl | rfl | rfl | rfl | rfl | rfl | rfl | rfl | rfl | rfl | rfl | rfl | rfl | rfl | rfl | rfl | rfl | rfl | rfl | rfl | rfl | rfl | rfl | rfl | rfl | rfl | rfl | rfl | rfl | rfl | rfl | rfl | rfl | rfl | rfl | rfl | rfl | rfl | rfl | rfl | rfl | rfl | rfl | rfl | rfl | rfl | rfl | rfl | rfl | rfl | rfl | rfl | rfl | rfl
  · exact (ne_0 hs).elim
  · exact (ne_1 hs).elim
  · exact (ne_2 hs).elim
  · exact (sel_3e hs).elim
  · exact (ne_4 hs).elim
  · exact (ne_5 hs).elim
  · show (6 : Nat) = 6 ∨ (6 : Nat) = 17 ∨ (6 : Nat) = 40 ∨ (6 : Nat) = 89 ∨ (6 : Nat) = 23
    decide
  · exact (ne_7 hs).elim
  · exact (ne_8 hs).elim
  · exact (ne_9 hs).elim
  · exact (ne_10 hs).elim
  · exact (ne_11 hs).elim
  · exact (ne_12 hs).elim
  · exact (ne_13 hs).elim
  · exact (ne_14 hs).elim
  · exact (ne_15 hs).elim
  · exact (ne_16 hs).elim
  · show (17 : Nat) = 6 ∨ (17 : Nat) = 17 ∨ (17 : Nat) = 40 ∨ (17 : Nat) = 89 ∨ (17 : Nat) = 23
    decide
  · exact (ne_18 hs).elim
  · exact (ne_19 hs).elim
  · exact (ne_20 hs).elim
  · exact (ne_21 hs).elim
  · exact (ne_22 hs).elim
  · show (23 : Nat) = 6 ∨ (23 : Nat) = 17 ∨ (23 : Nat) = 40 ∨ (23 : Nat) = 89 ∨ (23 : Nat) = 23
    decide
  · exact (ne_24 hs).elim
  · exact (ne_25 hs).elim
  · exact (ne_26 hs).elim
  · exact (ne_29 hs).elim
  · exact (ne_30 hs).elim
  · exact (ne_31 hs).elim
  · exact (ne_32 hs).elim
  · exact (ne_33 hs).elim
  · exact (ne_34 hs).elim
  · exact (ne_38 hs).elim
  · exact (ne_39 hs).elim
  · show (40 : Nat) = 6 ∨ (40 : Nat) = 17 ∨ (40 : Nat) = 40 ∨ (40 : Nat) = 89 ∨ (40 : Nat) = 23
    decide
  · exact (ne_41 hs).elim
  · exact (ne_42 hs).elim
  · exact (ne_43 hs).elim
  · exact (ne_45 hs).elim
  · exact (ne_49 hs).elim
  · exact (ne_50 hs).elim
  · exact (ne_51 hs).elim
  · exact (ne_54 hs).elim
  · exact (ne_57 hs).elim
  · exact (ne_67 hs).elim
  · exact (ne_68 hs).elim
  · exact (ne_69 hs).elim
  · exact (ne_70 hs).elim
  · exact (ne_71 hs).elim
  · exact (ne_72 hs).elim
  · exact (ne_73 hs).elim
  · exact (ne_74 hs).elim
  · exact (ne_75 hs).elim
  · exact (ne_76 hs).elim
  · exact (ne_77 hs).elim
  · exact (ne_78 hs).elim
  · exact (ne_79 hs).elim
  · exact (ne_80 hs).elim
  · exact (ne_81 hs).elim
  · exact (ne_82 hs).elim
  · exact (ne_83 hs).elim
  · exact (ne_84 hs).elim
  · exact (ne_85 hs).elim
  · exact (ne_86 hs).elim
  · exact (ne_87 hs).elim
  · exact (ne_88 hs).elim
  · show (89 : Nat) = 6 ∨ (89 : Nat) = 17 ∨ (89 : Nat) = 40 ∨ (89 : Nat) = 89 ∨ (89 : Nat) = 23
    decide
  · exact (ne_90 hs).elim
  · exact (ne_91 hs).elim
  · exact (ne_92 hs).elim
  · exact (ne_93 hs).elim
  · exact (ne_94 hs).elim
  · exact (ne_95 hs).elim
  · exact (ne_96 hs).elim
  · exact (ne_97 hs).elim
  · exact (ne_99 hs).elim
theorem tx_c113 : ewCode m_L_sounds (112 + 1) = some (96, 0, 0, 0, 0, []) := rfl
theorem ck_95 {m i a b k : Nat} {v : Int} {tg : List Nat} : chk m i (95, a, b, k, v, tg) = (decide (m = m_L_sounds) && decide (i = 112) && decide (a = m_L_echoLetter) && decide (k = 3)) := rfl
theorem no_96 {pc a b k : Nat} {v : Int} {tg : List Nat} {ls st : List eV} {μ : eM} {y : Nat × List eV × List eV × eM} (hw : eWf ls st μ) (hs : eSel ewK ewL ewT X pc (96, a, b, k, v, tg) ls st μ = some (.inl y)) : False := by
  obtain ⟨n, e0, pp, hh⟩ := μ
  rw [sl_96] at hs
  split at hs
  next x t => exact (hw.2.1 (vT t) (List.mem_cons_of_mem _ List.mem_cons_self)).elim
  · cases hs
theorem stp {m pc : Nat} {i : eI} {ls st ls' st' : List eV} {μ μ' : eM} {pc' : Nat} (hX : X.1 < 2147483648) (hX2 : ∀ j, inR (X.2 j)) (hk : chk m pc i = true) (hw : eWf ls st μ) (hs : eSel ewK ewL ewT X pc i ls st μ = some (.inl (pc', ls', st', μ'))) : eWf ls' st' μ' ∧ ((μ'.1 = μ.1 ∧ μ'.2.1 = μ.2.1) ∨ (μ'.1 = μ.1 + 1 ∧ μ'.2.1 = μ.2.1 ∧ μ.2.1 = 0) ∨ (μ'.1 = μ.1 ∧ μ'.2.1 = μ.2.1 + 1)) := by
  obtain ⟨op, a, b, k, v, tg⟩ := i
  obtain ⟨n, e0, pp, hh⟩ := μ
  have hop := chk_op hk
  simp only [opsL, List.mem_cons, List.not_mem_nil, or_false] at hop
  rcases hop with rfl | rfl | rfl | rfl | rfl | rfl | rfl | rfl | rfl | rfl | rfl | rfl | rfl | rfl | rfl | rfl | rfl | rfl | rfl | rfl | rfl | rfl | rfl | rfl | rfl | rfl | rfl | rfl | rfl | rfl | rfl | rfl | rfl | rfl | rfl | rfl | rfl | rfl | rfl | rfl | rfl | rfl | rfl | rfl | rfl | rfl | rfl | rfl | rfl | rfl | rfl | rfl | rfl | rfl | rfl | rfl | rfl | rfl | rfl | rfl | rfl | rfl | rfl | rfl | rfl | rfl | rfl | rfl | rfl | rfl | rfl | rfl | rfl | rfl | rfl | rfl | rfl
  · have h := wf_0 hk hw hs; exact ⟨h.1, Or.inl h.2⟩
  · have h := wf_1 hk hw hs; exact ⟨h.1, Or.inl h.2⟩
  · have h := wf_2 hk hw hs; exact ⟨h.1, Or.inl h.2⟩
  · exact (sel_3n hs).elim
  · have h := wf_4 hk hw hs; exact ⟨h.1, Or.inl h.2⟩
  · have h := wf_5 hk hw hs; exact ⟨h.1, Or.inl h.2⟩
  · exact (nn_6 hs).elim
  · have h := wf_7 hk hw hs; exact ⟨h.1, Or.inl h.2⟩
  · have h := wf_8 hk hw hs; exact ⟨h.1, Or.inl h.2⟩
  · have h := wf_9 hk hw hs; exact ⟨h.1, Or.inl h.2⟩
  · have h := wf_10 hk hw hs; exact ⟨h.1, Or.inl h.2⟩
  · have h := wf_11 hk hw hs; exact ⟨h.1, Or.inl h.2⟩
  · have h := wf_12 hk hw hs; exact ⟨h.1, Or.inl h.2⟩
  · have h := wf_13 hk hw hs; exact ⟨h.1, Or.inl h.2⟩
  · have h := wf_14 hk hw hs; exact ⟨h.1, Or.inl h.2⟩
  · have h := wf_15 hk hw hs; exact ⟨h.1, Or.inl h.2⟩
  · have h := wf_16 hk hw hs; exact ⟨h.1, Or.inl h.2⟩
  · exact (nn_17 hs).elim
  · have h := wf_18 hk hw hs; exact ⟨h.1, Or.inl h.2⟩
  · have h := wf_19 hk hw hs; exact ⟨h.1, Or.inl h.2⟩
  · have h := wf_20 hk hw hs; exact ⟨h.1, Or.inl h.2⟩
  · have h := wf_21 hk hw hs; exact ⟨h.1, Or.inl h.2⟩
  · have h := wf_22 hk hw hs; exact ⟨h.1, Or.inl h.2⟩
  · exact (nn_23 hs).elim
  · have h := wf_24 hk hw hs; exact ⟨h.1, Or.inl h.2⟩
  · have h := wf_25 hk hw hs; exact ⟨h.1, Or.inl h.2⟩
  · have h := wf_26 hk hw hs; exact ⟨h.1, Or.inr (Or.inl h.2)⟩
  · have h := wf_29 hk hw hs; exact ⟨h.1, Or.inl h.2⟩
  · have h := wf_30 hk hw hs; exact ⟨h.1, Or.inl h.2⟩
  · have h := wf_31 hk hw hs; exact ⟨h.1, Or.inr (Or.inl h.2)⟩
  · have h := wf_32 hk hw hs; exact ⟨h.1, Or.inl h.2⟩
  · have h := wf_33 hk hw hs; exact ⟨h.1, Or.inl h.2⟩
  · have h := wf_34 hk hw hs; exact ⟨h.1, Or.inl h.2⟩
  · have h := wf_38 hk hw hs; exact ⟨h.1, Or.inl h.2⟩
  · have h := wf_39 hk hw hs; exact ⟨h.1, Or.inl h.2⟩
  · exact (nn_40 hs).elim
  · have h := wf_41 hk hw hs; exact ⟨h.1, Or.inl h.2⟩
  · have h := wf_42 hk hw hs; exact ⟨h.1, Or.inl h.2⟩
  · have h := wf_43 hk hw hs; exact ⟨h.1, Or.inl h.2⟩
  · have h := wf_45 hk hw hs; exact ⟨h.1, Or.inl h.2⟩
  · have h := wf_49 hk hw hs; exact ⟨h.1, Or.inl h.2⟩
  · have h := wf_50 hk hw hs; exact ⟨h.1, Or.inl h.2⟩
  · have h := wf_51 hk hw hs; exact ⟨h.1, Or.inl h.2⟩
  · have h := wf_54 hk hw hs; exact ⟨h.1, Or.inl h.2⟩
  · have h := wf_57 hk hw hs; exact ⟨h.1, Or.inl h.2⟩
  · have h := wf_67 hk hw hs; exact ⟨h.1, Or.inl h.2⟩
  · have h := wf_68 hk hw hs; exact ⟨h.1, Or.inl h.2⟩
  · have h := wf_69 hk hw hs; exact ⟨h.1, Or.inl h.2⟩
  · have h := wf_70 hk hw hs; exact ⟨h.1, Or.inl h.2⟩
  · have h := wf_71 hk hw hs; exact ⟨h.1, Or.inl h.2⟩
  · have h := wf_72 hk hw hs; exact ⟨h.1, Or.inl h.2⟩
  · have h := wf_73 hk hw hs; exact ⟨h.1, Or.inl h.2⟩
  · have h := wf_74 hk hw hs; exact ⟨h.1, Or.inl h.2⟩
  · have h := wf_75 hk hw hs; exact ⟨h.1, Or.inl h.2⟩
  · have h := wf_76 hk hw hs; exact ⟨h.1, Or.inl h.2⟩
  · have h := wf_77 hk hw hs; exact ⟨h.1, Or.inl h.2⟩
  · have h := wf_78 hk hw hs; exact ⟨h.1, Or.inl h.2⟩
  · have h := wf_79 hX2 hk hw hs; exact ⟨h.1, Or.inl h.2⟩
  · have h := wf_80 hk hw hs; exact ⟨h.1, Or.inl h.2⟩
  · have h := wf_81 hX hk hw hs; exact ⟨h.1, Or.inl h.2⟩
  · have h := wf_82 hk hw hs; exact ⟨h.1, Or.inl h.2⟩
  · have h := wf_83 hk hw hs; exact ⟨h.1, Or.inl h.2⟩
  · have h := wf_84 hk hw hs; exact ⟨h.1, Or.inl h.2⟩
  · have h := wf_85 hk hw hs; exact ⟨h.1, Or.inl h.2⟩
  · have h := wf_86 hk hw hs; exact ⟨h.1, Or.inl h.2⟩
  · have h := wf_87 hk hw hs; exact ⟨h.1, Or.inl h.2⟩
  · have h := wf_88 hk hw hs; exact ⟨h.1, Or.inl h.2⟩
  · exact (nn_89 hs).elim
  · have h := wf_90 hk hw hs; exact ⟨h.1, Or.inl h.2⟩
  · have h := wf_91 hk hw hs; exact ⟨h.1, Or.inl h.2⟩
  · have h := wf_92 hk hw hs; exact ⟨h.1, Or.inl h.2⟩
  · have h := wf_93 hk hw hs; exact ⟨h.1, Or.inl h.2⟩
  · have h := wf_94 hw hs; exact ⟨h.1, Or.inr (Or.inr h.2)⟩
  · exact (nn_95 hs).elim
  · exact (no_96 hw hs).elim
  · have h := wf_97 hw hs; exact ⟨h.1, Or.inl h.2⟩
  · exact (nn_99 hs).elim
end
section
variable {B : Nat} {K : Nat → Nat} {dA : Nat → ClassId} {D : va_G} {X : eX}
variable {p : Program} {l : Launch} {e : Env} {R : Room} {s : State} {mI : MethodId} {args : Array Value} {below : List Frame} {meth : Method} {c : Code} {cells slots mc ms : Nat} {Q : State → Prop} {m : Nat}
set_option maxHeartbeats 4000000 in
theorem stepS (C : eCx B K dA D p l s mI args meth c m) {pc : Nat} {i : eI} {ls st ls' st' : List eV} {μ μ' : eM} {pc' : Nat} (hX : X.1 < 2147483648) (hX2 : ∀ j, inR (X.2 j)) (hXK : eXK K X) (hsn : i.1 ∈ [11, 12, 20, 41, 54, 57, 67, 69, 26, 31] → ¬ m = m_L_sounds) (hRf : mLv m ≤ R.frames) (hRl : 64 * mLv m ≤ R.locals)
    (hcs : cells + (eCc μ' - eCc μ) ≤ R.cells) (hss : slots + (eSs μ' - eSs μ) ≤ R.slots) (hz : μ.2.1 = 0 → s.heap.size + cells = B + μ.1 + 1) (hk : chk m pc i = true) (hw : eWf ls st μ) (hs : eSel ewK ewL ewT X pc i ls st μ = some (.inl (pc', ls', st', μ')))
    (kk : eVv B K dA D p l e R s mI args below meth c Q m (cells + (eCc μ' - eCc μ)) (slots + (eSs μ' - eSs μ)) pc' ls' st' μ') : eVv B K dA D p l e R s mI args below meth c Q m cells slots pc ls st μ := by
  obtain ⟨op, a, b, k, v, tg⟩ := i
  obtain ⟨n, e0, pp, hh⟩ := μ
  have sam : μ'.1 = n ∧ μ'.2.1 = e0 → eVv B K dA D p l e R s mI args below meth c Q m cells slots pc' ls' st' μ' := by
    rintro ⟨h1, h2⟩
    have e1 : eCc μ' - eCc (n, e0, pp, hh) = 0 := by unfold eCc; rw [h1, h2]; exact Nat.sub_self _
    have e2 : eSs μ' - eSs (n, e0, pp, hh) = 0 := by unfold eSs; rw [h1, h2]; exact Nat.sub_self _
    rw [e1, e2] at kk
    exact kk
  have new : μ'.1 = n + 1 ∧ μ'.2.1 = e0 → cells + 1 ≤ R.cells ∧ slots + eSz (n + 1) ≤ R.slots ∧ eVv B K dA D p l e R s mI args below meth c Q m (cells + 1) (slots + eSz (n + 1)) pc' ls' st' μ' := by
    rintro ⟨h1, h2⟩
    have e1 : eCc μ' - eCc (n, e0, pp, hh) = 1 := by unfold eCc; rw [h1, h2]; show n + 1 + e0 - (n + e0) = 1; omega
    have e2 : eSs μ' - eSs (n, e0, pp, hh) = eSz (n + 1) := by unfold eSs; rw [h1, h2]; show eSum n + eSz (n + 1) + 6 * e0 - (eSum n + 6 * e0) = _; omega
    rw [e1, e2] at kk
    rw [e1] at hcs
    rw [e2] at hss
    exact ⟨hcs, hss, kk⟩
  have one : μ'.1 = n ∧ μ'.2.1 = e0 + 1 → eVv B K dA D p l e R s mI args below meth c Q m (cells + 1) (slots + 6) pc' ls' st' μ' := by
    rintro ⟨h1, h2⟩
    have e1 : eCc μ' - eCc (n, e0, pp, hh) = 1 := by unfold eCc; rw [h1, h2]; show n + (e0 + 1) - (n + e0) = 1; omega
    have e2 : eSs μ' - eSs (n, e0, pp, hh) = 6 := by unfold eSs; rw [h1, h2]; show eSum n + 6 * (e0 + 1) - (eSum n + 6 * e0) = 6; omega
    rw [e1, e2] at kk
    exact kk
  have hc0 : cells ≤ R.cells := by omega
  have hs0 : slots ≤ R.slots := by omega
  have hop := chk_op hk
  simp only [opsL, List.mem_cons, List.not_mem_nil, or_false] at hop
  rcases hop with rfl | rfl | rfl | rfl | rfl | rfl | rfl | rfl | rfl | rfl | rfl | rfl | rfl | rfl | rfl | rfl | rfl | rfl | rfl | rfl | rfl | rfl | rfl | rfl | rfl | rfl | rfl | rfl | rfl | rfl | rfl | rfl | rfl | rfl | rfl | rfl | rfl | rfl | rfl | rfl | rfl | rfl | rfl | rfl | rfl | rfl | rfl | rfl | rfl | rfl | rfl | rfl | rfl | rfl | rfl | rfl | rfl | rfl | rfl | rfl | rfl | rfl | rfl | rfl | rfl | rfl | rfl | rfl | rfl | rfl | rfl | rfl | rfl | rfl | rfl | rfl | rfl
  · have h := wf_0 hk hw hs
    exact op_0 C hk hw hs (sam h.2)
  · have h := wf_1 hk hw hs
    exact op_1 C hk hw hs (sam h.2)
  · have h := wf_2 hk hw hs
    exact op_2 C hk hw hs (sam h.2)
  · exact (sel_3n hs).elim
  · have h := wf_4 hk hw hs
    exact op_4 C hk hw hs (sam h.2)
  · have h := wf_5 hk hw hs
    exact op_5 C hk hw hs (sam h.2)
  · exact (nn_6 hs).elim
  · have h := wf_7 hk hw hs
    exact op_7 C hk hw hs (sam h.2)
  · have h := wf_8 hk hw hs
    exact op_8 C hk hw hs (sam h.2)
  · have h := wf_9 hk hw hs
    exact op_9 C hk hw hs (sam h.2)
  · have h := wf_10 hk hw hs
    exact op_10 C hk hw hs (sam h.2)
  · have h := wf_11 hk hw hs
    exact op_11 C (hsn (show 11 ∈ [11, 12, 20, 41, 54, 57, 67, 69, 26, 31] by decide)) hk hw hs (sam h.2)
  · have h := wf_12 hk hw hs
    exact op_12 C (hsn (show 12 ∈ [11, 12, 20, 41, 54, 57, 67, 69, 26, 31] by decide)) hk hw hs (sam h.2)
  · have h := wf_13 hk hw hs
    exact op_13 C hk hw hs (sam h.2)
  · have h := wf_14 hk hw hs
    exact op_14 C hk hw hs (sam h.2)
  · have h := wf_15 hk hw hs
    exact op_15 C hk hw hs (sam h.2)
  · have h := wf_16 hk hw hs
    exact op_16 C hk hw hs (sam h.2)
  · exact (nn_17 hs).elim
  · have h := wf_18 hk hw hs
    exact op_18 C hk hw hs (sam h.2)
  · have h := wf_19 hk hw hs
    exact op_19 C hk hw hs (sam h.2)
  · have h := wf_20 hk hw hs
    exact op_20 C (hsn (show 20 ∈ [11, 12, 20, 41, 54, 57, 67, 69, 26, 31] by decide)) hk hw hs (sam h.2)
  · have h := wf_21 hk hw hs
    exact op_21 C hk hw hs (sam h.2)
  · have h := wf_22 hk hw hs
    exact op_22 C hk hw hs (sam h.2)
  · exact (nn_23 hs).elim
  · have h := wf_24 hk hw hs
    exact op_24 C hRf hRl hc0 hs0 hk hw hs (sam h.2)
  · have h := wf_25 hk hw hs
    exact op_25 C hk hw hs (sam h.2)
  · have h := wf_26 hk hw hs
    obtain ⟨j1, j2, j3⟩ := new ⟨h.2.1, h.2.2.1⟩
    exact op_26 C (hsn (show 26 ∈ [11, 12, 20, 41, 54, 57, 67, 69, 26, 31] by decide)) j1 j2 hz hk hw hs j3
  · have h := wf_29 hk hw hs
    exact op_29 C hk hw hs (sam h.2)
  · have h := wf_30 hk hw hs
    exact op_30 C hk hw hs (sam h.2)
  · have h := wf_31 hk hw hs
    obtain ⟨j1, j2, j3⟩ := new ⟨h.2.1, h.2.2.1⟩
    exact op_31 C (hsn (show 31 ∈ [11, 12, 20, 41, 54, 57, 67, 69, 26, 31] by decide)) j1 j2 hz hk hw hs j3
  · have h := wf_32 hk hw hs
    exact op_32 C hk hw hs (sam h.2)
  · have h := wf_33 hk hw hs
    exact op_33 C hk hw hs (sam h.2)
  · have h := wf_34 hk hw hs
    exact op_34 C hk hw hs (sam h.2)
  · have h := wf_38 hk hw hs
    exact op_38 C hk hw hs (sam h.2)
  · have h := wf_39 hk hw hs
    exact op_39 C hk hw hs (sam h.2)
  · exact (nn_40 hs).elim
  · have h := wf_41 hk hw hs
    exact op_41 C (hsn (show 41 ∈ [11, 12, 20, 41, 54, 57, 67, 69, 26, 31] by decide)) hk hw hs (sam h.2)
  · have h := wf_42 hk hw hs
    exact op_42 C hk hw hs (sam h.2)
  · have h := wf_43 hk hw hs
    exact op_43 C hk hw hs (sam h.2)
  · have h := wf_45 hk hw hs
    exact op_45 C hk hw hs (sam h.2)
  · have h := wf_49 hk hw hs
    exact op_49 C hk hw hs (sam h.2)
  · have h := wf_50 hk hw hs
    exact op_50 C hk hw hs (sam h.2)
  · have h := wf_51 hk hw hs
    exact op_51 C hk hw hs (sam h.2)
  · have h := wf_54 hk hw hs
    exact op_54 C (hsn (show 54 ∈ [11, 12, 20, 41, 54, 57, 67, 69, 26, 31] by decide)) hk hw hs (sam h.2)
  · have h := wf_57 hk hw hs
    exact op_57 C (hsn (show 57 ∈ [11, 12, 20, 41, 54, 57, 67, 69, 26, 31] by decide)) hk hw hs (sam h.2)
  · have h := wf_67 hk hw hs
    exact op_67 C (hsn (show 67 ∈ [11, 12, 20, 41, 54, 57, 67, 69, 26, 31] by decide)) hk hw hs (sam h.2)
  · have h := wf_68 hk hw hs
    exact op_68 C hk hw hs (sam h.2)
  · have h := wf_69 hk hw hs
    exact op_69 C (hsn (show 69 ∈ [11, 12, 20, 41, 54, 57, 67, 69, 26, 31] by decide)) hk hw hs (sam h.2)
  · have h := wf_70 hk hw hs
    exact op_70 C hRf hRl hc0 hs0 hk hw hs (sam h.2)
  · have h := wf_71 hk hw hs
    exact op_71 C hRf hRl hc0 hs0 hk hw hs (sam h.2)
  · have h := wf_72 hk hw hs
    exact op_72 C hRf hRl hc0 hs0 hk hw hs (sam h.2)
  · have h := wf_73 hk hw hs
    exact op_73 C hRf hRl hc0 hs0 hk hw hs (sam h.2)
  · have h := wf_74 hk hw hs
    exact op_74 C hk hw hs (sam h.2)
  · have h := wf_75 hk hw hs
    exact op_75 C hRf hRl hc0 hs0 hk hw hs (sam h.2)
  · have h := wf_76 hk hw hs
    exact op_76 C hRf hRl hc0 hs0 hk hw hs (sam h.2)
  · have h := wf_77 hk hw hs
    exact op_77 C hk hw hs (sam h.2)
  · have h := wf_78 hk hw hs
    exact op_78 C hk hw hs (sam h.2)
  · have h := wf_79 hX2 hk hw hs
    exact op_79 C hXK hk hw hs (sam h.2)
  · have h := wf_80 hk hw hs
    exact op_80 C hk hw hs (sam h.2)
  · have h := wf_81 hX hk hw hs
    exact op_81 C hXK hk hw hs (sam h.2)
  · have h := wf_82 hk hw hs
    exact op_82 C hk hw hs (sam h.2)
  · have h := wf_83 hk hw hs
    exact op_83 C hk hw hs (sam h.2)
  · have h := wf_84 hk hw hs
    exact op_84 C hk hw hs (sam h.2)
  · have h := wf_85 hk hw hs
    exact op_85 C hk hw hs (sam h.2)
  · have h := wf_86 hk hw hs
    exact op_86 C hk hw hs (sam h.2)
  · have h := wf_87 hk hw hs
    exact op_87 C hk hw hs (sam h.2)
  · have h := wf_88 hk hw hs
    exact op_88 C hk hw hs (sam h.2)
  · exact (nn_89 hs).elim
  · have h := wf_90 hk hw hs
    exact op_90 C hk hw hs (sam h.2)
  · have h := wf_91 hk hw hs
    exact op_91 C hk hw hs (sam h.2)
  · have h := wf_92 hk hw hs
    exact op_92 C hk hw hs (sam h.2)
  · have h := wf_93 hk hw hs
    exact op_93 C hRf hRl hc0 hs0 hk hw hs (sam h.2)
  · have h := wf_94 hw hs
    exact op_94 C hk hs (one h.2)
  · exact (nn_95 hs).elim
  · exact (no_96 hw hs).elim
  · have h := wf_97 hw hs
    exact op_97 C hRf hRl hc0 hs0 hk hw hs (sam h.2)
  · exact (nn_99 hs).elim
theorem no_thr : ∀ (f m pc : Nat) (ls st : List eV) (μ : eM) (E : Nat) (μ' : eM), eRun X f m pc ls st μ = some (.inr E, μ') → (thr m).contains E = true := by
  intro f
  induction f with
  | zero => intro m pc ls st μ E μ' h; simp [eRun] at h
  | succ f ih =>
    intro m pc ls st μ E μ' h
    unfold eRun at h
    cases hc : ewCode m pc with
    | none => rw [hc] at h; simp at h
    | some i =>
      have hk := chk_all hc
      have ht := th_all hc
      rw [hc] at h
      simp only at h
      rw [eSem_sel] at h
      cases hs : eSel ewK ewL ewT X pc i ls st μ with
      | none => rw [hs] at h; simp [eGo] at h
      | some y =>
        rw [hs] at h
        match y, h, hs with
        | .inl (a, b, c, d), h, hs => exact ih _ _ _ _ _ _ _ h
        | .inr (.inr (o2, μ2)), h, hs =>
          have h2 : some (o2, μ2) = some (.inr E, μ') := h
          cases h2
          obtain ⟨op, a, b, k, v, tg⟩ := i
          obtain ⟨n, e0, pp, hh⟩ := μ
          have hop := sel_e hk hs
          dsimp only at hop
          rcases hop with rfl | rfl | rfl | rfl | rfl
          · rw [sl_6] at hs
            repeat' split at hs
            all_goals cases hs
          · rw [sl_17] at hs
            repeat' split at hs
            all_goals cases hs
          · rw [sl_40] at hs
            repeat' split at hs
            all_goals cases hs
          · rw [sl_89] at hs
            repeat' split at hs
            all_goals cases hs
          · rw [sl_23] at hs
            repeat' split at hs
            all_goals cases hs
            all_goals exact ht
        | .inr (.inl (m2, as, rest)), h, hs =>
          simp only [eGo] at h
          have hth : (thr m2).all (fun E => (ewHnd m pc E).isSome || (thr m).contains E) = true := by
            obtain ⟨op, a, b, k, v, tg⟩ := i
            obtain ⟨n, e0, pp, hh⟩ := μ
            have hop := sel_c hk hs
            dsimp only at hop
            rcases hop with rfl | rfl
            · obtain ⟨q1, -⟩ := sel_3 hs
              rw [q1]
              exact ht
            · rw [ck_95] at hk
              simp only [Bool.and_eq_true, decide_eq_true_eq] at hk
              have ha := hk.1.2
              subst ha
              rw [sl_95 X] at hs
              repeat' split at hs
              all_goals cases hs
              exact ht
          cases h1 : eRun X f m2 0 (eEnt m2 as) [] μ with
          | none => rw [h1] at h; simp at h
          | some q =>
            rw [h1] at h
            match q, h, h1 with
            | (.inl v, μ1), h, h1 => exact ih _ _ _ _ _ _ _ h
            | (.inr E2, μ1), h, h1 =>
              have h3 := ih _ _ _ _ _ _ _ h1
              simp only at h
              cases h2 : ewHnd m pc E2 with
              | none =>
                rw [h2] at h
                cases h
                exact thr_in hth h3 h2
              | some t =>
                rw [h2] at h
                exact ih _ _ _ _ _ _ _ h
theorem no_thr95 {f pc : Nat} {ls st : List eV} {μ μ' : eM} {E : Nat} (h : eRun X f m_L_echoLetter pc ls st μ = some (.inr E, μ')) : False := by
  have h1 := no_thr _ _ _ _ _ _ _ _ h
  rw [show thr m_L_echoLetter = [] by decide +kernel] at h1
  cases h1
def eWo (o : eO) : Prop := ∀ v, o = .inl (some v) → eVw v
theorem endW {pc : Nat} {i : eI} {ls st : List eV} {μ μ' : eM} {o : eO} (hk : chk m pc i = true) (hw : eWf ls st μ) (hs : eSel ewK ewL ewT X pc i ls st μ = some (.inr (.inr (o, μ')))) : eWo o ∧ ((μ' = μ) ∨ (μ'.1 = μ.1 ∧ μ'.2.1 = μ.2.1 + 1 ∧ μ'.2.2 = μ.2.2 ∧ i.1 = 23)) := by
  have hi := sel_e hk hs
  obtain ⟨op, a, b, k, v, tg⟩ := i
  obtain ⟨n, e0, pp, hh⟩ := μ
  obtain ⟨h1, h2, h3, h4⟩ := hw
  dsimp only at hi
  rcases hi with rfl | rfl | rfl | rfl | rfl
  · rw [sl_6] at hs
    repeat' split at hs
    all_goals cases hs
    all_goals exact ⟨fun v hv => (by cases hv; exact h2 _ List.mem_cons_self), Or.inl rfl⟩
  · rw [sl_17] at hs
    repeat' split at hs
    all_goals cases hs
    all_goals exact ⟨fun v hv => (by cases hv), Or.inl rfl⟩
  · rw [sl_40] at hs
    repeat' split at hs
    all_goals cases hs
    all_goals exact ⟨fun v hv => (by cases hv; trivial), Or.inl rfl⟩
  · rw [sl_89] at hs
    repeat' split at hs
    all_goals cases hs
    all_goals exact ⟨fun v hv => (by cases hv; exact h2 _ List.mem_cons_self), Or.inl rfl⟩
  · rw [sl_23] at hs
    repeat' split at hs
    all_goals cases hs
    all_goals exact ⟨fun v hv => (by cases hv), Or.inr ⟨rfl, rfl, rfl, rfl⟩⟩
theorem endS (C : eCx B K dA D p l s mI args meth c m) {pc : Nat} {i : eI} {ls st : List eV} {μ μ' : eM} {o : eO} (hRf : mLv m ≤ R.frames) (hRl : 64 * mLv m ≤ R.locals) (hRc : mc ≤ R.cells) (hRs : ms ≤ R.slots) (hcs : cells + (eCc μ' - eCc μ) ≤ mc) (hss : slots + (eSs μ' - eSs μ) ≤ ms) (hk : chk m pc i = true) (hw : eWf ls st μ) (hs : eSel ewK ewL ewT X pc i ls st μ = some (.inr (.inr (o, μ')))) :
    eVv B K dA D p l e R s mI args below meth c (eQ B K dA D below args s o μ' mc ms) m cells slots pc ls st μ := by
  have hi := sel_e hk hs
  have hE := (endW hk hw hs).2
  obtain ⟨op, a, b, k, v, tg⟩ := i
  obtain ⟨n, e0, pp, hh⟩ := μ
  dsimp only at hi
  rcases hi with rfl | rfl | rfl | rfl | rfl
  · exact op_6 C hk hs (by omega) (by omega)
  · exact op_17 C hk hs (by omega) (by omega)
  · exact op_40 C hk hs (by omega) (by omega)
  · exact op_89 C hk hs (by omega) (by omega)
  · have h9 : μ'.1 = n ∧ μ'.2.1 = e0 + 1 := by
      rw [sl_23] at hs
      split at hs
      · cases hs; exact ⟨rfl, rfl⟩
      · cases hs
    have e1 : eCc μ' - eCc (n, e0, pp, hh) = 1 := by unfold eCc; rw [h9.1, h9.2]; show n + (e0 + 1) - (n + e0) = 1; omega
    have e2 : eSs μ' - eSs (n, e0, pp, hh) = 6 := by unfold eSs; rw [h9.1, h9.2]; show eSum n + 6 * (e0 + 1) - (eSum n + 6 * e0) = 6; omega
    rw [e1] at hcs
    rw [e2] at hss
    exact op_23 C hRf hRl hRc hRs hk hs hcs hss
theorem eMain (hst : l.stackTraces = false) (hXK : eXK K X) (hX : X.1 < 2147483648) (hX2 : ∀ j, inR (X.2 j)) : ∀ (f m pc : Nat) (ls st : List eV) (μ : eM) (o : eO) (μ' : eM), eRun X f m pc ls st μ = some (o, μ') → eWf ls st μ →
    (eWf [] [] μ' ∧ eWo o ∧ μ.1 ≤ μ'.1 ∧ μ.2.1 ≤ μ'.2.1) ∧
    (∀ (p : Program) (e : Env) (R : Room) (s : State) (mI : MethodId) (args : Array Value) (below : List Frame) (meth : Method) (c : Code) (cells slots mc ms : Nat), eCx B K dA D p l s mI args meth c m → mLv m ≤ R.frames → 64 * mLv m ≤ R.locals → mc ≤ R.cells → ms ≤ R.slots →
      cells + (eCc μ' - eCc μ) ≤ mc → slots + (eSs μ' - eSs μ) ≤ ms → (μ.2.1 = 0 → s.heap.size + cells = B + μ.1 + 1) →
      eVv B K dA D p l e R s mI args below meth c (eQ B K dA D below args s o μ' mc ms) m cells slots pc ls st μ) := by
  intro f
  induction f with
  | zero => intro m pc ls st μ o μ' h; simp [eRun] at h
  | succ f ih =>
    intro m pc ls st μ o μ' h hw
    unfold eRun at h
    cases hc : ewCode m pc with
    | none => rw [hc] at h; simp at h
    | some i =>
      have hk := chk_all hc
      rw [hc] at h
      simp only at h
      rw [eSem_sel] at h
      cases hs : eSel ewK ewL ewT X pc i ls st μ with
      | none => rw [hs] at h; simp [eGo] at h
      | some y =>
        rw [hs] at h
        match y, h, hs with
        | .inl (pc', ls', st', μ1), h, hs =>
          have h2 : eRun X f m pc' ls' st' μ1 = some (o, μ') := h
          obtain ⟨hw1, hcnt⟩ := stp hX hX2 hk hw hs
          obtain ⟨⟨r1, r2, r3, r4⟩, r5⟩ := ih m pc' ls' st' μ1 o μ' h2 hw1
          have n1 : μ.1 ≤ μ1.1 ∧ μ.2.1 ≤ μ1.2.1 := by omega
          have s1 := eSum_le n1.1
          have s2 := eSum_le r3
          refine ⟨⟨r1, r2, by omega, by omega⟩, ?_⟩
          intro p e R s mI args below meth c cells slots mc ms C hRf hRl hRc hRs hcs hss hz
          have d1 : eCc μ1 - eCc μ + (eCc μ' - eCc μ1) = eCc μ' - eCc μ := by unfold eCc; omega
          have d2 : eSs μ1 - eSs μ + (eSs μ' - eSs μ1) = eSs μ' - eSs μ := by unfold eSs; omega
          refine stepS C hX hX2 hXK (fun hm => ns_of hc hm) hRf hRl (by omega) (by omega) hz hk hw hs (r5 p e R s mI args below meth c _ _ mc ms C hRf hRl hRc hRs (by omega) (by omega) (fun h0 => ?_))
          have h3 := hz (by omega)
          have d3 : eCc μ1 - eCc μ = μ1.1 - μ.1 := by unfold eCc; omega
          rw [d3]
          omega
        | .inr (.inr (o2, μ2)), h, hs =>
          have h2 : some (o2, μ2) = some (o, μ') := h
          cases h2
          obtain ⟨hwo, hcnt⟩ := endW hk hw hs
          refine ⟨⟨?_, hwo, ?_, ?_⟩, ?_⟩
          · obtain ⟨w1, w2, w3, w4⟩ := hw
            refine ⟨fun _ h => absurd h List.not_mem_nil, fun _ h => absurd h List.not_mem_nil, ?_, ?_⟩
            · rcases hcnt with rfl | ⟨-, -, hq, -⟩
              · exact w3
              · rw [hq]; exact w3
            · rcases hcnt with rfl | ⟨hq, -, -, -⟩
              · exact w4
              · rw [hq]; exact w4
          · rcases hcnt with rfl | hq <;> omega
          · rcases hcnt with rfl | hq <;> omega
          · intro p e R s mI args below meth c cells slots mc ms C hRf hRl hRc hRs hcs hss hz
            exact endS C hRf hRl hRc hRs hcs hss hk hw hs
        | .inr (.inl (m2, as, rest)), h, hs =>
          obtain ⟨op, a, b, k, v, tg⟩ := i
          obtain ⟨n, e0, pp, hh⟩ := μ
          have hop := sel_c hk hs
          dsimp only at hop
          simp only [eGo] at h
          rcases hop with rfl | rfl
          rotate_left
          · rw [ck_95] at hk
            simp only [Bool.and_eq_true, decide_eq_true_eq] at hk
            obtain ⟨⟨⟨rfl, rfl⟩, rfl⟩, rfl⟩ := hk
            rw [sl_95 X] at hs
            split at hs
            next ob w t j2 l0 l4 l17 l18 hs0 =>
              split at hs
              next hg =>
                cases hs
                obtain ⟨hg1, hg2, hg3⟩ := hg
                obtain ⟨w1, w2, w3, w4⟩ := hw
                have hn0 : n = 576 := hg3
                have he0 : 0 < e0 := hg2
                have hwe : eWf (eEnt m_L_echoLetter [vR ob, vI w, vI j2]) [] (n, e0, pp, hh) := by
                  refine ⟨fun x hx => ?_, fun _ h => absurd h List.not_mem_nil, w3, w4⟩
                  unfold eEnt at hx
                  rcases List.mem_append.mp hx with hx | hx
                  · simp only [List.mem_cons, List.not_mem_nil, or_false] at hx
                    rcases hx with rfl | rfl | rfl
                    · trivial
                    · exact w1 _ (List.mem_of_getElem? l4)
                    · exact w1 _ (List.mem_of_getElem? l18)
                  · rw [(List.mem_replicate.mp hx).2]; trivial
                cases hcal : eRun X f m_L_echoLetter 0 (eEnt m_L_echoLetter [vR ob, vI w, vI j2]) [] (n, e0, pp, hh) with
                | none => rw [hcal] at h; simp at h
                | some y =>
                  obtain ⟨o1, μ1⟩ := y
                  rw [hcal] at h
                  obtain ⟨⟨a1, a2, a3, a4⟩, a5⟩ := ih m_L_echoLetter 0 _ _ _ _ _ hcal hwe
                  obtain ⟨-, -, b3, b4⟩ := a1
                  have s1 := eSum_le a3
                  have a3' : n ≤ μ1.1 := a3
                  have a4' : e0 ≤ μ1.2.1 := a4
                  have b4' : μ1.1 ≤ 576 := b4
                  have s1' : eSum n ≤ eSum μ1.1 := s1
                  have hbd : eBd B K dA D l m_L_echoLetter [vR ob, vI w, vI j2] (n, e0, pp, hh) o1 μ1 (eCc μ1 - eCc (n, e0, pp, hh)) (eSs μ1 - eSs (n, e0, pp, hh)) := by
                    intro p e R s mI args below meth c C2 hRf hRl hRc hRs hz
                    exact a5 p e R s mI args below meth c 0 0 _ _ C2 hRf hRl hRc hRs (by omega) (by omega) (fun h0 => by have := hz h0; exact this)
                  match o1, h, hbd, a2 with
                  | .inl vv, hq, hbdq, a2 =>
                    simp only at hq
                    cases f with
                    | zero => simp [eRun] at hq
                    | succ f =>
                      unfold eRun at hq
                      rw [tx_c113] at hq
                      simp only at hq
                      rw [eSem_sel] at hq
                      obtain ⟨n1, e1, p1, h1⟩ := μ1
                      cases hs2 : eSel ewK ewL ewT X (112 + 1) (96, 0, 0, 0, 0, []) ls (vv.toList ++ [vT t]) (n1, e1, p1, h1) with
                      | none => rw [hs2] at hq; simp [eGo] at hq
                      | some y2 =>
                        rw [hs2] at hq
                        have hs3 := hs2
                        rw [sl_96] at hs2
                        split at hs2
                        next xx t2 hst2 =>
                          split at hs2
                          next hlt =>
                            split at hs2
                            next hx2 =>
                              cases hs2
                              have hvv : vv = some (vL xx) ∧ t2 = t := by
                                cases vv with
                                | none => simp at hst2
                                | some v9 =>
                                  simp only [Option.toList_some, List.singleton_append, List.cons.injEq, and_true] at hst2
                                  obtain ⟨q1, q2⟩ := hst2
                                  cases q2
                                  exact ⟨by rw [q1], rfl⟩
                              obtain ⟨rfl, rfl⟩ := hvv
                              have h2 : eRun X f m_L_sounds 126 (eSt ls 17 (vT (t2 ++ [xx]))) [] (n1, e1 + 40, p1, h1) = some (o, μ') := hq
                              have hw2 : eWf (eSt ls 17 (vT (t2 ++ [xx]))) [] (n1, e1 + 40, p1, h1) := by
                                refine ⟨eSt_vl w1 (fun y hy => ?_), fun _ h => absurd h List.not_mem_nil, b3, b4⟩
                                rcases List.mem_append.mp hy with h9 | h9
                                · exact (w1 _ (List.mem_of_getElem? l17) : ∀ x ∈ t2, 0 ≤ x ∧ x < 128) y h9
                                · rw [List.mem_singleton] at h9
                                  subst h9
                                  exact ⟨hx2.1, hx2.2.1⟩
                              obtain ⟨⟨c1, c2, c3, c4⟩, c5⟩ := ih m_L_sounds 126 _ _ _ _ _ (eRun_mono X _ _ _ _ _ _ _ h2) hw2
                              have s2 := eSum_le c3
                              have c3' : n1 ≤ μ'.1 := c3
                              have c4' : e1 + 40 ≤ μ'.2.1 := c4
                              have s2' : eSum n1 ≤ eSum μ'.1 := s2
                              have a3'' : n ≤ n1 := a3'
                              have a4'' : e0 ≤ e1 := a4'
                              have s1'' : eSum n ≤ eSum n1 := s1'
                              have d1 : eCc (n1, e1, p1, h1) - eCc (n, e0, pp, hh) + 40 + (eCc μ' - eCc (n1, e1 + 40, p1, h1)) = eCc μ' - eCc (n, e0, pp, hh) := by
                                show n1 + e1 - (n + e0) + 40 + (μ'.1 + μ'.2.1 - (n1 + (e1 + 40))) = μ'.1 + μ'.2.1 - (n + e0)
                                omega
                              have d2 : eSs (n1, e1, p1, h1) - eSs (n, e0, pp, hh) + 240 + (eSs μ' - eSs (n1, e1 + 40, p1, h1)) = eSs μ' - eSs (n, e0, pp, hh) := by
                                show eSum n1 + 6 * e1 - (eSum n + 6 * e0) + 240 + (eSum μ'.1 + 6 * μ'.2.1 - (eSum n1 + 6 * (e1 + 40))) = eSum μ'.1 + 6 * μ'.2.1 - (eSum n + 6 * e0)
                                omega
                              refine ⟨⟨c1, c2, by show n ≤ _; omega, by show e0 ≤ _; omega⟩, ?_⟩
                              intro p e R s mI args below meth c cells slots mc ms C hRf hRl hRc hRs hcs hss hz
                              refine op_95 C l0 l4 l17 l18 hg1 hn0 he0 (by show n1 = 576; have : n1 ≤ 576 := b4'; omega) hbdq hRf hRl (by omega) (by omega) (fun v hv => by cases hv; exact ⟨xx, rfl, hx2.1, hx2.2.1⟩) (fun x hx h8 h9 => ?_) (fun k hk => by cases hk)
                              cases hx
                              exact c5 p e R s mI args below meth c _ _ mc ms C hRf hRl hRc hRs (by omega) (by omega) (fun h0 => absurd h0 (by show ¬ e1 + 40 = 0; omega))
                            · cases hs2
                          · cases hs2
                        · cases hs2
                  | .inr E, h, hbd, a2 =>
                    simp only at h
                    exact (no_thr95 hcal).elim
              · cases hs
            · cases hs
          obtain ⟨q1, q2, q3, q4, q5, q6, q7⟩ := sel_3 hs
          obtain ⟨w1, w2, w3, w4⟩ := hw
          have hwas : ∀ x ∈ as, eVw x := fun x hx => w2 x (List.mem_of_mem_take (by rw [q2] at hx; exact List.mem_reverse.mp hx))
          have hwre : ∀ x ∈ rest, eVw x := fun x hx => w2 x (List.mem_of_mem_drop (by rw [q3] at hx; exact hx))
          have hwe : eWf (eEnt m2 as) [] (n, e0, pp, hh) := by
            refine ⟨fun x hx => ?_, fun _ h => absurd h List.not_mem_nil, w3, w4⟩
            unfold eEnt at hx
            rcases List.mem_append.mp hx with hx | hx
            · exact eVw_l (hwas x hx)
            · rw [(List.mem_replicate.mp hx).2]; trivial
          cases hcal : eRun X f m2 0 (eEnt m2 as) [] (n, e0, pp, hh) with
          | none => rw [hcal] at h; simp at h
          | some y =>
            obtain ⟨o1, μ1⟩ := y
            rw [hcal] at h
            obtain ⟨⟨a1, a2, a3, a4⟩, a5⟩ := ih m2 0 _ _ _ _ _ hcal hwe
            obtain ⟨-, -, b3, b4⟩ := a1
            have s1 := eSum_le a3
            have hnt : ∀ x ∈ as, eIsT x = false := fun x hx => eVw_T (hwas x hx)
            have hlaw : m2 < m_L_law := by
              have h9 := ck_3 hk
              obtain ⟨_, _, -, -, -, -, h10, -⟩ := h9
              rw [q1]
              exact h10
            have hbd : eBd B K dA D l m2 as (n, e0, pp, hh) o1 μ1 (eCc μ1 - eCc (n, e0, pp, hh)) (eSs μ1 - eSs (n, e0, pp, hh)) := by
              intro p e R s mI args below meth c C2 hRf hRl hRc hRs hz
              exact a5 p e R s mI args below meth c 0 0 _ _ C2 hRf hRl hRc hRs (by omega) (by omega) (fun h0 => by have := hz h0; exact this)
            have fin : ∀ (o : eO) (μ' : eM) (pc2 : Nat) (ls2 st2 : List eV), eRun X f m pc2 ls2 st2 μ1 = some (o, μ') → eWf ls2 st2 μ1 → (eWf [] [] μ' ∧ eWo o ∧ n ≤ μ'.1 ∧ e0 ≤ μ'.2.1) ∧ eCc μ1 - eCc (n, e0, pp, hh) + (eCc μ' - eCc μ1) = eCc μ' - eCc (n, e0, pp, hh) ∧ eSs μ1 - eSs (n, e0, pp, hh) + (eSs μ' - eSs μ1) = eSs μ' - eSs (n, e0, pp, hh) ∧
                (∀ (p : Program) (e : Env) (R : Room) (s : State) (mI : MethodId) (args : Array Value) (below : List Frame) (meth : Method) (c : Code) (cells slots mc ms : Nat), eCx B K dA D p l s mI args meth c m → mLv m ≤ R.frames → 64 * mLv m ≤ R.locals → mc ≤ R.cells → ms ≤ R.slots →
                  cells + (eCc μ' - eCc μ1) ≤ mc → slots + (eSs μ' - eSs μ1) ≤ ms → (μ1.2.1 = 0 → s.heap.size + cells = B + μ1.1 + 1) →
                  eVv B K dA D p l e R s mI args below meth c (eQ B K dA D below args s o μ' mc ms) m cells slots pc2 ls2 st2 μ1) := by
              intro o μ' pc2 ls2 st2 hr2 hw2
              obtain ⟨⟨c1, c2, c3, c4⟩, c5⟩ := ih m pc2 ls2 st2 μ1 o μ' hr2 hw2
              have s2 := eSum_le c3
              have a3' : n ≤ μ1.1 := a3
              have a4' : e0 ≤ μ1.2.1 := a4
              have s1' : eSum n ≤ eSum μ1.1 := s1
              refine ⟨⟨c1, c2, by omega, by omega⟩, ?_, ?_, c5⟩
              · show μ1.1 + μ1.2.1 - (n + e0) + (μ'.1 + μ'.2.1 - (μ1.1 + μ1.2.1)) = μ'.1 + μ'.2.1 - (n + e0)
                omega
              · show eSum μ1.1 + 6 * μ1.2.1 - (eSum n + 6 * e0) + (eSum μ'.1 + 6 * μ'.2.1 - (eSum μ1.1 + 6 * μ1.2.1)) = eSum μ'.1 + 6 * μ'.2.1 - (eSum n + 6 * e0)
                omega
            have hz1 : ∀ (s : State) (cells : Nat), (e0 = 0 → s.heap.size + cells = B + n + 1) → μ1.2.1 = 0 → s.heap.size + (cells + (eCc μ1 - eCc (n, e0, pp, hh))) = B + μ1.1 + 1 := by
              intro s cells hz h0
              have a3' : n ≤ μ1.1 := a3
              have a4' : e0 ≤ μ1.2.1 := a4
              have h1 := hz (by omega)
              have h2 : eCc μ1 - eCc (n, e0, pp, hh) = μ1.1 + μ1.2.1 - (n + e0) := rfl
              rw [h2]
              omega
            match o1, h, hbd, a2 with
            | .inl w, h, hbd, a2 =>
              simp only at h
              have hw2 : eWf ls (w.toList ++ rest) μ1 := by
                refine ⟨w1, fun x hx => ?_, b3, b4⟩
                rcases List.mem_append.mp hx with hx | hx
                · cases w with
                  | none => exact absurd hx List.not_mem_nil
                  | some w9 =>
                    rw [Option.toList_some, List.mem_singleton] at hx
                    subst hx
                    exact a2 _ rfl
                · exact hwre x hx
              obtain ⟨c1, d1, d2, c5⟩ := fin o μ' _ _ _ h hw2
              refine ⟨c1, ?_⟩
              intro p e R s mI args below meth c cells slots mc ms C hRf hRl hRc hRs hcs hss hz
              refine op_3 C hk hs hbd hnt hRf hRl (by omega) (by omega) hz (fun v hv => ?_) (fun k hk => by cases hk)
              cases hv
              exact c5 p e R s mI args below meth c _ _ mc ms C hRf hRl hRc hRs (by omega) (by omega) (hz1 s cells hz)
            | .inr E, h, hbd, a2 =>
              simp only at h
              cases hh2 : ewHnd m pc E with
              | none =>
                rw [hh2] at h
                simp only at h
                cases h
                refine ⟨⟨⟨fun _ h => absurd h List.not_mem_nil, fun _ h => absurd h List.not_mem_nil, b3, b4⟩, a2, a3, a4⟩, ?_⟩
                intro p e R s mI args below meth c cells slots mc ms C hRf hRl hRc hRs hcs hss hz
                refine op_3 C hk hs hbd hnt hRf hRl (by omega) (by omega) hz (fun v hv => by cases hv) (fun k hk9 k1 k2 H9 lsA hL ce q H1 locs1 hR1 hS1 hq hv hcl => ?_)
                cases hk9
                refine hnd_go C k1 k2 hL hq hv hcl (fun _ hpass => ?_) (fun t k hh3 => by rw [hh2] at hh3; cases hh3) (mHh m) [] (by rw [List.nil_append]; exact C.2.2.2.2.2.2.2.1) (fun z hz => absurd hz List.not_mem_nil) (chG_all hc rfl k1 k2)
                refine vx_outP C.2.2.2.2.1 C.2.2.2.2.2.2.1 hpass hq hv hcl (fun t ht hal => ⟨_, rfl, k1, k2, rfl, by rw [ht]; exact hR1, hS1.F ht⟩) hS1.2.2 hcs hss
              | some tk =>
                obtain ⟨t, k⟩ := tk
                rw [hh2] at h
                simp only at h
                have hw2 : eWf (eSt ls k vJ) [] μ1 := ⟨eSt_vw w1 trivial, fun _ h => absurd h List.not_mem_nil, b3, b4⟩
                obtain ⟨c1, d1, d2, c5⟩ := fin o μ' _ _ _ h hw2
                refine ⟨c1, ?_⟩
                intro p e R s mI args below meth c cells slots mc ms C hRf hRl hRc hRs hcs hss hz
                refine op_3 C hk hs hbd hnt hRf hRl (by omega) (by omega) hz (fun v hv => by cases hv) (fun k9 hk9 k1 k2 H9 lsA hL ce q H1 locs1 hR1 hS1 hq hv hcl => ?_)
                cases hk9
                refine hnd_go C k1 k2 hL hq hv hcl (fun hh3 _ => by rw [hh2] at hh3; cases hh3) (fun t3 k3 hh3 lsB hB => ?_) (mHh m) [] (by rw [List.nil_append]; exact C.2.2.2.2.2.2.2.1) (fun z hz => absurd hz List.not_mem_nil) (chG_all hc rfl k1 k2)
                rw [hh2] at hh3
                cases hh3
                exact c5 p e R s mI args below meth c _ _ mc ms C hRf hRl hRc hRs (by omega) (by omega) (hz1 s cells hz) H1 locs1 lsB hR1 hS1 hB
end
