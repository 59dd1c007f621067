/-! which exceptions a method can end with -/
def thT : List (List (List Nat)) := [[[], [], [], [], [], [], [], [], [], [], [], [], [], [], [], []], [[], [], [], [], [], [], [], [], [], [], [], [], [], [], [], []], [[], [], [], [], [], [], [], [], [], [], [], [], [], [], [], []], [[], [], [], [], [], [], [], [], [], [], [], [], [], [], [], []], [[], [], [], [], [], [], [], [], [], [], [], [], [], [], [], []], [[], [], [], [], [], [], [], [], [], [], [], [], [], [], [], []], [[], [1], [1], [1], [1], [1], [1], [1], [1], [1], [1], [1], [2, 3], [1], [2, 4], [2, 4]], [[2, 4], [2, 5], [4], [4], [4], [4, 5], [4, 5], [4, 5], [4, 5], [4, 5], [4, 5], [2, 5], [], [2, 3], [1, 2], []], [[4], [2], [3], [], [3], [1], [], [4], [4], [4, 5], [], [], [], [], [], []], [[], [], [], [], [1], [], [4], [], [4], [], [], [], [], [], [], []], [[], [], [], [], [], [], [], [], [], [], [], [], [], [], [], []], [[4], [], [], [], [], [], [], [], [], [1, 4]]]
def thr (m : Nat) : List Nat := (thT.getD (m / 16) []).getD (m % 16) []
def thI (m i : Nat) (ins : eI) : Bool := match ins.1 with
  | 23 => (thr m).contains ins.2.1
  | 3 => (thr ins.2.1).all (fun E => (ewHnd m i E).isSome || (thr m).contains E)
  | 95 => (thr m_L_echoLetter).all (fun E => (ewHnd m i E).isSome || (thr m).contains E)
  | _ => true
def thL (m b : Nat) : Nat → List eI → Bool
  | _, [] => true
  | j, ins :: r => thI m (16 * b + j) ins && thL m b (j + 1) r
def thB (m : Nat) : Nat → List (List eI) → Bool
  | _, [] => true
  | b, L :: r => thL m b 0 L && thB m (b + 1) r
def thMm (m : Nat) : Bool := thB m 0 ((cdAll.getD (m / 16) []).getD (m % 16) [])
def thMs (m : Nat) : Nat → Bool
  | 0 => true
  | j + 1 => thMm (m + j) && thMs m j
theorem th_t0 : thMs 0 62 = true := by decide +kernel
theorem th_t1 : thMs 62 62 = true := by decide +kernel
theorem th_t2 : thMs 124 62 = true := by decide +kernel
theorem thL_at {m b : Nat} : ∀ (L : List eI) (j0 j : Nat) (ins : eI), thL m b j0 L = true → L[j]? = some ins → thI m (16 * b + (j0 + j)) ins = true := by
  intro L
  induction L with
  | nil => intro j0 j ins _ h; simp at h
  | cons x r ih =>
    intro j0 j ins h hj
    simp only [thL, Bool.and_eq_true] at h
    cases j with
    | zero => simp only [List.getElem?_cons_zero, Option.some.injEq] at hj; subst hj; exact h.1
    | succ j =>
      rw [List.getElem?_cons_succ] at hj
      have h1 := ih (j0 + 1) j ins h.2 hj
      rw [show j0 + 1 + j = j0 + (j + 1) by omega] at h1
      exact h1
theorem thB_at {m : Nat} : ∀ (L : List (List eI)) (b0 b j : Nat) (ins : eI), thB m b0 L = true → (L.getD b [])[j]? = some ins → thI m (16 * (b0 + b) + j) ins = true := by
  intro L
  induction L with
  | nil => intro b0 b j ins _ h; simp at h
  | cons x r ih =>
    intro b0 b j ins h hj
    simp only [thB, Bool.and_eq_true] at h
    cases b with
    | zero =>
      have h1 := thL_at x 0 j ins h.1 (by simpa using hj)
      rw [Nat.zero_add] at h1
      exact h1
    | succ b =>
      have h1 := ih (b0 + 1) b j ins h.2 (by simpa using hj)
      rw [show b0 + 1 + b = b0 + (b + 1) by omega] at h1
      exact h1
theorem thMs_at {m : Nat} : ∀ (j k : Nat), thMs m j = true → k < j → thMm (m + k) = true := by
  intro j
  induction j with
  | zero => intro k _ h; omega
  | succ j ih =>
    intro k h hk
    simp only [thMs, Bool.and_eq_true] at h
    by_cases hj : k = j
    · subst hj; exact h.1
    · exact ih k h.2 (by omega)
theorem th_t : ∀ m, m < 186 → thMm m = true := by
  intro m hm
  by_cases h0 : m < 62
  · have h := thMs_at _ (m - 0) th_t0 (by omega); rw [show 0 + (m - 0) = m by omega] at h; exact h
  by_cases h1 : m < 124
  · have h := thMs_at _ (m - 62) th_t1 (by omega); rw [show 62 + (m - 62) = m by omega] at h; exact h
  have h := thMs_at _ (m - 124) th_t2 (by omega)
  rw [show 124 + (m - 124) = m by omega] at h
  exact h
theorem th_all {m i : Nat} {ins : eI} (h : ewCode m i = some ins) : thI m i ins = true := by
  have h1 := th_t m (ewCode_lt h)
  unfold ewCode at h
  have h2 := thB_at _ 0 (i / 16) (i % 16) ins h1 h
  rw [show 16 * (0 + i / 16) + i % 16 = i by omega] at h2
  exact h2
theorem thr_in {m i a : Nat} {E : Nat} (h : (thr a).all (fun E => (ewHnd m i E).isSome || (thr m).contains E) = true) (hE : (thr a).contains E = true) (hn : ewHnd m i E = none) : (thr m).contains E = true := by
  rw [List.all_eq_true] at h
  have h1 := h E (List.contains_iff_mem.mp hE)
  rw [hn] at h1
  simpa using h1
