/-! the check, by place -/
theorem chkL_at {m b : Nat} : ∀ (L : List eI) (j0 j : Nat) (ins : eI), chkL m b j0 L = true → L[j]? = some ins → chk m (16 * b + (j0 + j)) ins = true := by
  intro L
  induction L with
  | nil => intro j0 j ins _ h; simp at h
  | cons x r ih =>
    intro j0 j ins h hj
    simp only [chkL, Bool.and_eq_true] at h
    cases j with
    | zero => simp only [List.getElem?_cons_zero, Option.some.injEq] at hj; subst hj; exact h.1
    | succ j =>
      rw [List.getElem?_cons_succ] at hj
      have h1 := ih (j0 + 1) j ins h.2 hj
      rw [show j0 + 1 + j = j0 + (j + 1) by omega] at h1
      exact h1
theorem chkB_at {m : Nat} : ∀ (L : List (List eI)) (b0 b j : Nat) (ins : eI), chkB m b0 L = true → (L.getD b [])[j]? = some ins → chk m (16 * (b0 + b) + j) ins = true := by
  intro L
  induction L with
  | nil => intro b0 b j ins _ h; simp at h
  | cons x r ih =>
    intro b0 b j ins h hj
    simp only [chkB, Bool.and_eq_true] at h
    cases b with
    | zero =>
      have h1 := chkL_at x 0 j ins h.1 (by simpa using hj)
      rw [Nat.zero_add] at h1
      exact h1
    | succ b =>
      have h1 := ih (b0 + 1) b j ins h.2 (by simpa using hj)
      rw [show b0 + 1 + b = b0 + (b + 1) by omega] at h1
      exact h1
theorem ewCode_lt {m i : Nat} {ins : eI} (h : ewCode m i = some ins) : m < 186 := by
  rcases Nat.lt_or_ge m 186 with q | q
  · exact q
  · exfalso
    have h1 : cdAll.length = 12 := by decide +kernel
    have h2 : (cdAll.getD 11 []).length = 10 := by decide +kernel
    have h3 : (cdAll.getD (m / 16) []).getD (m % 16) [] = [] := by
      by_cases h4 : m / 16 = 11
      · rw [h4, List.getD_eq_getElem?_getD, List.getElem?_eq_none (by omega)]
        rfl
      · rw [show cdAll.getD (m / 16) [] = [] by rw [List.getD_eq_getElem?_getD, List.getElem?_eq_none (by omega)]; rfl]
        rfl
    unfold ewCode at h
    rw [h3] at h
    simp at h
theorem chkMs_at {m : Nat} : ∀ (j k : Nat), chkMs m j = true → k < j → chkMm (m + k) = true := by
  intro j
  induction j with
  | zero => intro k _ h; omega
  | succ j ih =>
    intro k h hk
    simp only [chkMs, Bool.and_eq_true] at h
    by_cases hj : k = j
    · subst hj; exact h.1
    · exact ih k h.2 (by omega)
theorem chkR_at {m b : Nat} : ∀ (j k : Nat), chkR m b j = true → k < j → chkL m (b + k) 0 (((cdAll.getD (m / 16) []).getD (m % 16) []).getD (b + k) []) = true := by
  intro j
  induction j with
  | zero => intro k _ h; omega
  | succ j ih =>
    intro k h hk
    simp only [chkR, Bool.and_eq_true] at h
    by_cases hj : k = j
    · subst hj; exact h.1
    · exact ih k h.2 (by omega)
theorem chk_t : ∀ m, m < 185 → chkMm m = true := by
  intro m hm
  by_cases h0 : m < 8
  · have h := chkMs_at _ (m - 0) chk_t0 (by omega); rw [show 0 + (m - 0) = m by omega] at h; exact h
  by_cases h1 : m < 16
  · have h := chkMs_at _ (m - 8) chk_t1 (by omega); rw [show 8 + (m - 8) = m by omega] at h; exact h
  by_cases h2 : m < 24
  · have h := chkMs_at _ (m - 16) chk_t2 (by omega); rw [show 16 + (m - 16) = m by omega] at h; exact h
  by_cases h3 : m < 32
  · have h := chkMs_at _ (m - 24) chk_t3 (by omega); rw [show 24 + (m - 24) = m by omega] at h; exact h
  by_cases h4 : m < 40
  · have h := chkMs_at _ (m - 32) chk_t4 (by omega); rw [show 32 + (m - 32) = m by omega] at h; exact h
  by_cases h5 : m < 48
  · have h := chkMs_at _ (m - 40) chk_t5 (by omega); rw [show 40 + (m - 40) = m by omega] at h; exact h
  by_cases h6 : m < 56
  · have h := chkMs_at _ (m - 48) chk_t6 (by omega); rw [show 48 + (m - 48) = m by omega] at h; exact h
  by_cases h7 : m < 64
  · have h := chkMs_at _ (m - 56) chk_t7 (by omega); rw [show 56 + (m - 56) = m by omega] at h; exact h
  by_cases h8 : m < 72
  · have h := chkMs_at _ (m - 64) chk_t8 (by omega); rw [show 64 + (m - 64) = m by omega] at h; exact h
  by_cases h9 : m < 80
  · have h := chkMs_at _ (m - 72) chk_t9 (by omega); rw [show 72 + (m - 72) = m by omega] at h; exact h
  by_cases h10 : m < 88
  · have h := chkMs_at _ (m - 80) chk_t10 (by omega); rw [show 80 + (m - 80) = m by omega] at h; exact h
  by_cases h11 : m < 96
  · have h := chkMs_at _ (m - 88) chk_t11 (by omega); rw [show 88 + (m - 88) = m by omega] at h; exact h
  by_cases h12 : m < 104
  · have h := chkMs_at _ (m - 96) chk_t12 (by omega); rw [show 96 + (m - 96) = m by omega] at h; exact h
  by_cases h13 : m < 112
  · have h := chkMs_at _ (m - 104) chk_t13 (by omega); rw [show 104 + (m - 104) = m by omega] at h; exact h
  by_cases h14 : m < 120
  · have h := chkMs_at _ (m - 112) chk_t14 (by omega); rw [show 112 + (m - 112) = m by omega] at h; exact h
  by_cases h15 : m < 128
  · have h := chkMs_at _ (m - 120) chk_t15 (by omega); rw [show 120 + (m - 120) = m by omega] at h; exact h
  by_cases h16 : m < 136
  · have h := chkMs_at _ (m - 128) chk_t16 (by omega); rw [show 128 + (m - 128) = m by omega] at h; exact h
  by_cases h17 : m < 144
  · have h := chkMs_at _ (m - 136) chk_t17 (by omega); rw [show 136 + (m - 136) = m by omega] at h; exact h
  by_cases h18 : m < 152
  · have h := chkMs_at _ (m - 144) chk_t18 (by omega); rw [show 144 + (m - 144) = m by omega] at h; exact h
  by_cases h19 : m < 160
  · have h := chkMs_at _ (m - 152) chk_t19 (by omega); rw [show 152 + (m - 152) = m by omega] at h; exact h
  by_cases h20 : m < 168
  · have h := chkMs_at _ (m - 160) chk_t20 (by omega); rw [show 160 + (m - 160) = m by omega] at h; exact h
  by_cases h21 : m < 176
  · have h := chkMs_at _ (m - 168) chk_t21 (by omega); rw [show 168 + (m - 168) = m by omega] at h; exact h
  by_cases h22 : m < 184
  · have h := chkMs_at _ (m - 176) chk_t22 (by omega); rw [show 176 + (m - 176) = m by omega] at h; exact h
  have h := chkMs_at _ (m - 184) chk_t23 (by omega)
  rw [show 184 + (m - 184) = m by omega] at h
  exact h
theorem chk_law {i : Nat} {ins : eI} (h : ewCode 185 i = some ins) : chk 185 i ins = true := by
  have hb : i / 16 < 11 := by
    rcases Nat.lt_or_ge (i / 16) 11 with q | q
    · exact q
    · exfalso
      have h1 : ((cdAll.getD (185 / 16) []).getD (185 % 16) []).length = 11 := by decide +kernel
      unfold ewCode at h
      rw [show ((cdAll.getD (185 / 16) []).getD (185 % 16) []).getD (i / 16) [] = [] by rw [List.getD_eq_getElem?_getD, List.getElem?_eq_none (by omega)]; rfl] at h
      simp at h
  have hL : chkL 185 (i / 16) 0 (((cdAll.getD (185 / 16) []).getD (185 % 16) []).getD (i / 16) []) = true := by
    clear h
    generalize i / 16 = b at hb ⊢
    by_cases h0 : b < 2
    · have h := chkR_at _ (b - 0) chk_w0 (by omega); rw [show 0 + (b - 0) = b by omega] at h; exact h
    by_cases h1 : b < 4
    · have h := chkR_at _ (b - 2) chk_w1 (by omega); rw [show 2 + (b - 2) = b by omega] at h; exact h
    by_cases h2 : b < 6
    · have h := chkR_at _ (b - 4) chk_w2 (by omega); rw [show 4 + (b - 4) = b by omega] at h; exact h
    by_cases h3 : b < 8
    · have h := chkR_at _ (b - 6) chk_w3 (by omega); rw [show 6 + (b - 6) = b by omega] at h; exact h
    by_cases h4 : b < 10
    · have h := chkR_at _ (b - 8) chk_w4 (by omega); rw [show 8 + (b - 8) = b by omega] at h; exact h
    have h := chkR_at _ (b - 10) chk_w5 (by omega)
    rw [show 10 + (b - 10) = b by omega] at h
    exact h
  unfold ewCode at h
  have h2 := chkL_at _ 0 (i % 16) ins hL h
  rw [show 16 * (i / 16) + (0 + i % 16) = i by omega] at h2
  exact h2
theorem chk_all {m i : Nat} {ins : eI} (h : ewCode m i = some ins) : chk m i ins = true := by
  by_cases hm : m = 185
  · subst hm; exact chk_law h
  · have h1 := chk_t m (by have := ewCode_lt h; omega)
    unfold ewCode at h
    have h2 := chkB_at _ 0 (i / 16) (i % 16) ins h1 h
    rw [show 16 * (0 + i / 16) + i % 16 = i by omega] at h2
    exact h2
/-- what writes cells, or makes them, stands in no method with texts -/
theorem ns_gen (c : List (List eI)) (h : c.all (fun L => L.all (fun ins => !([11, 12, 20, 41, 54, 57, 67, 69, 26, 31].contains ins.1))) = true) (b j : Nat) (ins : eI) (hc : (c.getD b [])[j]? = some ins) : ins.1 ∉ [11, 12, 20, 41, 54, 57, 67, 69, 26, 31] := by
  intro hm
  rw [List.all_eq_true] at h
  have hL : c.getD b [] ∈ c := by
    rw [List.getD_eq_getElem?_getD] at hc ⊢
    cases hq : c[b]? with
    | none => rw [hq] at hc; simp at hc
    | some L => rw [Option.getD_some]; exact List.mem_of_getElem? hq
  have h2 := h _ hL
  rw [List.all_eq_true] at h2
  have h3 := h2 ins (List.mem_of_getElem? hc)
  rw [List.contains_iff_mem.mpr hm] at h3
  cases h3
theorem ns_all : ∀ i, i < 240 → ∀ ins, ewCode m_L_sounds i = some ins → ins.1 ∉ [11, 12, 20, 41, 54, 57, 67, 69, 26, 31] := by
  have h : ((cdAll.getD (m_L_sounds / 16) []).getD (m_L_sounds % 16) []).all (fun L => L.all (fun ins => !([11, 12, 20, 41, 54, 57, 67, 69, 26, 31].contains ins.1))) = true := by decide +kernel
  intro i _ ins hc
  exact ns_gen _ h _ _ _ hc
theorem ns_of {m i : Nat} {ins : eI} (hc : ewCode m i = some ins) (hm : ins.1 ∈ [11, 12, 20, 41, 54, 57, 67, 69, 26, 31]) : ¬ m = m_L_sounds := by
  rintro rfl
  have hi : i < 240 := by
    rcases Nat.lt_or_ge i 240 with q | q
    · exact q
    · exfalso
      have h1 : ((cdAll.getD (m_L_sounds / 16) []).getD (m_L_sounds % 16) []).length = 15 := by decide +kernel
      unfold ewCode at hc
      rw [show ((cdAll.getD (m_L_sounds / 16) []).getD (m_L_sounds % 16) []).getD (i / 16) [] = [] by rw [List.getD_eq_getElem?_getD, List.getElem?_eq_none (by omega)]; rfl] at hc
      simp at hc
  exact ns_all i hi ins hc hm
