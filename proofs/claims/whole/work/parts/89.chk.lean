/-! the check, by place -/
theorem chkL_at {m b : Nat} : ∀ (L : List eI) (j0 j : Nat) (ins : eI), chkL m b j0 L = true → L[j]? = some ins → chk m (16 * b + (j0 + j)) ins = true := by
  intro L
  induction L with
  | nil => intro j0 j ins _ h; simp at h
  | cons x r ih =>
    intro j0 j ins h hj
    simp only [chkL, Bool.and_eq_true] at h
    cases j with
    | zero => simp only [List.getElem?_cons_zero, Option.some.injEq] at hj; subst hj; exact h.1
    | succ j =>
      rw [List.getElem?_cons_succ] at hj
      have h1 := ih (j0 + 1) j ins h.2 hj
      rw [show j0 + 1 + j = j0 + (j + 1) by omega] at h1
      exact h1
theorem chkB_at {m : Nat} : ∀ (L : List (List eI)) (b0 b j : Nat) (ins : eI), chkB m b0 L = true → (L.getD b [])[j]? = some ins → chk m (16 * (b0 + b) + j) ins = true := by
  intro L
  induction L with
  | nil => intro b0 b j ins _ h; simp at h
  | cons x r ih =>
    intro b0 b j ins h hj
    simp only [chkB, Bool.and_eq_true] at h
    cases b with
    | zero =>
      have h1 := chkL_at x 0 j ins h.1 (by simpa using hj)
      rw [Nat.zero_add] at h1
      exact h1
    | succ b =>
      have h1 := ih (b0 + 1) b j ins h.2 (by simpa using hj)
      rw [show b0 + 1 + b = b0 + (b + 1) by omega] at h1
      exact h1
theorem ewCode_lt {m i : Nat} {ins : eI} (h : ewCode m i = some ins) : m < 318 := by
  rcases Nat.lt_or_ge m 318 with q | q
  · exact q
  · exfalso
    have h1 : cdAll.length = 20 := by decide +kernel
    have h2 : (cdAll.getD 19 []).length = 14 := by decide +kernel
    have h3 : (cdAll.getD (m / 16) []).getD (m % 16) [] = [] := by
      by_cases h4 : m / 16 = 19
      · rw [h4, List.getD_eq_getElem?_getD, List.getElem?_eq_none (by omega)]
        rfl
      · rw [show cdAll.getD (m / 16) [] = [] by rw [List.getD_eq_getElem?_getD, List.getElem?_eq_none (by omega)]; rfl]
        rfl
    unfold ewCode at h
    rw [h3] at h
    simp at h
theorem chkMs_at {m : Nat} : ∀ (j k : Nat), chkMs m j = true → k < j → chkMm (m + k) = true := by
  intro j
  induction j with
  | zero => intro k _ h; omega
  | succ j ih =>
    intro k h hk
    simp only [chkMs, Bool.and_eq_true] at h
    by_cases hj : k = j
    · subst hj; exact h.1
    · exact ih k h.2 (by omega)
theorem chkR_at {m b : Nat} : ∀ (j k : Nat), chkR m b j = true → k < j → chkL m (b + k) 0 (((cdAll.getD (m / 16) []).getD (m % 16) []).getD (b + k) []) = true := by
  intro j
  induction j with
  | zero => intro k _ h; omega
  | succ j ih =>
    intro k h hk
    simp only [chkR, Bool.and_eq_true] at h
    by_cases hj : k = j
    · subst hj; exact h.1
    · exact ih k h.2 (by omega)
theorem chk_t : ∀ m, m < 317 → chkMm m = true := by
  intro m hm
  by_cases h0 : m < 8
  · have h := chkMs_at _ (m - 0) chk_t0 (by omega); rw [show 0 + (m - 0) = m by omega] at h; exact h
  by_cases h1 : m < 16
  · have h := chkMs_at _ (m - 8) chk_t1 (by omega); rw [show 8 + (m - 8) = m by omega] at h; exact h
  by_cases h2 : m < 24
  · have h := chkMs_at _ (m - 16) chk_t2 (by omega); rw [show 16 + (m - 16) = m by omega] at h; exact h
  by_cases h3 : m < 32
  · have h := chkMs_at _ (m - 24) chk_t3 (by omega); rw [show 24 + (m - 24) = m by omega] at h; exact h
  by_cases h4 : m < 40
  · have h := chkMs_at _ (m - 32) chk_t4 (by omega); rw [show 32 + (m - 32) = m by omega] at h; exact h
  by_cases h5 : m < 48
  · have h := chkMs_at _ (m - 40) chk_t5 (by omega); rw [show 40 + (m - 40) = m by omega] at h; exact h
  by_cases h6 : m < 56
  · have h := chkMs_at _ (m - 48) chk_t6 (by omega); rw [show 48 + (m - 48) = m by omega] at h; exact h
  by_cases h7 : m < 64
  · have h := chkMs_at _ (m - 56) chk_t7 (by omega); rw [show 56 + (m - 56) = m by omega] at h; exact h
  by_cases h8 : m < 72
  · have h := chkMs_at _ (m - 64) chk_t8 (by omega); rw [show 64 + (m - 64) = m by omega] at h; exact h
  by_cases h9 : m < 80
  · have h := chkMs_at _ (m - 72) chk_t9 (by omega); rw [show 72 + (m - 72) = m by omega] at h; exact h
  by_cases h10 : m < 88
  · have h := chkMs_at _ (m - 80) chk_t10 (by omega); rw [show 80 + (m - 80) = m by omega] at h; exact h
  by_cases h11 : m < 96
  · have h := chkMs_at _ (m - 88) chk_t11 (by omega); rw [show 88 + (m - 88) = m by omega] at h; exact h
  by_cases h12 : m < 104
  · have h := chkMs_at _ (m - 96) chk_t12 (by omega); rw [show 96 + (m - 96) = m by omega] at h; exact h
  by_cases h13 : m < 112
  · have h := chkMs_at _ (m - 104) chk_t13 (by omega); rw [show 104 + (m - 104) = m by omega] at h; exact h
  by_cases h14 : m < 120
  · have h := chkMs_at _ (m - 112) chk_t14 (by omega); rw [show 112 + (m - 112) = m by omega] at h; exact h
  by_cases h15 : m < 128
  · have h := chkMs_at _ (m - 120) chk_t15 (by omega); rw [show 120 + (m - 120) = m by omega] at h; exact h
  by_cases h16 : m < 136
  · have h := chkMs_at _ (m - 128) chk_t16 (by omega); rw [show 128 + (m - 128) = m by omega] at h; exact h
  by_cases h17 : m < 144
  · have h := chkMs_at _ (m - 136) chk_t17 (by omega); rw [show 136 + (m - 136) = m by omega] at h; exact h
  by_cases h18 : m < 152
  · have h := chkMs_at _ (m - 144) chk_t18 (by omega); rw [show 144 + (m - 144) = m by omega] at h; exact h
  by_cases h19 : m < 160
  · have h := chkMs_at _ (m - 152) chk_t19 (by omega); rw [show 152 + (m - 152) = m by omega] at h; exact h
  by_cases h20 : m < 168
  · have h := chkMs_at _ (m - 160) chk_t20 (by omega); rw [show 160 + (m - 160) = m by omega] at h; exact h
  by_cases h21 : m < 176
  · have h := chkMs_at _ (m - 168) chk_t21 (by omega); rw [show 168 + (m - 168) = m by omega] at h; exact h
  by_cases h22 : m < 184
  · have h := chkMs_at _ (m - 176) chk_t22 (by omega); rw [show 176 + (m - 176) = m by omega] at h; exact h
  by_cases h23 : m < 192
  · have h := chkMs_at _ (m - 184) chk_t23 (by omega); rw [show 184 + (m - 184) = m by omega] at h; exact h
  by_cases h24 : m < 200
  · have h := chkMs_at _ (m - 192) chk_t24 (by omega); rw [show 192 + (m - 192) = m by omega] at h; exact h
  by_cases h25 : m < 208
  · have h := chkMs_at _ (m - 200) chk_t25 (by omega); rw [show 200 + (m - 200) = m by omega] at h; exact h
  by_cases h26 : m < 216
  · have h := chkMs_at _ (m - 208) chk_t26 (by omega); rw [show 208 + (m - 208) = m by omega] at h; exact h
  by_cases h27 : m < 224
  · have h := chkMs_at _ (m - 216) chk_t27 (by omega); rw [show 216 + (m - 216) = m by omega] at h; exact h
  by_cases h28 : m < 232
  · have h := chkMs_at _ (m - 224) chk_t28 (by omega); rw [show 224 + (m - 224) = m by omega] at h; exact h
  by_cases h29 : m < 240
  · have h := chkMs_at _ (m - 232) chk_t29 (by omega); rw [show 232 + (m - 232) = m by omega] at h; exact h
  by_cases h30 : m < 248
  · have h := chkMs_at _ (m - 240) chk_t30 (by omega); rw [show 240 + (m - 240) = m by omega] at h; exact h
  by_cases h31 : m < 256
  · have h := chkMs_at _ (m - 248) chk_t31 (by omega); rw [show 248 + (m - 248) = m by omega] at h; exact h
  by_cases h32 : m < 264
  · have h := chkMs_at _ (m - 256) chk_t32 (by omega); rw [show 256 + (m - 256) = m by omega] at h; exact h
  by_cases h33 : m < 272
  · have h := chkMs_at _ (m - 264) chk_t33 (by omega); rw [show 264 + (m - 264) = m by omega] at h; exact h
  by_cases h34 : m < 280
  · have h := chkMs_at _ (m - 272) chk_t34 (by omega); rw [show 272 + (m - 272) = m by omega] at h; exact h
  by_cases h35 : m < 288
  · have h := chkMs_at _ (m - 280) chk_t35 (by omega); rw [show 280 + (m - 280) = m by omega] at h; exact h
  by_cases h36 : m < 296
  · have h := chkMs_at _ (m - 288) chk_t36 (by omega); rw [show 288 + (m - 288) = m by omega] at h; exact h
  by_cases h37 : m < 304
  · have h := chkMs_at _ (m - 296) chk_t37 (by omega); rw [show 296 + (m - 296) = m by omega] at h; exact h
  by_cases h38 : m < 312
  · have h := chkMs_at _ (m - 304) chk_t38 (by omega); rw [show 304 + (m - 304) = m by omega] at h; exact h
  have h := chkMs_at _ (m - 312) chk_t39 (by omega)
  rw [show 312 + (m - 312) = m by omega] at h
  exact h
theorem chk_law {i : Nat} {ins : eI} (h : ewCode 317 i = some ins) : chk 317 i ins = true := by
  have hb : i / 16 < 97 := by
    rcases Nat.lt_or_ge (i / 16) 97 with q | q
    · exact q
    · exfalso
      have h1 : ((cdAll.getD (317 / 16) []).getD (317 % 16) []).length = 97 := by decide +kernel
      unfold ewCode at h
      rw [show ((cdAll.getD (317 / 16) []).getD (317 % 16) []).getD (i / 16) [] = [] by rw [List.getD_eq_getElem?_getD, List.getElem?_eq_none (by omega)]; rfl] at h
      simp at h
  have hL : chkL 317 (i / 16) 0 (((cdAll.getD (317 / 16) []).getD (317 % 16) []).getD (i / 16) []) = true := by
    clear h
    generalize i / 16 = b at hb ⊢
    by_cases h0 : b < 2
    · have h := chkR_at _ (b - 0) chk_w0 (by omega); rw [show 0 + (b - 0) = b by omega] at h; exact h
    by_cases h1 : b < 4
    · have h := chkR_at _ (b - 2) chk_w1 (by omega); rw [show 2 + (b - 2) = b by omega] at h; exact h
    by_cases h2 : b < 6
    · have h := chkR_at _ (b - 4) chk_w2 (by omega); rw [show 4 + (b - 4) = b by omega] at h; exact h
    by_cases h3 : b < 8
    · have h := chkR_at _ (b - 6) chk_w3 (by omega); rw [show 6 + (b - 6) = b by omega] at h; exact h
    by_cases h4 : b < 10
    · have h := chkR_at _ (b - 8) chk_w4 (by omega); rw [show 8 + (b - 8) = b by omega] at h; exact h
    by_cases h5 : b < 12
    · have h := chkR_at _ (b - 10) chk_w5 (by omega); rw [show 10 + (b - 10) = b by omega] at h; exact h
    by_cases h6 : b < 14
    · have h := chkR_at _ (b - 12) chk_w6 (by omega); rw [show 12 + (b - 12) = b by omega] at h; exact h
    by_cases h7 : b < 16
    · have h := chkR_at _ (b - 14) chk_w7 (by omega); rw [show 14 + (b - 14) = b by omega] at h; exact h
    by_cases h8 : b < 18
    · have h := chkR_at _ (b - 16) chk_w8 (by omega); rw [show 16 + (b - 16) = b by omega] at h; exact h
    by_cases h9 : b < 20
    · have h := chkR_at _ (b - 18) chk_w9 (by omega); rw [show 18 + (b - 18) = b by omega] at h; exact h
    by_cases h10 : b < 22
    · have h := chkR_at _ (b - 20) chk_w10 (by omega); rw [show 20 + (b - 20) = b by omega] at h; exact h
    by_cases h11 : b < 24
    · have h := chkR_at _ (b - 22) chk_w11 (by omega); rw [show 22 + (b - 22) = b by omega] at h; exact h
    by_cases h12 : b < 26
    · have h := chkR_at _ (b - 24) chk_w12 (by omega); rw [show 24 + (b - 24) = b by omega] at h; exact h
    by_cases h13 : b < 28
    · have h := chkR_at _ (b - 26) chk_w13 (by omega); rw [show 26 + (b - 26) = b by omega] at h; exact h
    by_cases h14 : b < 30
    · have h := chkR_at _ (b - 28) chk_w14 (by omega); rw [show 28 + (b - 28) = b by omega] at h; exact h
    by_cases h15 : b < 32
    · have h := chkR_at _ (b - 30) chk_w15 (by omega); rw [show 30 + (b - 30) = b by omega] at h; exact h
    by_cases h16 : b < 34
    · have h := chkR_at _ (b - 32) chk_w16 (by omega); rw [show 32 + (b - 32) = b by omega] at h; exact h
    by_cases h17 : b < 36
    · have h := chkR_at _ (b - 34) chk_w17 (by omega); rw [show 34 + (b - 34) = b by omega] at h; exact h
    by_cases h18 : b < 38
    · have h := chkR_at _ (b - 36) chk_w18 (by omega); rw [show 36 + (b - 36) = b by omega] at h; exact h
    by_cases h19 : b < 40
    · have h := chkR_at _ (b - 38) chk_w19 (by omega); rw [show 38 + (b - 38) = b by omega] at h; exact h
    by_cases h20 : b < 42
    · have h := chkR_at _ (b - 40) chk_w20 (by omega); rw [show 40 + (b - 40) = b by omega] at h; exact h
    by_cases h21 : b < 44
    · have h := chkR_at _ (b - 42) chk_w21 (by omega); rw [show 42 + (b - 42) = b by omega] at h; exact h
    by_cases h22 : b < 46
    · have h := chkR_at _ (b - 44) chk_w22 (by omega); rw [show 44 + (b - 44) = b by omega] at h; exact h
    by_cases h23 : b < 48
    · have h := chkR_at _ (b - 46) chk_w23 (by omega); rw [show 46 + (b - 46) = b by omega] at h; exact h
    by_cases h24 : b < 50
    · have h := chkR_at _ (b - 48) chk_w24 (by omega); rw [show 48 + (b - 48) = b by omega] at h; exact h
    by_cases h25 : b < 52
    · have h := chkR_at _ (b - 50) chk_w25 (by omega); rw [show 50 + (b - 50) = b by omega] at h; exact h
    by_cases h26 : b < 54
    · have h := chkR_at _ (b - 52) chk_w26 (by omega); rw [show 52 + (b - 52) = b by omega] at h; exact h
    by_cases h27 : b < 56
    · have h := chkR_at _ (b - 54) chk_w27 (by omega); rw [show 54 + (b - 54) = b by omega] at h; exact h
    by_cases h28 : b < 58
    · have h := chkR_at _ (b - 56) chk_w28 (by omega); rw [show 56 + (b - 56) = b by omega] at h; exact h
    by_cases h29 : b < 60
    · have h := chkR_at _ (b - 58) chk_w29 (by omega); rw [show 58 + (b - 58) = b by omega] at h; exact h
    by_cases h30 : b < 62
    · have h := chkR_at _ (b - 60) chk_w30 (by omega); rw [show 60 + (b - 60) = b by omega] at h; exact h
    by_cases h31 : b < 64
    · have h := chkR_at _ (b - 62) chk_w31 (by omega); rw [show 62 + (b - 62) = b by omega] at h; exact h
    by_cases h32 : b < 66
    · have h := chkR_at _ (b - 64) chk_w32 (by omega); rw [show 64 + (b - 64) = b by omega] at h; exact h
    by_cases h33 : b < 68
    · have h := chkR_at _ (b - 66) chk_w33 (by omega); rw [show 66 + (b - 66) = b by omega] at h; exact h
    by_cases h34 : b < 70
    · have h := chkR_at _ (b - 68) chk_w34 (by omega); rw [show 68 + (b - 68) = b by omega] at h; exact h
    by_cases h35 : b < 72
    · have h := chkR_at _ (b - 70) chk_w35 (by omega); rw [show 70 + (b - 70) = b by omega] at h; exact h
    by_cases h36 : b < 74
    · have h := chkR_at _ (b - 72) chk_w36 (by omega); rw [show 72 + (b - 72) = b by omega] at h; exact h
    by_cases h37 : b < 76
    · have h := chkR_at _ (b - 74) chk_w37 (by omega); rw [show 74 + (b - 74) = b by omega] at h; exact h
    by_cases h38 : b < 78
    · have h := chkR_at _ (b - 76) chk_w38 (by omega); rw [show 76 + (b - 76) = b by omega] at h; exact h
    by_cases h39 : b < 80
    · have h := chkR_at _ (b - 78) chk_w39 (by omega); rw [show 78 + (b - 78) = b by omega] at h; exact h
    by_cases h40 : b < 82
    · have h := chkR_at _ (b - 80) chk_w40 (by omega); rw [show 80 + (b - 80) = b by omega] at h; exact h
    by_cases h41 : b < 84
    · have h := chkR_at _ (b - 82) chk_w41 (by omega); rw [show 82 + (b - 82) = b by omega] at h; exact h
    by_cases h42 : b < 86
    · have h := chkR_at _ (b - 84) chk_w42 (by omega); rw [show 84 + (b - 84) = b by omega] at h; exact h
    by_cases h43 : b < 88
    · have h := chkR_at _ (b - 86) chk_w43 (by omega); rw [show 86 + (b - 86) = b by omega] at h; exact h
    by_cases h44 : b < 90
    · have h := chkR_at _ (b - 88) chk_w44 (by omega); rw [show 88 + (b - 88) = b by omega] at h; exact h
    by_cases h45 : b < 92
    · have h := chkR_at _ (b - 90) chk_w45 (by omega); rw [show 90 + (b - 90) = b by omega] at h; exact h
    by_cases h46 : b < 94
    · have h := chkR_at _ (b - 92) chk_w46 (by omega); rw [show 92 + (b - 92) = b by omega] at h; exact h
    by_cases h47 : b < 96
    · have h := chkR_at _ (b - 94) chk_w47 (by omega); rw [show 94 + (b - 94) = b by omega] at h; exact h
    have h := chkR_at _ (b - 96) chk_w48 (by omega)
    rw [show 96 + (b - 96) = b by omega] at h
    exact h
  unfold ewCode at h
  have h2 := chkL_at _ 0 (i % 16) ins hL h
  rw [show 16 * (i / 16) + (0 + i % 16) = i by omega] at h2
  exact h2
theorem chk_all {m i : Nat} {ins : eI} (h : ewCode m i = some ins) : chk m i ins = true := by
  by_cases hm : m = 317
  · subst hm; exact chk_law h
  · have h1 := chk_t m (by have := ewCode_lt h; omega)
    unfold ewCode at h
    have h2 := chkB_at _ 0 (i / 16) (i % 16) ins h1 h
    rw [show 16 * (0 + i / 16) + i % 16 = i by omega] at h2
    exact h2
