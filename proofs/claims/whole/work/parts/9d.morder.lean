/-! names in texts, and the reference's orders (by program, wip/whole/gen25.py) -/
theorem et0 : ewT 0 = [100, 105, 103, 32] := by decide +kernel
theorem el0 : (ewT 0).length = 4 := by decide +kernel
theorem fo0 : ewT (12 + 0) = [110, 32, 98] := by decide +kernel
theorem et1 : ewT 1 = [100, 101, 101, 112, 101, 110, 32] := by decide +kernel
theorem el1 : (ewT 1).length = 7 := by decide +kernel
theorem fo1 : ewT (12 + 1) = [100, 32, 110] := by decide +kernel
theorem et2 : ewT 2 = [102, 105, 108, 108, 32] := by decide +kernel
theorem el2 : (ewT 2).length = 5 := by decide +kernel
theorem fo2 : ewT (12 + 2) = [100] := by decide +kernel
theorem et3 : ewT 3 = [99, 111, 105, 110, 32] := by decide +kernel
theorem el3 : (ewT 3).length = 5 := by decide +kernel
theorem fo3 : ewT (12 + 3) = [100, 32, 110, 32, 100] := by decide +kernel
theorem et4 : ewT 4 = [102, 114, 111, 103, 32] := by decide +kernel
theorem el4 : (ewT 4).length = 5 := by decide +kernel
theorem fo4 : ewT (12 + 4) = [100, 32, 110, 32, 108] := by decide +kernel
theorem et5 : ewT 5 = [109, 111, 115, 115, 32] := by decide +kernel
theorem el5 : (ewT 5).length = 5 := by decide +kernel
theorem fo5 : ewT (12 + 5) = [100, 32, 110, 32, 100] := by decide +kernel
theorem et6 : ewT 6 = [116, 97, 107, 101, 32] := by decide +kernel
theorem el6 : (ewT 6).length = 5 := by decide +kernel
theorem fo6 : ewT (12 + 6) = [100, 32, 100] := by decide +kernel
theorem et7 : ewT 7 = [119, 97, 107, 101] := by decide +kernel
theorem el7 : (ewT 7).length = 4 := by decide +kernel
theorem fo7 : ewT (12 + 7) = [] := by decide +kernel
theorem et8 : ewT 8 = [114, 111, 112, 101, 32] := by decide +kernel
theorem el8 : (ewT 8).length = 5 := by decide +kernel
theorem fo8 : ewT (12 + 8) = [110] := by decide +kernel
theorem et9 : ewT 9 = [98, 105, 110, 100, 32] := by decide +kernel
theorem el9 : (ewT 9).length = 5 := by decide +kernel
theorem fo9 : ewT (12 + 9) = [100, 32, 100] := by decide +kernel
theorem et10 : ewT 10 = [102, 105, 115, 104, 32] := by decide +kernel
theorem el10 : (ewT 10).length = 5 := by decide +kernel
theorem fo10 : ewT (12 + 10) = [100] := by decide +kernel
theorem et11 : ewT 11 = [115, 104, 111, 117, 116, 32] := by decide +kernel
theorem el11 : (ewT 11).length = 6 := by decide +kernel
theorem fo11 : ewT (12 + 11) = [100, 32, 119] := by decide +kernel
def srt (o : Nat) : Int := match o with
  | 0 => 100
  | 1 => 101
  | 2 => 102
  | 3 => 99
  | 4 => 103
  | 5 => 109
  | 6 => 116
  | 7 => 119
  | 8 => 114
  | 9 => 98
  | 10 => 104
  | _ => 115
section
variable {T : List Int} {q : Nat}
theorem nm_c_f {j : Nat} (a0 : sg T q = 99) (hj : lcp T [111, 105, 110, 32] (q + 1) = j) (h4 : j ≠ 4) : rdName T q = .inl (q + 1 + j) := by
  have z0 : lcp T (ewT 0) q = 0 := by rw [et0]; exact lcp_0 (by omega)
  have z1 : lcp T (ewT 1) q = 0 := by rw [et1]; exact lcp_0 (by omega)
  have z2 : lcp T (ewT 2) q = 0 := by rw [et2]; exact lcp_0 (by omega)
  have z3 : lcp T (ewT 3) q = j + 1 := by rw [et3]; rw [lcp_s a0, hj]
  have z4 : lcp T (ewT 4) q = 0 := by rw [et4]; exact lcp_0 (by omega)
  have z5 : lcp T (ewT 5) q = 0 := by rw [et5]; exact lcp_0 (by omega)
  have z6 : lcp T (ewT 6) q = 0 := by rw [et6]; exact lcp_0 (by omega)
  have z7 : lcp T (ewT 7) q = 0 := by rw [et7]; exact lcp_0 (by omega)
  have z8 : lcp T (ewT 8) q = 0 := by rw [et8]; exact lcp_0 (by omega)
  have z9 : lcp T (ewT 9) q = 0 := by rw [et9]; exact lcp_0 (by omega)
  have z10 : lcp T (ewT 10) q = 0 := by rw [et10]; exact lcp_0 (by omega)
  have z11 : lcp T (ewT 11) q = 0 := by rw [et11]; exact lcp_0 (by omega)
  have q4 : ¬ (j + 1 = 5) := by omega
  unfold rdName
  simp [nmF, el0, el1, el2, el3, el4, el5, el6, el7, el8, el9, el10, el11, z0, z1, z2, z3, z4, z5, z6, z7, z8, z9, z10, z11, h4, q4]
  try omega
theorem nm_c_s (a0 : sg T q = 99) (hj : lcp T [111, 105, 110, 32] (q + 1) = 4) : rdName T q = .inr (3, q + 1 + 4) := by
  have z0 : lcp T (ewT 0) q = 0 := by rw [et0]; exact lcp_0 (by omega)
  have z1 : lcp T (ewT 1) q = 0 := by rw [et1]; exact lcp_0 (by omega)
  have z2 : lcp T (ewT 2) q = 0 := by rw [et2]; exact lcp_0 (by omega)
  have z3 : lcp T (ewT 3) q = 5 := by rw [et3]; rw [lcp_s a0, hj]
  have z4 : lcp T (ewT 4) q = 0 := by rw [et4]; exact lcp_0 (by omega)
  have z5 : lcp T (ewT 5) q = 0 := by rw [et5]; exact lcp_0 (by omega)
  have z6 : lcp T (ewT 6) q = 0 := by rw [et6]; exact lcp_0 (by omega)
  have z7 : lcp T (ewT 7) q = 0 := by rw [et7]; exact lcp_0 (by omega)
  have z8 : lcp T (ewT 8) q = 0 := by rw [et8]; exact lcp_0 (by omega)
  have z9 : lcp T (ewT 9) q = 0 := by rw [et9]; exact lcp_0 (by omega)
  have z10 : lcp T (ewT 10) q = 0 := by rw [et10]; exact lcp_0 (by omega)
  have z11 : lcp T (ewT 11) q = 0 := by rw [et11]; exact lcp_0 (by omega)
  unfold rdName
  simp [nmF, el0, el1, el2, el3, el4, el5, el6, el7, el8, el9, el10, el11, z0, z1, z2, z3, z4, z5, z6, z7, z8, z9, z10, z11]
theorem nm_m_f {j : Nat} (a0 : sg T q = 109) (hj : lcp T [111, 115, 115, 32] (q + 1) = j) (h4 : j ≠ 4) : rdName T q = .inl (q + 1 + j) := by
  have z0 : lcp T (ewT 0) q = 0 := by rw [et0]; exact lcp_0 (by omega)
  have z1 : lcp T (ewT 1) q = 0 := by rw [et1]; exact lcp_0 (by omega)
  have z2 : lcp T (ewT 2) q = 0 := by rw [et2]; exact lcp_0 (by omega)
  have z3 : lcp T (ewT 3) q = 0 := by rw [et3]; exact lcp_0 (by omega)
  have z4 : lcp T (ewT 4) q = 0 := by rw [et4]; exact lcp_0 (by omega)
  have z5 : lcp T (ewT 5) q = j + 1 := by rw [et5]; rw [lcp_s a0, hj]
  have z6 : lcp T (ewT 6) q = 0 := by rw [et6]; exact lcp_0 (by omega)
  have z7 : lcp T (ewT 7) q = 0 := by rw [et7]; exact lcp_0 (by omega)
  have z8 : lcp T (ewT 8) q = 0 := by rw [et8]; exact lcp_0 (by omega)
  have z9 : lcp T (ewT 9) q = 0 := by rw [et9]; exact lcp_0 (by omega)
  have z10 : lcp T (ewT 10) q = 0 := by rw [et10]; exact lcp_0 (by omega)
  have z11 : lcp T (ewT 11) q = 0 := by rw [et11]; exact lcp_0 (by omega)
  have q4 : ¬ (j + 1 = 5) := by omega
  unfold rdName
  simp [nmF, el0, el1, el2, el3, el4, el5, el6, el7, el8, el9, el10, el11, z0, z1, z2, z3, z4, z5, z6, z7, z8, z9, z10, z11, h4, q4]
  try omega
theorem nm_m_s (a0 : sg T q = 109) (hj : lcp T [111, 115, 115, 32] (q + 1) = 4) : rdName T q = .inr (5, q + 1 + 4) := by
  have z0 : lcp T (ewT 0) q = 0 := by rw [et0]; exact lcp_0 (by omega)
  have z1 : lcp T (ewT 1) q = 0 := by rw [et1]; exact lcp_0 (by omega)
  have z2 : lcp T (ewT 2) q = 0 := by rw [et2]; exact lcp_0 (by omega)
  have z3 : lcp T (ewT 3) q = 0 := by rw [et3]; exact lcp_0 (by omega)
  have z4 : lcp T (ewT 4) q = 0 := by rw [et4]; exact lcp_0 (by omega)
  have z5 : lcp T (ewT 5) q = 5 := by rw [et5]; rw [lcp_s a0, hj]
  have z6 : lcp T (ewT 6) q = 0 := by rw [et6]; exact lcp_0 (by omega)
  have z7 : lcp T (ewT 7) q = 0 := by rw [et7]; exact lcp_0 (by omega)
  have z8 : lcp T (ewT 8) q = 0 := by rw [et8]; exact lcp_0 (by omega)
  have z9 : lcp T (ewT 9) q = 0 := by rw [et9]; exact lcp_0 (by omega)
  have z10 : lcp T (ewT 10) q = 0 := by rw [et10]; exact lcp_0 (by omega)
  have z11 : lcp T (ewT 11) q = 0 := by rw [et11]; exact lcp_0 (by omega)
  unfold rdName
  simp [nmF, el0, el1, el2, el3, el4, el5, el6, el7, el8, el9, el10, el11, z0, z1, z2, z3, z4, z5, z6, z7, z8, z9, z10, z11]
theorem nm_t_f {j : Nat} (a0 : sg T q = 116) (hj : lcp T [97, 107, 101, 32] (q + 1) = j) (h4 : j ≠ 4) : rdName T q = .inl (q + 1 + j) := by
  have z0 : lcp T (ewT 0) q = 0 := by rw [et0]; exact lcp_0 (by omega)
  have z1 : lcp T (ewT 1) q = 0 := by rw [et1]; exact lcp_0 (by omega)
  have z2 : lcp T (ewT 2) q = 0 := by rw [et2]; exact lcp_0 (by omega)
  have z3 : lcp T (ewT 3) q = 0 := by rw [et3]; exact lcp_0 (by omega)
  have z4 : lcp T (ewT 4) q = 0 := by rw [et4]; exact lcp_0 (by omega)
  have z5 : lcp T (ewT 5) q = 0 := by rw [et5]; exact lcp_0 (by omega)
  have z6 : lcp T (ewT 6) q = j + 1 := by rw [et6]; rw [lcp_s a0, hj]
  have z7 : lcp T (ewT 7) q = 0 := by rw [et7]; exact lcp_0 (by omega)
  have z8 : lcp T (ewT 8) q = 0 := by rw [et8]; exact lcp_0 (by omega)
  have z9 : lcp T (ewT 9) q = 0 := by rw [et9]; exact lcp_0 (by omega)
  have z10 : lcp T (ewT 10) q = 0 := by rw [et10]; exact lcp_0 (by omega)
  have z11 : lcp T (ewT 11) q = 0 := by rw [et11]; exact lcp_0 (by omega)
  have q4 : ¬ (j + 1 = 5) := by omega
  unfold rdName
  simp [nmF, el0, el1, el2, el3, el4, el5, el6, el7, el8, el9, el10, el11, z0, z1, z2, z3, z4, z5, z6, z7, z8, z9, z10, z11, h4, q4]
  try omega
theorem nm_t_s (a0 : sg T q = 116) (hj : lcp T [97, 107, 101, 32] (q + 1) = 4) : rdName T q = .inr (6, q + 1 + 4) := by
  have z0 : lcp T (ewT 0) q = 0 := by rw [et0]; exact lcp_0 (by omega)
  have z1 : lcp T (ewT 1) q = 0 := by rw [et1]; exact lcp_0 (by omega)
  have z2 : lcp T (ewT 2) q = 0 := by rw [et2]; exact lcp_0 (by omega)
  have z3 : lcp T (ewT 3) q = 0 := by rw [et3]; exact lcp_0 (by omega)
  have z4 : lcp T (ewT 4) q = 0 := by rw [et4]; exact lcp_0 (by omega)
  have z5 : lcp T (ewT 5) q = 0 := by rw [et5]; exact lcp_0 (by omega)
  have z6 : lcp T (ewT 6) q = 5 := by rw [et6]; rw [lcp_s a0, hj]
  have z7 : lcp T (ewT 7) q = 0 := by rw [et7]; exact lcp_0 (by omega)
  have z8 : lcp T (ewT 8) q = 0 := by rw [et8]; exact lcp_0 (by omega)
  have z9 : lcp T (ewT 9) q = 0 := by rw [et9]; exact lcp_0 (by omega)
  have z10 : lcp T (ewT 10) q = 0 := by rw [et10]; exact lcp_0 (by omega)
  have z11 : lcp T (ewT 11) q = 0 := by rw [et11]; exact lcp_0 (by omega)
  unfold rdName
  simp [nmF, el0, el1, el2, el3, el4, el5, el6, el7, el8, el9, el10, el11, z0, z1, z2, z3, z4, z5, z6, z7, z8, z9, z10, z11]
theorem nm_w_f {j : Nat} (a0 : sg T q = 119) (hj : lcp T [97, 107, 101] (q + 1) = j) (h4 : j ≠ 3) : rdName T q = .inl (q + 1 + j) := by
  have z0 : lcp T (ewT 0) q = 0 := by rw [et0]; exact lcp_0 (by omega)
  have z1 : lcp T (ewT 1) q = 0 := by rw [et1]; exact lcp_0 (by omega)
  have z2 : lcp T (ewT 2) q = 0 := by rw [et2]; exact lcp_0 (by omega)
  have z3 : lcp T (ewT 3) q = 0 := by rw [et3]; exact lcp_0 (by omega)
  have z4 : lcp T (ewT 4) q = 0 := by rw [et4]; exact lcp_0 (by omega)
  have z5 : lcp T (ewT 5) q = 0 := by rw [et5]; exact lcp_0 (by omega)
  have z6 : lcp T (ewT 6) q = 0 := by rw [et6]; exact lcp_0 (by omega)
  have z7 : lcp T (ewT 7) q = j + 1 := by rw [et7]; rw [lcp_s a0, hj]
  have z8 : lcp T (ewT 8) q = 0 := by rw [et8]; exact lcp_0 (by omega)
  have z9 : lcp T (ewT 9) q = 0 := by rw [et9]; exact lcp_0 (by omega)
  have z10 : lcp T (ewT 10) q = 0 := by rw [et10]; exact lcp_0 (by omega)
  have z11 : lcp T (ewT 11) q = 0 := by rw [et11]; exact lcp_0 (by omega)
  have q4 : ¬ (j + 1 = 4) := by omega
  unfold rdName
  simp [nmF, el0, el1, el2, el3, el4, el5, el6, el7, el8, el9, el10, el11, z0, z1, z2, z3, z4, z5, z6, z7, z8, z9, z10, z11, h4, q4]
  try omega
theorem nm_w_s (a0 : sg T q = 119) (hj : lcp T [97, 107, 101] (q + 1) = 3) : rdName T q = .inr (7, q + 1 + 3) := by
  have z0 : lcp T (ewT 0) q = 0 := by rw [et0]; exact lcp_0 (by omega)
  have z1 : lcp T (ewT 1) q = 0 := by rw [et1]; exact lcp_0 (by omega)
  have z2 : lcp T (ewT 2) q = 0 := by rw [et2]; exact lcp_0 (by omega)
  have z3 : lcp T (ewT 3) q = 0 := by rw [et3]; exact lcp_0 (by omega)
  have z4 : lcp T (ewT 4) q = 0 := by rw [et4]; exact lcp_0 (by omega)
  have z5 : lcp T (ewT 5) q = 0 := by rw [et5]; exact lcp_0 (by omega)
  have z6 : lcp T (ewT 6) q = 0 := by rw [et6]; exact lcp_0 (by omega)
  have z7 : lcp T (ewT 7) q = 4 := by rw [et7]; rw [lcp_s a0, hj]
  have z8 : lcp T (ewT 8) q = 0 := by rw [et8]; exact lcp_0 (by omega)
  have z9 : lcp T (ewT 9) q = 0 := by rw [et9]; exact lcp_0 (by omega)
  have z10 : lcp T (ewT 10) q = 0 := by rw [et10]; exact lcp_0 (by omega)
  have z11 : lcp T (ewT 11) q = 0 := by rw [et11]; exact lcp_0 (by omega)
  unfold rdName
  simp [nmF, el0, el1, el2, el3, el4, el5, el6, el7, el8, el9, el10, el11, z0, z1, z2, z3, z4, z5, z6, z7, z8, z9, z10, z11]
theorem nm_r_f {j : Nat} (a0 : sg T q = 114) (hj : lcp T [111, 112, 101, 32] (q + 1) = j) (h4 : j ≠ 4) : rdName T q = .inl (q + 1 + j) := by
  have z0 : lcp T (ewT 0) q = 0 := by rw [et0]; exact lcp_0 (by omega)
  have z1 : lcp T (ewT 1) q = 0 := by rw [et1]; exact lcp_0 (by omega)
  have z2 : lcp T (ewT 2) q = 0 := by rw [et2]; exact lcp_0 (by omega)
  have z3 : lcp T (ewT 3) q = 0 := by rw [et3]; exact lcp_0 (by omega)
  have z4 : lcp T (ewT 4) q = 0 := by rw [et4]; exact lcp_0 (by omega)
  have z5 : lcp T (ewT 5) q = 0 := by rw [et5]; exact lcp_0 (by omega)
  have z6 : lcp T (ewT 6) q = 0 := by rw [et6]; exact lcp_0 (by omega)
  have z7 : lcp T (ewT 7) q = 0 := by rw [et7]; exact lcp_0 (by omega)
  have z8 : lcp T (ewT 8) q = j + 1 := by rw [et8]; rw [lcp_s a0, hj]
  have z9 : lcp T (ewT 9) q = 0 := by rw [et9]; exact lcp_0 (by omega)
  have z10 : lcp T (ewT 10) q = 0 := by rw [et10]; exact lcp_0 (by omega)
  have z11 : lcp T (ewT 11) q = 0 := by rw [et11]; exact lcp_0 (by omega)
  have q4 : ¬ (j + 1 = 5) := by omega
  unfold rdName
  simp [nmF, el0, el1, el2, el3, el4, el5, el6, el7, el8, el9, el10, el11, z0, z1, z2, z3, z4, z5, z6, z7, z8, z9, z10, z11, h4, q4]
  try omega
theorem nm_r_s (a0 : sg T q = 114) (hj : lcp T [111, 112, 101, 32] (q + 1) = 4) : rdName T q = .inr (8, q + 1 + 4) := by
  have z0 : lcp T (ewT 0) q = 0 := by rw [et0]; exact lcp_0 (by omega)
  have z1 : lcp T (ewT 1) q = 0 := by rw [et1]; exact lcp_0 (by omega)
  have z2 : lcp T (ewT 2) q = 0 := by rw [et2]; exact lcp_0 (by omega)
  have z3 : lcp T (ewT 3) q = 0 := by rw [et3]; exact lcp_0 (by omega)
  have z4 : lcp T (ewT 4) q = 0 := by rw [et4]; exact lcp_0 (by omega)
  have z5 : lcp T (ewT 5) q = 0 := by rw [et5]; exact lcp_0 (by omega)
  have z6 : lcp T (ewT 6) q = 0 := by rw [et6]; exact lcp_0 (by omega)
  have z7 : lcp T (ewT 7) q = 0 := by rw [et7]; exact lcp_0 (by omega)
  have z8 : lcp T (ewT 8) q = 5 := by rw [et8]; rw [lcp_s a0, hj]
  have z9 : lcp T (ewT 9) q = 0 := by rw [et9]; exact lcp_0 (by omega)
  have z10 : lcp T (ewT 10) q = 0 := by rw [et10]; exact lcp_0 (by omega)
  have z11 : lcp T (ewT 11) q = 0 := by rw [et11]; exact lcp_0 (by omega)
  unfold rdName
  simp [nmF, el0, el1, el2, el3, el4, el5, el6, el7, el8, el9, el10, el11, z0, z1, z2, z3, z4, z5, z6, z7, z8, z9, z10, z11]
theorem nm_b_f {j : Nat} (a0 : sg T q = 98) (hj : lcp T [105, 110, 100, 32] (q + 1) = j) (h4 : j ≠ 4) : rdName T q = .inl (q + 1 + j) := by
  have z0 : lcp T (ewT 0) q = 0 := by rw [et0]; exact lcp_0 (by omega)
  have z1 : lcp T (ewT 1) q = 0 := by rw [et1]; exact lcp_0 (by omega)
  have z2 : lcp T (ewT 2) q = 0 := by rw [et2]; exact lcp_0 (by omega)
  have z3 : lcp T (ewT 3) q = 0 := by rw [et3]; exact lcp_0 (by omega)
  have z4 : lcp T (ewT 4) q = 0 := by rw [et4]; exact lcp_0 (by omega)
  have z5 : lcp T (ewT 5) q = 0 := by rw [et5]; exact lcp_0 (by omega)
  have z6 : lcp T (ewT 6) q = 0 := by rw [et6]; exact lcp_0 (by omega)
  have z7 : lcp T (ewT 7) q = 0 := by rw [et7]; exact lcp_0 (by omega)
  have z8 : lcp T (ewT 8) q = 0 := by rw [et8]; exact lcp_0 (by omega)
  have z9 : lcp T (ewT 9) q = j + 1 := by rw [et9]; rw [lcp_s a0, hj]
  have z10 : lcp T (ewT 10) q = 0 := by rw [et10]; exact lcp_0 (by omega)
  have z11 : lcp T (ewT 11) q = 0 := by rw [et11]; exact lcp_0 (by omega)
  have q4 : ¬ (j + 1 = 5) := by omega
  unfold rdName
  simp [nmF, el0, el1, el2, el3, el4, el5, el6, el7, el8, el9, el10, el11, z0, z1, z2, z3, z4, z5, z6, z7, z8, z9, z10, z11, h4, q4]
  try omega
theorem nm_b_s (a0 : sg T q = 98) (hj : lcp T [105, 110, 100, 32] (q + 1) = 4) : rdName T q = .inr (9, q + 1 + 4) := by
  have z0 : lcp T (ewT 0) q = 0 := by rw [et0]; exact lcp_0 (by omega)
  have z1 : lcp T (ewT 1) q = 0 := by rw [et1]; exact lcp_0 (by omega)
  have z2 : lcp T (ewT 2) q = 0 := by rw [et2]; exact lcp_0 (by omega)
  have z3 : lcp T (ewT 3) q = 0 := by rw [et3]; exact lcp_0 (by omega)
  have z4 : lcp T (ewT 4) q = 0 := by rw [et4]; exact lcp_0 (by omega)
  have z5 : lcp T (ewT 5) q = 0 := by rw [et5]; exact lcp_0 (by omega)
  have z6 : lcp T (ewT 6) q = 0 := by rw [et6]; exact lcp_0 (by omega)
  have z7 : lcp T (ewT 7) q = 0 := by rw [et7]; exact lcp_0 (by omega)
  have z8 : lcp T (ewT 8) q = 0 := by rw [et8]; exact lcp_0 (by omega)
  have z9 : lcp T (ewT 9) q = 5 := by rw [et9]; rw [lcp_s a0, hj]
  have z10 : lcp T (ewT 10) q = 0 := by rw [et10]; exact lcp_0 (by omega)
  have z11 : lcp T (ewT 11) q = 0 := by rw [et11]; exact lcp_0 (by omega)
  unfold rdName
  simp [nmF, el0, el1, el2, el3, el4, el5, el6, el7, el8, el9, el10, el11, z0, z1, z2, z3, z4, z5, z6, z7, z8, z9, z10, z11]
theorem nm_s_f {j : Nat} (a0 : sg T q = 115) (hj : lcp T [104, 111, 117, 116, 32] (q + 1) = j) (h4 : j ≠ 5) : rdName T q = .inl (q + 1 + j) := by
  have z0 : lcp T (ewT 0) q = 0 := by rw [et0]; exact lcp_0 (by omega)
  have z1 : lcp T (ewT 1) q = 0 := by rw [et1]; exact lcp_0 (by omega)
  have z2 : lcp T (ewT 2) q = 0 := by rw [et2]; exact lcp_0 (by omega)
  have z3 : lcp T (ewT 3) q = 0 := by rw [et3]; exact lcp_0 (by omega)
  have z4 : lcp T (ewT 4) q = 0 := by rw [et4]; exact lcp_0 (by omega)
  have z5 : lcp T (ewT 5) q = 0 := by rw [et5]; exact lcp_0 (by omega)
  have z6 : lcp T (ewT 6) q = 0 := by rw [et6]; exact lcp_0 (by omega)
  have z7 : lcp T (ewT 7) q = 0 := by rw [et7]; exact lcp_0 (by omega)
  have z8 : lcp T (ewT 8) q = 0 := by rw [et8]; exact lcp_0 (by omega)
  have z9 : lcp T (ewT 9) q = 0 := by rw [et9]; exact lcp_0 (by omega)
  have z10 : lcp T (ewT 10) q = 0 := by rw [et10]; exact lcp_0 (by omega)
  have z11 : lcp T (ewT 11) q = j + 1 := by rw [et11]; rw [lcp_s a0, hj]
  have q4 : ¬ (j + 1 = 6) := by omega
  unfold rdName
  simp [nmF, el0, el1, el2, el3, el4, el5, el6, el7, el8, el9, el10, el11, z0, z1, z2, z3, z4, z5, z6, z7, z8, z9, z10, z11, h4, q4]
  try omega
theorem nm_s_s (a0 : sg T q = 115) (hj : lcp T [104, 111, 117, 116, 32] (q + 1) = 5) : rdName T q = .inr (11, q + 1 + 5) := by
  have z0 : lcp T (ewT 0) q = 0 := by rw [et0]; exact lcp_0 (by omega)
  have z1 : lcp T (ewT 1) q = 0 := by rw [et1]; exact lcp_0 (by omega)
  have z2 : lcp T (ewT 2) q = 0 := by rw [et2]; exact lcp_0 (by omega)
  have z3 : lcp T (ewT 3) q = 0 := by rw [et3]; exact lcp_0 (by omega)
  have z4 : lcp T (ewT 4) q = 0 := by rw [et4]; exact lcp_0 (by omega)
  have z5 : lcp T (ewT 5) q = 0 := by rw [et5]; exact lcp_0 (by omega)
  have z6 : lcp T (ewT 6) q = 0 := by rw [et6]; exact lcp_0 (by omega)
  have z7 : lcp T (ewT 7) q = 0 := by rw [et7]; exact lcp_0 (by omega)
  have z8 : lcp T (ewT 8) q = 0 := by rw [et8]; exact lcp_0 (by omega)
  have z9 : lcp T (ewT 9) q = 0 := by rw [et9]; exact lcp_0 (by omega)
  have z10 : lcp T (ewT 10) q = 0 := by rw [et10]; exact lcp_0 (by omega)
  have z11 : lcp T (ewT 11) q = 6 := by rw [et11]; rw [lcp_s a0, hj]
  unfold rdName
  simp [nmF, el0, el1, el2, el3, el4, el5, el6, el7, el8, el9, el10, el11, z0, z1, z2, z3, z4, z5, z6, z7, z8, z9, z10, z11]
theorem nm_di_f {j : Nat} (a0 : sg T q = 100) (a1 : sg T (q + 1) = 105) (hj : lcp T [103, 32] (q + 1 + 1) = j) (h4 : j ≠ 2) : rdName T q = .inl (q + 1 + 1 + j) := by
  have z0 : lcp T (ewT 0) q = j + 1 + 1 := by rw [et0]; rw [lcp_s a0, lcp_s a1, hj]
  have z1 : lcp T (ewT 1) q = 1 := by rw [et1]; rw [lcp_s a0, lcp_0 (by omega)]
  have z2 : lcp T (ewT 2) q = 0 := by rw [et2]; exact lcp_0 (by omega)
  have z3 : lcp T (ewT 3) q = 0 := by rw [et3]; exact lcp_0 (by omega)
  have z4 : lcp T (ewT 4) q = 0 := by rw [et4]; exact lcp_0 (by omega)
  have z5 : lcp T (ewT 5) q = 0 := by rw [et5]; exact lcp_0 (by omega)
  have z6 : lcp T (ewT 6) q = 0 := by rw [et6]; exact lcp_0 (by omega)
  have z7 : lcp T (ewT 7) q = 0 := by rw [et7]; exact lcp_0 (by omega)
  have z8 : lcp T (ewT 8) q = 0 := by rw [et8]; exact lcp_0 (by omega)
  have z9 : lcp T (ewT 9) q = 0 := by rw [et9]; exact lcp_0 (by omega)
  have z10 : lcp T (ewT 10) q = 0 := by rw [et10]; exact lcp_0 (by omega)
  have z11 : lcp T (ewT 11) q = 0 := by rw [et11]; exact lcp_0 (by omega)
  have q4 : ¬ (j + 1 + 1 = 4) := by omega
  have q5 : ¬ (j + 2 = 4) := by omega
  unfold rdName
  simp [nmF, el0, el1, el2, el3, el4, el5, el6, el7, el8, el9, el10, el11, z0, z1, z2, z3, z4, z5, z6, z7, z8, z9, z10, z11, h4, q4, q5]
  try (first | omega | (by_cases j0 : j = 0 <;> simp [j0] <;> omega))
theorem nm_di_s (a0 : sg T q = 100) (a1 : sg T (q + 1) = 105) (hj : lcp T [103, 32] (q + 1 + 1) = 2) : rdName T q = .inr (0, q + 1 + 1 + 2) := by
  have z0 : lcp T (ewT 0) q = 4 := by rw [et0]; rw [lcp_s a0, lcp_s a1, hj]
  have z1 : lcp T (ewT 1) q = 1 := by rw [et1]; rw [lcp_s a0, lcp_0 (by omega)]
  have z2 : lcp T (ewT 2) q = 0 := by rw [et2]; exact lcp_0 (by omega)
  have z3 : lcp T (ewT 3) q = 0 := by rw [et3]; exact lcp_0 (by omega)
  have z4 : lcp T (ewT 4) q = 0 := by rw [et4]; exact lcp_0 (by omega)
  have z5 : lcp T (ewT 5) q = 0 := by rw [et5]; exact lcp_0 (by omega)
  have z6 : lcp T (ewT 6) q = 0 := by rw [et6]; exact lcp_0 (by omega)
  have z7 : lcp T (ewT 7) q = 0 := by rw [et7]; exact lcp_0 (by omega)
  have z8 : lcp T (ewT 8) q = 0 := by rw [et8]; exact lcp_0 (by omega)
  have z9 : lcp T (ewT 9) q = 0 := by rw [et9]; exact lcp_0 (by omega)
  have z10 : lcp T (ewT 10) q = 0 := by rw [et10]; exact lcp_0 (by omega)
  have z11 : lcp T (ewT 11) q = 0 := by rw [et11]; exact lcp_0 (by omega)
  unfold rdName
  simp [nmF, el0, el1, el2, el3, el4, el5, el6, el7, el8, el9, el10, el11, z0, z1, z2, z3, z4, z5, z6, z7, z8, z9, z10, z11]
theorem nm_d_f {j : Nat} (a0 : sg T q = 100) (n1 : sg T (q + 1) ≠ 105) (hj : lcp T [101, 101, 112, 101, 110, 32] (q + 1) = j) (h4 : j ≠ 6) : rdName T q = .inl (q + 1 + j) := by
  have z0 : lcp T (ewT 0) q = 1 := by rw [et0]; rw [lcp_s a0, lcp_0 (by omega)]
  have z1 : lcp T (ewT 1) q = j + 1 := by rw [et1]; rw [lcp_s a0, hj]
  have z2 : lcp T (ewT 2) q = 0 := by rw [et2]; exact lcp_0 (by omega)
  have z3 : lcp T (ewT 3) q = 0 := by rw [et3]; exact lcp_0 (by omega)
  have z4 : lcp T (ewT 4) q = 0 := by rw [et4]; exact lcp_0 (by omega)
  have z5 : lcp T (ewT 5) q = 0 := by rw [et5]; exact lcp_0 (by omega)
  have z6 : lcp T (ewT 6) q = 0 := by rw [et6]; exact lcp_0 (by omega)
  have z7 : lcp T (ewT 7) q = 0 := by rw [et7]; exact lcp_0 (by omega)
  have z8 : lcp T (ewT 8) q = 0 := by rw [et8]; exact lcp_0 (by omega)
  have z9 : lcp T (ewT 9) q = 0 := by rw [et9]; exact lcp_0 (by omega)
  have z10 : lcp T (ewT 10) q = 0 := by rw [et10]; exact lcp_0 (by omega)
  have z11 : lcp T (ewT 11) q = 0 := by rw [et11]; exact lcp_0 (by omega)
  have q4 : ¬ (j + 1 = 7) := by omega
  have q5 : ¬ (j + 1 = 7) := by omega
  unfold rdName
  simp [nmF, el0, el1, el2, el3, el4, el5, el6, el7, el8, el9, el10, el11, z0, z1, z2, z3, z4, z5, z6, z7, z8, z9, z10, z11, h4, q4, q5]
  try (first | omega | (by_cases j0 : j = 0 <;> simp [j0] <;> omega))
theorem nm_d_s (a0 : sg T q = 100) (n1 : sg T (q + 1) ≠ 105) (hj : lcp T [101, 101, 112, 101, 110, 32] (q + 1) = 6) : rdName T q = .inr (1, q + 1 + 6) := by
  have z0 : lcp T (ewT 0) q = 1 := by rw [et0]; rw [lcp_s a0, lcp_0 (by omega)]
  have z1 : lcp T (ewT 1) q = 7 := by rw [et1]; rw [lcp_s a0, hj]
  have z2 : lcp T (ewT 2) q = 0 := by rw [et2]; exact lcp_0 (by omega)
  have z3 : lcp T (ewT 3) q = 0 := by rw [et3]; exact lcp_0 (by omega)
  have z4 : lcp T (ewT 4) q = 0 := by rw [et4]; exact lcp_0 (by omega)
  have z5 : lcp T (ewT 5) q = 0 := by rw [et5]; exact lcp_0 (by omega)
  have z6 : lcp T (ewT 6) q = 0 := by rw [et6]; exact lcp_0 (by omega)
  have z7 : lcp T (ewT 7) q = 0 := by rw [et7]; exact lcp_0 (by omega)
  have z8 : lcp T (ewT 8) q = 0 := by rw [et8]; exact lcp_0 (by omega)
  have z9 : lcp T (ewT 9) q = 0 := by rw [et9]; exact lcp_0 (by omega)
  have z10 : lcp T (ewT 10) q = 0 := by rw [et10]; exact lcp_0 (by omega)
  have z11 : lcp T (ewT 11) q = 0 := by rw [et11]; exact lcp_0 (by omega)
  unfold rdName
  simp [nmF, el0, el1, el2, el3, el4, el5, el6, el7, el8, el9, el10, el11, z0, z1, z2, z3, z4, z5, z6, z7, z8, z9, z10, z11]
theorem nm_fr_f {j : Nat} (a0 : sg T q = 102) (a1 : sg T (q + 1) = 114) (hj : lcp T [111, 103, 32] (q + 1 + 1) = j) (h4 : j ≠ 3) : rdName T q = .inl (q + 1 + 1 + j) := by
  have z0 : lcp T (ewT 0) q = 0 := by rw [et0]; exact lcp_0 (by omega)
  have z1 : lcp T (ewT 1) q = 0 := by rw [et1]; exact lcp_0 (by omega)
  have z2 : lcp T (ewT 2) q = 1 := by rw [et2]; rw [lcp_s a0, lcp_0 (by omega)]
  have z3 : lcp T (ewT 3) q = 0 := by rw [et3]; exact lcp_0 (by omega)
  have z4 : lcp T (ewT 4) q = j + 1 + 1 := by rw [et4]; rw [lcp_s a0, lcp_s a1, hj]
  have z5 : lcp T (ewT 5) q = 0 := by rw [et5]; exact lcp_0 (by omega)
  have z6 : lcp T (ewT 6) q = 0 := by rw [et6]; exact lcp_0 (by omega)
  have z7 : lcp T (ewT 7) q = 0 := by rw [et7]; exact lcp_0 (by omega)
  have z8 : lcp T (ewT 8) q = 0 := by rw [et8]; exact lcp_0 (by omega)
  have z9 : lcp T (ewT 9) q = 0 := by rw [et9]; exact lcp_0 (by omega)
  have z10 : lcp T (ewT 10) q = 1 := by rw [et10]; rw [lcp_s a0, lcp_0 (by omega)]
  have z11 : lcp T (ewT 11) q = 0 := by rw [et11]; exact lcp_0 (by omega)
  have q4 : ¬ (j + 1 + 1 = 5) := by omega
  have q5 : ¬ (j + 2 = 5) := by omega
  unfold rdName
  simp [nmF, el0, el1, el2, el3, el4, el5, el6, el7, el8, el9, el10, el11, z0, z1, z2, z3, z4, z5, z6, z7, z8, z9, z10, z11, h4, q4, q5]
  try (first | omega | (by_cases j0 : j = 0 <;> simp [j0] <;> omega))
theorem nm_fr_s (a0 : sg T q = 102) (a1 : sg T (q + 1) = 114) (hj : lcp T [111, 103, 32] (q + 1 + 1) = 3) : rdName T q = .inr (4, q + 1 + 1 + 3) := by
  have z0 : lcp T (ewT 0) q = 0 := by rw [et0]; exact lcp_0 (by omega)
  have z1 : lcp T (ewT 1) q = 0 := by rw [et1]; exact lcp_0 (by omega)
  have z2 : lcp T (ewT 2) q = 1 := by rw [et2]; rw [lcp_s a0, lcp_0 (by omega)]
  have z3 : lcp T (ewT 3) q = 0 := by rw [et3]; exact lcp_0 (by omega)
  have z4 : lcp T (ewT 4) q = 5 := by rw [et4]; rw [lcp_s a0, lcp_s a1, hj]
  have z5 : lcp T (ewT 5) q = 0 := by rw [et5]; exact lcp_0 (by omega)
  have z6 : lcp T (ewT 6) q = 0 := by rw [et6]; exact lcp_0 (by omega)
  have z7 : lcp T (ewT 7) q = 0 := by rw [et7]; exact lcp_0 (by omega)
  have z8 : lcp T (ewT 8) q = 0 := by rw [et8]; exact lcp_0 (by omega)
  have z9 : lcp T (ewT 9) q = 0 := by rw [et9]; exact lcp_0 (by omega)
  have z10 : lcp T (ewT 10) q = 1 := by rw [et10]; rw [lcp_s a0, lcp_0 (by omega)]
  have z11 : lcp T (ewT 11) q = 0 := by rw [et11]; exact lcp_0 (by omega)
  unfold rdName
  simp [nmF, el0, el1, el2, el3, el4, el5, el6, el7, el8, el9, el10, el11, z0, z1, z2, z3, z4, z5, z6, z7, z8, z9, z10, z11]
theorem nm_fis_f {j : Nat} (a0 : sg T q = 102) (a1 : sg T (q + 1) = 105) (a2 : sg T (q + 1 + 1) = 115) (hj : lcp T [104, 32] (q + 1 + 1 + 1) = j) (h4 : j ≠ 2) : rdName T q = .inl (q + 1 + 1 + 1 + j) := by
  have z0 : lcp T (ewT 0) q = 0 := by rw [et0]; exact lcp_0 (by omega)
  have z1 : lcp T (ewT 1) q = 0 := by rw [et1]; exact lcp_0 (by omega)
  have z2 : lcp T (ewT 2) q = 2 := by rw [et2]; rw [lcp_s a0, lcp_s a1, lcp_0 (by omega)]
  have z3 : lcp T (ewT 3) q = 0 := by rw [et3]; exact lcp_0 (by omega)
  have z4 : lcp T (ewT 4) q = 1 := by rw [et4]; rw [lcp_s a0, lcp_0 (by omega)]
  have z5 : lcp T (ewT 5) q = 0 := by rw [et5]; exact lcp_0 (by omega)
  have z6 : lcp T (ewT 6) q = 0 := by rw [et6]; exact lcp_0 (by omega)
  have z7 : lcp T (ewT 7) q = 0 := by rw [et7]; exact lcp_0 (by omega)
  have z8 : lcp T (ewT 8) q = 0 := by rw [et8]; exact lcp_0 (by omega)
  have z9 : lcp T (ewT 9) q = 0 := by rw [et9]; exact lcp_0 (by omega)
  have z10 : lcp T (ewT 10) q = j + 1 + 1 + 1 := by rw [et10]; rw [lcp_s a0, lcp_s a1, lcp_s a2, hj]
  have z11 : lcp T (ewT 11) q = 0 := by rw [et11]; exact lcp_0 (by omega)
  have q4 : ¬ (j + 1 + 1 + 1 = 5) := by omega
  have q5 : ¬ (j + 3 = 5) := by omega
  unfold rdName
  simp [nmF, el0, el1, el2, el3, el4, el5, el6, el7, el8, el9, el10, el11, z0, z1, z2, z3, z4, z5, z6, z7, z8, z9, z10, z11, h4, q4, q5]
  try (first | omega | (by_cases j0 : j = 0 <;> simp [j0] <;> omega))
theorem nm_fis_s (a0 : sg T q = 102) (a1 : sg T (q + 1) = 105) (a2 : sg T (q + 1 + 1) = 115) (hj : lcp T [104, 32] (q + 1 + 1 + 1) = 2) : rdName T q = .inr (10, q + 1 + 1 + 1 + 2) := by
  have z0 : lcp T (ewT 0) q = 0 := by rw [et0]; exact lcp_0 (by omega)
  have z1 : lcp T (ewT 1) q = 0 := by rw [et1]; exact lcp_0 (by omega)
  have z2 : lcp T (ewT 2) q = 2 := by rw [et2]; rw [lcp_s a0, lcp_s a1, lcp_0 (by omega)]
  have z3 : lcp T (ewT 3) q = 0 := by rw [et3]; exact lcp_0 (by omega)
  have z4 : lcp T (ewT 4) q = 1 := by rw [et4]; rw [lcp_s a0, lcp_0 (by omega)]
  have z5 : lcp T (ewT 5) q = 0 := by rw [et5]; exact lcp_0 (by omega)
  have z6 : lcp T (ewT 6) q = 0 := by rw [et6]; exact lcp_0 (by omega)
  have z7 : lcp T (ewT 7) q = 0 := by rw [et7]; exact lcp_0 (by omega)
  have z8 : lcp T (ewT 8) q = 0 := by rw [et8]; exact lcp_0 (by omega)
  have z9 : lcp T (ewT 9) q = 0 := by rw [et9]; exact lcp_0 (by omega)
  have z10 : lcp T (ewT 10) q = 5 := by rw [et10]; rw [lcp_s a0, lcp_s a1, lcp_s a2, hj]
  have z11 : lcp T (ewT 11) q = 0 := by rw [et11]; exact lcp_0 (by omega)
  unfold rdName
  simp [nmF, el0, el1, el2, el3, el4, el5, el6, el7, el8, el9, el10, el11, z0, z1, z2, z3, z4, z5, z6, z7, z8, z9, z10, z11]
theorem nm_fi_f {j : Nat} (a0 : sg T q = 102) (a1 : sg T (q + 1) = 105) (n2 : sg T (q + 1 + 1) ≠ 115) (hj : lcp T [108, 108, 32] (q + 1 + 1) = j) (h4 : j ≠ 3) : rdName T q = .inl (q + 1 + 1 + j) := by
  have z0 : lcp T (ewT 0) q = 0 := by rw [et0]; exact lcp_0 (by omega)
  have z1 : lcp T (ewT 1) q = 0 := by rw [et1]; exact lcp_0 (by omega)
  have z2 : lcp T (ewT 2) q = j + 1 + 1 := by rw [et2]; rw [lcp_s a0, lcp_s a1, hj]
  have z3 : lcp T (ewT 3) q = 0 := by rw [et3]; exact lcp_0 (by omega)
  have z4 : lcp T (ewT 4) q = 1 := by rw [et4]; rw [lcp_s a0, lcp_0 (by omega)]
  have z5 : lcp T (ewT 5) q = 0 := by rw [et5]; exact lcp_0 (by omega)
  have z6 : lcp T (ewT 6) q = 0 := by rw [et6]; exact lcp_0 (by omega)
  have z7 : lcp T (ewT 7) q = 0 := by rw [et7]; exact lcp_0 (by omega)
  have z8 : lcp T (ewT 8) q = 0 := by rw [et8]; exact lcp_0 (by omega)
  have z9 : lcp T (ewT 9) q = 0 := by rw [et9]; exact lcp_0 (by omega)
  have z10 : lcp T (ewT 10) q = 2 := by rw [et10]; rw [lcp_s a0, lcp_s a1, lcp_0 (by omega)]
  have z11 : lcp T (ewT 11) q = 0 := by rw [et11]; exact lcp_0 (by omega)
  have q4 : ¬ (j + 1 + 1 = 5) := by omega
  have q5 : ¬ (j + 2 = 5) := by omega
  unfold rdName
  simp [nmF, el0, el1, el2, el3, el4, el5, el6, el7, el8, el9, el10, el11, z0, z1, z2, z3, z4, z5, z6, z7, z8, z9, z10, z11, h4, q4, q5]
  try (first | omega | (by_cases j0 : j = 0 <;> simp [j0] <;> omega))
theorem nm_fi_s (a0 : sg T q = 102) (a1 : sg T (q + 1) = 105) (n2 : sg T (q + 1 + 1) ≠ 115) (hj : lcp T [108, 108, 32] (q + 1 + 1) = 3) : rdName T q = .inr (2, q + 1 + 1 + 3) := by
  have z0 : lcp T (ewT 0) q = 0 := by rw [et0]; exact lcp_0 (by omega)
  have z1 : lcp T (ewT 1) q = 0 := by rw [et1]; exact lcp_0 (by omega)
  have z2 : lcp T (ewT 2) q = 5 := by rw [et2]; rw [lcp_s a0, lcp_s a1, hj]
  have z3 : lcp T (ewT 3) q = 0 := by rw [et3]; exact lcp_0 (by omega)
  have z4 : lcp T (ewT 4) q = 1 := by rw [et4]; rw [lcp_s a0, lcp_0 (by omega)]
  have z5 : lcp T (ewT 5) q = 0 := by rw [et5]; exact lcp_0 (by omega)
  have z6 : lcp T (ewT 6) q = 0 := by rw [et6]; exact lcp_0 (by omega)
  have z7 : lcp T (ewT 7) q = 0 := by rw [et7]; exact lcp_0 (by omega)
  have z8 : lcp T (ewT 8) q = 0 := by rw [et8]; exact lcp_0 (by omega)
  have z9 : lcp T (ewT 9) q = 0 := by rw [et9]; exact lcp_0 (by omega)
  have z10 : lcp T (ewT 10) q = 2 := by rw [et10]; rw [lcp_s a0, lcp_s a1, lcp_0 (by omega)]
  have z11 : lcp T (ewT 11) q = 0 := by rw [et11]; exact lcp_0 (by omega)
  unfold rdName
  simp [nmF, el0, el1, el2, el3, el4, el5, el6, el7, el8, el9, el10, el11, z0, z1, z2, z3, z4, z5, z6, z7, z8, z9, z10, z11]
theorem nm_f (a0 : sg T q = 102) (n1 : sg T (q + 1) ≠ 114) (n2 : sg T (q + 1) ≠ 105) : rdName T q = .inl (q + 1) := by
  have z0 : lcp T (ewT 0) q = 0 := by rw [et0]; exact lcp_0 (by omega)
  have z1 : lcp T (ewT 1) q = 0 := by rw [et1]; exact lcp_0 (by omega)
  have z2 : lcp T (ewT 2) q = 1 := by rw [et2, lcp_s a0, lcp_0 (by omega)]
  have z3 : lcp T (ewT 3) q = 0 := by rw [et3]; exact lcp_0 (by omega)
  have z4 : lcp T (ewT 4) q = 1 := by rw [et4, lcp_s a0, lcp_0 (by omega)]
  have z5 : lcp T (ewT 5) q = 0 := by rw [et5]; exact lcp_0 (by omega)
  have z6 : lcp T (ewT 6) q = 0 := by rw [et6]; exact lcp_0 (by omega)
  have z7 : lcp T (ewT 7) q = 0 := by rw [et7]; exact lcp_0 (by omega)
  have z8 : lcp T (ewT 8) q = 0 := by rw [et8]; exact lcp_0 (by omega)
  have z9 : lcp T (ewT 9) q = 0 := by rw [et9]; exact lcp_0 (by omega)
  have z10 : lcp T (ewT 10) q = 1 := by rw [et10, lcp_s a0, lcp_0 (by omega)]
  have z11 : lcp T (ewT 11) q = 0 := by rw [et11]; exact lcp_0 (by omega)
  unfold rdName
  simp [nmF, el0, el1, el2, el3, el4, el5, el6, el7, el8, el9, el10, el11, z0, z1, z2, z3, z4, z5, z6, z7, z8, z9, z10, z11]
theorem nm_0 (n0 : sg T q ≠ 100) (n1 : sg T q ≠ 102) (n2 : sg T q ≠ 99) (n3 : sg T q ≠ 109) (n4 : sg T q ≠ 116) (n5 : sg T q ≠ 119) (n6 : sg T q ≠ 114) (n7 : sg T q ≠ 98) (n8 : sg T q ≠ 115) : rdName T q = .inl q := by
  have z0 : lcp T (ewT 0) q = 0 := by rw [et0]; exact lcp_0 (by omega)
  have z1 : lcp T (ewT 1) q = 0 := by rw [et1]; exact lcp_0 (by omega)
  have z2 : lcp T (ewT 2) q = 0 := by rw [et2]; exact lcp_0 (by omega)
  have z3 : lcp T (ewT 3) q = 0 := by rw [et3]; exact lcp_0 (by omega)
  have z4 : lcp T (ewT 4) q = 0 := by rw [et4]; exact lcp_0 (by omega)
  have z5 : lcp T (ewT 5) q = 0 := by rw [et5]; exact lcp_0 (by omega)
  have z6 : lcp T (ewT 6) q = 0 := by rw [et6]; exact lcp_0 (by omega)
  have z7 : lcp T (ewT 7) q = 0 := by rw [et7]; exact lcp_0 (by omega)
  have z8 : lcp T (ewT 8) q = 0 := by rw [et8]; exact lcp_0 (by omega)
  have z9 : lcp T (ewT 9) q = 0 := by rw [et9]; exact lcp_0 (by omega)
  have z10 : lcp T (ewT 10) q = 0 := by rw [et10]; exact lcp_0 (by omega)
  have z11 : lcp T (ewT 11) q = 0 := by rw [et11]; exact lcp_0 (by omega)
  unfold rdName
  simp [nmF, el0, el1, el2, el3, el4, el5, el6, el7, el8, el9, el10, el11, z0, z1, z2, z3, z4, z5, z6, z7, z8, z9, z10, z11]
end
/-- what must hold behind an order -/
def OD (T : List Int) (q : Nat) (h : Nat → Nat → Int) (e : Nat) (KI : Int → Nat → Nat → (Nat → Nat → Nat) → (Nat → Nat → Int) → Prop) : Prop := (∀ f, rdOrd T q = .inl f → ∀ h', rfr h h' → mS h' T f → KI 0 eNT e ewP h') ∧ (∀ o q1 ns W, rdOrd T q = .inr (o, q1, ns, W) → ∀ h', rfr h h' → mS h' T q1 → h' 577 28 = srt o → aR h' 587 ns → (o = 11 → sR h' W) → KI 1 eNT e ewP h')
section
variable {X : eX} {e : Nat} {h : Nat → Nat → Int} {T : List Int} {q : Nat} {KI : Int → Nat → Nat → (Nat → Nat → Nat) → (Nat → Nat → Int) → Prop}
theorem OD_f {f : Nat} {h1 : Nat → Nat → Int} (hn : rdName T q = .inl f) (H : OD T q h e KI) (r : rfr h h1) (s : mS h1 T f) : KI 0 eNT e ewP h1 := H.1 f (by rw [rdOrd, hn]) h1 r s
theorem OD_o {o q1 : Nat} {h1 : Nat → Nat → Int} (hn : rdName T q = .inr (o, q1)) (H : OD T q h e KI) (r : rfr h h1) (hs : h1 577 28 = srt o) : OF T (o = 11) (ewT (12 + o)) q1 [] h1 e KI := by
  refine ⟨fun f hf h2 r2 => H.1 f (by rw [rdOrd, hn]; dsimp only; rw [hf]) h2 (mfr_tr r r2), fun q2 ns2 W2 hf h2 r2 s2 o2 a2 w2 => H.2 o q2 ns2 W2 (by rw [rdOrd, hn]; dsimp only; rw [hf]) h2 (mfr_tr r r2) s2 (o2.trans hs) a2 w2⟩
theorem aR_0 : aR h 587 [] := fun k hk => absurd hk (Nat.not_lt_zero _)
theorem OF_w {W : List Int} {ns : List Int} {q2 : Nat} {b : Prop} {h1 : Nat → Nat → Int} (H : OF T b [119] q ns h e KI) (hw : wdF T 8 q [] = (q2, W)) (r : mfr [583] [17, 25] h h1) (s : mS h1 T q2) (a : aR h 587 ns) (w : sR h1 W) : KI (if W = [] then 0 else 1) eNT e ewP h1 := by
  have hp : rdPart T 119 q ns [] = if W = [] then .inl q2 else .inr (q2, ns, W) := by
    unfold rdPart
    simp only [show ¬ (119 : Int) = 98 by decide, show ¬ (119 : Int) = 100 by decide, show ¬ (119 : Int) = 108 by decide, show ¬ (119 : Int) = 110 by decide, if_false, if_true]
    rw [hw]
  by_cases c : W = []
  · rw [if_pos c] at hp ⊢
    exact OF_f H hp (mfr_le r (by decide) (by decide)) s
  · rw [if_neg c] at hp ⊢
    exact H.2 q2 ns W (fm_s hp) h1 (mfr_le r (by decide) (by decide)) s (r.2 28 (by decide)) (aR_h (r.1 587 (by decide) (by decide)) a) (fun _ => w)
theorem m_readsShout (H : OD T q h e KI) {h1 : Nat → Nat → Int} (r0 : rfr h h1) (s0 : mS h1 T (q + 1)) (o0 : h1 577 28 = 115) (a0 : sg T q = 115) {KI' KX} (H0 : ∀ h', KI 0 eNT e ewP h' → KI' 0 eNT e ewP h') (H1 : ∀ h', KI 1 eNT e ewP h' → KI' 1 eNT e ewP h') : eCi X m_X13_readsShout [vR 577] eNT e ewP h1 KI' KX := by
  refine bk_X13_readsShout_0 X 577 eNT e ewP h1 _ ?_
  have d0 : (0 : Int) = 0 ∨ (0 : Int) = 1 := by decide
  have d1 : (1 : Int) = 0 ∨ (1 : Int) = 1 := by decide
  have n10 : ¬ (1 : Int) = 0 := by decide
  rw [if_pos mk577]
  refine m_sg (by decide) s0 (fun z_ => ?_) (fun a1 h1_ m1 s1 => ?_)
  · rw [if_pos rfl, if_pos d0]
    exact H0 _ (OD_f (nm_s_f (j := 0) a0 (by rw [lcp_0 z_]) (by decide)) H r0 s0)
  rw [if_neg n10, if_pos mk577]
  refine m_sg (by decide) s1 (fun z_ => ?_) (fun a2 h2_ m2 s2 => ?_)
  · rw [if_pos rfl, if_pos d0]
    exact H0 _ (OD_f (nm_s_f (j := 1) a0 (by rw [lcp_s a1, lcp_0 z_]) (by decide)) H (rfr_sm r0 m1) s1)
  rw [if_neg n10, if_pos mk577]
  refine m_sg (by decide) s2 (fun z_ => ?_) (fun a3 h3_ m3 s3 => ?_)
  · rw [if_pos rfl, if_pos d0]
    exact H0 _ (OD_f (nm_s_f (j := 2) a0 (by rw [lcp_s a1, lcp_s a2, lcp_0 z_]) (by decide)) H (rfr_sm (rfr_sm r0 m1) m2) s2)
  rw [if_neg n10, if_pos mk577]
  refine m_sg (by decide) s3 (fun z_ => ?_) (fun a4 h4_ m4 s4 => ?_)
  · rw [if_pos rfl, if_pos d0]
    exact H0 _ (OD_f (nm_s_f (j := 3) a0 (by rw [lcp_s a1, lcp_s a2, lcp_s a3, lcp_0 z_]) (by decide)) H (rfr_sm (rfr_sm (rfr_sm r0 m1) m2) m3) s3)
  rw [if_neg n10, if_pos mk577]
  refine m_sg (by decide) s4 (fun z_ => ?_) (fun a5 h5_ m5 s5 => ?_)
  · rw [if_pos rfl, if_pos d0]
    exact H0 _ (OD_f (nm_s_f (j := 4) a0 (by rw [lcp_s a1, lcp_s a2, lcp_s a3, lcp_s a4, lcp_0 z_]) (by decide)) H (rfr_sm (rfr_sm (rfr_sm (rfr_sm r0 m1) m2) m3) m4) s4)
  have G := OD_o (nm_s_s a0 (by rw [lcp_s a1, lcp_s a2, lcp_s a3, lcp_s a4, lcp_s a5, lcp_n])) H (rfr_sm (rfr_sm (rfr_sm (rfr_sm (rfr_sm r0 m1) m2) m3) m4) m5) ((m5.2 28 (by decide)).trans ((m4.2 28 (by decide)).trans ((m3.2 28 (by decide)).trans ((m2.2 28 (by decide)).trans ((m1.2 28 (by decide)).trans o0)))))
  rw [fo11] at G
  rw [if_neg n10, if_pos mk577]
  refine p_digit (i := 0) G s5 aR_0 rfl (by decide) (fun h' k => by rw [if_pos rfl, if_pos d0]; exact H0 _ k) (fun q_ x_ h7 H7 s7 a7 => ?_)
  rw [if_neg n10, if_pos mk577]
  refine p_sign H7 s7 a7 (fun h' k => by rw [if_pos rfl, if_pos d0]; exact H0 _ k) (fun q8 h8 H8 s8 a8 => ?_)
  rw [if_neg n10, if_pos mk577]
  refine lp_said (KI := KI') (fun x n e p h k => k) 8 _ q8 [] rfl (mS_k (by omega) (by omega) s8) ⟨by rw [up_eq]; rfl, by decide, fun k hk => absurd hk (Nat.not_lt_zero _)⟩ (fun h9 f9 s9 w9 => ?_)
  have K := OF_w H8 (W := (wdF T 8 q8 []).2) (q2 := (wdF T 8 q8 []).1) rfl (h1 := h9) (mfr_tr (mfr_f mfr_rfl (by decide)) f9) s9 a8 w9
  by_cases c : (wdF T 8 q8 []).2 = []
  · rw [if_pos c] at K ⊢
    exact H0 _ K
  · rw [if_neg c] at K ⊢
    exact H1 _ K
theorem m_readsD (H : OD T q h e KI) {h1 : Nat → Nat → Int} (r0 : rfr h h1) (s0 : mS h1 T (q + 1)) (o0 : h1 577 28 = 100) (a0 : sg T q = 100) {KX} : eCi X m_X13_readsD [vR 577] eNT e ewP h1 KI KX := by
  refine bk_X13_readsD_0 X 577 eNT e ewP h1 _ ?_
  have d0 : (0 : Int) = 0 ∨ (0 : Int) = 1 := by decide
  have d1 : (1 : Int) = 0 ∨ (1 : Int) = 1 := by decide
  have n10 : ¬ (1 : Int) = 0 := by decide
  rw [if_pos mk577]
  refine m_sg (by decide) s0 (fun n1 => ?_) (fun a1 h1_ m1 s1 => ?_)
  · rw [if_pos rfl, if_pos mk577, if_pos mk577]
    have u0 : mS (up h1 577 28 101) T (q + 1) := mS_k (by omega) (by omega) s0
    have v0 : rfr h (up h1 577 28 101) := mfr_f r0 (by decide)
    have w0 : (up h1 577 28 101) 577 28 = 101 := up_eq
    refine m_sg (by decide) u0 (fun z_ => ?_) (fun b1 h2 m2 s2 => ?_)
    · rw [if_pos rfl, if_pos d0]
      exact OD_f (nm_d_f (j := 0) a0 n1 (lcp_0 z_) (by decide)) H v0 u0
    rw [if_neg n10, if_pos mk577]
    refine m_sg (by decide) s2 (fun z_ => ?_) (fun b2 h3 m3 s3 => ?_)
    · rw [if_pos rfl, if_pos d0]
      exact OD_f (nm_d_f (j := 1) a0 n1 (by rw [lcp_s b1, lcp_0 z_]) (by decide)) H (rfr_sm v0 m2) s2
    rw [if_neg n10, if_pos mk577]
    refine m_rest (by decide) (by decide) (by decide) s3 (fun j hj j4 h4 m4 s4 => ?_) (fun hj h4 m4 s4 => ?_)
    · rw [if_pos rfl, if_pos d0]
      exact OD_f (nm_d_f (j := j + 1 + 1) a0 n1 (by rw [lcp_s b1, lcp_s b2, hj]) (by omega)) H (rfr_sm (rfr_sm (rfr_sm v0 m2) m3) m4) (mS_g (by omega) s4)
    have G := OD_o (nm_d_s a0 n1 (by rw [lcp_s b1, lcp_s b2, hj])) H (rfr_sm (rfr_sm (rfr_sm v0 m2) m3) m4) ((m4.2 28 (by decide)).trans ((m3.2 28 (by decide)).trans ((m2.2 28 (by decide)).trans w0)))
    rw [fo1] at G
    have s5 := mS_g (q' := q + 1 + 6) (by omega) s4
    rw [if_neg n10, if_pos mk577]
    refine p_digit (i := 0) G s5 aR_0 rfl (by decide) (fun h' k => by rw [if_pos rfl, if_pos d0]; exact k) (fun q_ x_ he1 He1 se1 ae1 => ?_)
    rw [if_neg n10, if_pos mk577]
    refine p_sign He1 se1 ae1 (fun h' k => by rw [if_pos rfl, if_pos d0]; exact k) (fun q_ he2 He2 se2 ae2 => ?_)
    rw [if_neg n10, if_pos mk577]
    refine p_number (i := 1) He2 se2 ae2 rfl (by decide) (fun h' k => by rw [if_pos rfl, if_pos d0]; exact k) (fun q_ x_ he3 He3 se3 ae3 => ?_)
    rw [if_neg n10, if_pos d1]
    exact OF_n He3 (by decide) se3 ae3
  rw [if_neg n10, if_pos mk577]
  refine m_sg (by decide) s1 (fun z_ => ?_) (fun a2 h2 m2 s2 => ?_)
  · rw [if_pos rfl, if_pos d0]
    exact OD_f (nm_di_f (j := 0) a0 a1 (by rw [lcp_0 z_]) (by decide)) H (rfr_sm r0 m1) s1
  rw [if_neg n10, if_pos mk577]
  refine m_sg (by decide) s2 (fun z_ => ?_) (fun a3 h3 m3 s3 => ?_)
  · rw [if_pos rfl, if_pos d0]
    exact OD_f (nm_di_f (j := 1) a0 a1 (by rw [lcp_s a2, lcp_0 z_]) (by decide)) H (rfr_sm (rfr_sm r0 m1) m2) s2
  have G := OD_o (nm_di_s a0 a1 (by rw [lcp_s a2, lcp_s a3, lcp_n])) H (rfr_sm (rfr_sm (rfr_sm r0 m1) m2) m3) ((m3.2 28 (by decide)).trans ((m2.2 28 (by decide)).trans ((m1.2 28 (by decide)).trans o0)))
  rw [fo0] at G
  rw [if_neg n10, if_pos mk577]
  refine p_number (i := 0) G s3 aR_0 rfl (by decide) (fun h' k => by rw [if_pos rfl, if_pos d0]; exact k) (fun q_ x_ hd1 Hd1 sd1 ad1 => ?_)
  rw [if_neg n10, if_pos mk577]
  refine p_sign Hd1 sd1 ad1 (fun h' k => by rw [if_pos rfl, if_pos d0]; exact k) (fun q_ hd2 Hd2 sd2 ad2 => ?_)
  rw [if_neg n10, if_pos mk577]
  refine p_bottom Hd2 sd2 ad2 rfl (fun h' k => by rw [if_pos rfl, if_pos d0]; exact k) (fun q_ x_ hd3 Hd3 sd3 ad3 => ?_)
  rw [if_neg n10, if_pos d1]
  exact OF_n Hd3 (by decide) sd3 ad3
theorem m_readsF (H : OD T q h e KI) {h1 : Nat → Nat → Int} (r0 : rfr h h1) (s0 : mS h1 T (q + 1)) (a0 : sg T q = 102) {KX} : eCi X m_X13_readsF [vR 577] eNT e ewP h1 KI KX := by
  refine bk_X13_readsF_0 X 577 eNT e ewP h1 _ ?_
  have d0 : (0 : Int) = 0 ∨ (0 : Int) = 1 := by decide
  have d1 : (1 : Int) = 0 ∨ (1 : Int) = 1 := by decide
  have n10 : ¬ (1 : Int) = 0 := by decide
  have u0 : mS (up h1 577 28 103) T (q + 1) := mS_k (by omega) (by omega) s0
  have v0 : rfr h (up h1 577 28 103) := mfr_f r0 (by decide)
  have w0 : (up h1 577 28 103) 577 28 = 103 := up_eq
  rw [if_pos mk577, if_pos mk577]
  refine m_sg (by decide) u0 (fun n1 => ?_) (fun a1 h2_ m1 s1 => ?_)
  · rw [if_pos rfl, if_pos mk577]
    refine m_sg (by decide) u0 (fun n2 => ?_) (fun a1 h2 m2 s2 => ?_)
    · rw [if_pos rfl, if_pos d0]
      exact OD_f (nm_f a0 n1 n2) H v0 u0
    rw [if_neg n10, if_pos mk577, if_pos mk577]
    have u1 : mS (up h2 577 28 104) T (q + 1 + 1) := mS_k (by omega) (by omega) s2
    have v1 : rfr h (up h2 577 28 104) := mfr_f (rfr_sm v0 m2) (by decide)
    have w1 : (up h2 577 28 104) 577 28 = 104 := up_eq
    refine m_sg (by decide) u1 (fun n2 => ?_) (fun a2 h3 m3 s3 => ?_)
    · rw [if_pos rfl, if_pos mk577, if_pos mk577]
      have u2 : mS (up (up h2 577 28 104) 577 28 102) T (q + 1 + 1) := mS_k (by omega) (by omega) u1
      have v2 : rfr h (up (up h2 577 28 104) 577 28 102) := mfr_f v1 (by decide)
      have w2 : (up (up h2 577 28 104) 577 28 102) 577 28 = 102 := up_eq
      skip
      refine m_sg (by decide) u2 (fun z_ => ?_) (fun c2 g2 k2 t2 => ?_)
      · rw [if_pos rfl, if_pos d0]
        exact OD_f (nm_fi_f (j := 0) a0 a1 n2 (by rw [lcp_0 z_]) (by decide)) H v2 u2
      rw [if_neg n10, if_pos mk577]
      refine m_sg (by decide) t2 (fun z_ => ?_) (fun c3 g3 k3 t3 => ?_)
      · rw [if_pos rfl, if_pos d0]
        exact OD_f (nm_fi_f (j := 1) a0 a1 n2 (by rw [lcp_s c2, lcp_0 z_]) (by decide)) H (rfr_sm v2 k2) t2
      rw [if_neg n10, if_pos mk577]
      refine m_sg (by decide) t3 (fun z_ => ?_) (fun c4 g4 k4 t4 => ?_)
      · rw [if_pos rfl, if_pos d0]
        exact OD_f (nm_fi_f (j := 2) a0 a1 n2 (by rw [lcp_s c2, lcp_s c3, lcp_0 z_]) (by decide)) H (rfr_sm (rfr_sm v2 k2) k3) t3
      have G := OD_o (nm_fi_s a0 a1 n2 (by rw [lcp_s c2, lcp_s c3, lcp_s c4, lcp_n])) H (rfr_sm (rfr_sm (rfr_sm v2 k2) k3) k4) ((k4.2 28 (by decide)).trans ((k3.2 28 (by decide)).trans ((k2.2 28 (by decide)).trans w2)))
      rw [fo2] at G
      rw [if_neg n10, if_pos mk577]
      refine p_digit (i := 0) G t4 aR_0 rfl (by decide) (fun h' k => by rw [if_pos rfl, if_pos d0]; exact k) (fun q_ x_ hf1 Hf1 sf1 af1 => ?_)
      rw [if_neg n10, if_pos d1]
      exact OF_n Hf1 (by decide) sf1 af1
    rw [if_neg n10, if_pos mk577]
    refine m_sg (by decide) s3 (fun z_ => ?_) (fun c3 g3 k3 t3 => ?_)
    · rw [if_pos rfl, if_pos d0]
      exact OD_f (nm_fis_f (j := 0) a0 a1 a2 (by rw [lcp_0 z_]) (by decide)) H (rfr_sm v1 m3) s3
    rw [if_neg n10, if_pos mk577]
    refine m_sg (by decide) t3 (fun z_ => ?_) (fun c4 g4 k4 t4 => ?_)
    · rw [if_pos rfl, if_pos d0]
      exact OD_f (nm_fis_f (j := 1) a0 a1 a2 (by rw [lcp_s c3, lcp_0 z_]) (by decide)) H (rfr_sm (rfr_sm v1 m3) k3) t3
    have G := OD_o (nm_fis_s a0 a1 a2 (by rw [lcp_s c3, lcp_s c4, lcp_n])) H (rfr_sm (rfr_sm (rfr_sm v1 m3) k3) k4) ((k4.2 28 (by decide)).trans ((k3.2 28 (by decide)).trans ((m3.2 28 (by decide)).trans w1)))
    rw [fo10] at G
    rw [if_neg n10, if_pos mk577]
    refine p_digit (i := 0) G t4 aR_0 rfl (by decide) (fun h' k => by rw [if_pos rfl, if_pos d0]; exact k) (fun q_ x_ hh1 Hh1 sh1 ah1 => ?_)
    rw [if_neg n10, if_pos d1]
    exact OF_n Hh1 (by decide) sh1 ah1
  rw [if_neg n10, if_pos mk577]
  refine m_sg (by decide) s1 (fun z_ => ?_) (fun a2 h2 m2 s2 => ?_)
  · rw [if_pos rfl, if_pos d0]
    exact OD_f (nm_fr_f (j := 0) a0 a1 (by rw [lcp_0 z_]) (by decide)) H (rfr_sm v0 m1) s1
  rw [if_neg n10, if_pos mk577]
  refine m_sg (by decide) s2 (fun z_ => ?_) (fun a3 h3 m3 s3 => ?_)
  · rw [if_pos rfl, if_pos d0]
    exact OD_f (nm_fr_f (j := 1) a0 a1 (by rw [lcp_s a2, lcp_0 z_]) (by decide)) H (rfr_sm (rfr_sm v0 m1) m2) s2
  rw [if_neg n10, if_pos mk577]
  refine m_sg (by decide) s3 (fun z_ => ?_) (fun a4 h4 m4 s4 => ?_)
  · rw [if_pos rfl, if_pos d0]
    exact OD_f (nm_fr_f (j := 2) a0 a1 (by rw [lcp_s a2, lcp_s a3, lcp_0 z_]) (by decide)) H (rfr_sm (rfr_sm (rfr_sm v0 m1) m2) m3) s3
  have G := OD_o (nm_fr_s a0 a1 (by rw [lcp_s a2, lcp_s a3, lcp_s a4, lcp_n])) H (rfr_sm (rfr_sm (rfr_sm (rfr_sm v0 m1) m2) m3) m4) ((m4.2 28 (by decide)).trans ((m3.2 28 (by decide)).trans ((m2.2 28 (by decide)).trans ((m1.2 28 (by decide)).trans w0))))
  rw [fo4] at G
  rw [if_neg n10, if_pos mk577]
  refine p_place G s4 (fun h' k => by rw [if_pos rfl, if_pos d0]; exact k) (fun q_ x_ y_ hg1 Hg1 sg1 ag1 => ?_)
  rw [if_neg n10, if_pos mk577]
  refine p_letter Hg1 sg1 ag1 rfl (fun h' k => by rw [if_pos rfl, if_pos d0]; exact k) (fun q_ x_ hg2 Hg2 sg2 ag2 => ?_)
  rw [if_neg n10, if_pos d1]
  exact OF_n Hg2 (by decide) sg2 ag2
theorem m_readsOrder (l : mS h T q) {KX} (H : OD T q h e KI) : eCi X m_X13_readsOrder [vR 577] eNT e ewP h KI KX := by
  refine bk_X13_readsOrder_0 X 577 eNT e ewP h _ ?_
  have d0 : (0 : Int) = 0 ∨ (0 : Int) = 1 := by decide
  have d1 : (1 : Int) = 0 ∨ (1 : Int) = 1 := by decide
  have n10 : ¬ (1 : Int) = 0 := by decide
  rw [if_pos mk577, m_next l, if_pos mk577, if_pos mk577]
  have u0 : mS (up h 577 28 (sgm T q)) T q := mS_k (by omega) (by omega) l
  have v0 : rfr h (up h 577 28 (sgm T q)) := mfr_f mfr_rfl (by decide)
  have w0 : (up h 577 28 (sgm T q)) 577 28 = sgm T q := up_eq
  generalize (up h 577 28 (sgm T q)) = h0 at u0 v0 w0 ⊢
  by_cases q0 : sg T q = 100
  · refine m_sg (by decide) u0 (fun z_ => absurd q0 z_) (fun a0 h1 m1 s1 => ?_)
    have v1 := rfr_sm v0 m1
    have w1 := (m1.2 28 (by decide)).trans (w0.trans (sgm_i (T := T) (q := q) (by omega)))
    rw [a0] at w1
    rw [if_neg n10, if_pos mk577]
    exact m_readsD ⟨fun f hf h' f1 f2 => by rw [if_pos d0]; exact H.1 f hf h' f1 f2, fun o q1 ns W hs h' f1 f2 f3 f4 f5 => by rw [if_pos d1]; exact H.2 o q1 ns W hs h' f1 f2 f3 f4 f5⟩ v1 s1 w1 a0
  refine m_sg (by decide) u0 (fun _ => ?_) (fun z_ => absurd z_ q0)
  rw [if_pos rfl, if_pos mk577]
  by_cases q1 : sg T q = 102
  · refine m_sg (by decide) u0 (fun z_ => absurd q1 z_) (fun a0 h1 m1 s1 => ?_)
    have v1 := rfr_sm v0 m1
    have w1 := (m1.2 28 (by decide)).trans (w0.trans (sgm_i (T := T) (q := q) (by omega)))
    rw [if_neg n10, if_pos mk577]
    exact m_readsF ⟨fun f hf h' f1 f2 => by rw [if_pos d0]; exact H.1 f hf h' f1 f2, fun o q1 ns W hs h' f1 f2 f3 f4 f5 => by rw [if_pos d1]; exact H.2 o q1 ns W hs h' f1 f2 f3 f4 f5⟩ v1 s1 a0
  refine m_sg (by decide) u0 (fun _ => ?_) (fun z_ => absurd z_ q1)
  rw [if_pos rfl, if_pos mk577]
  by_cases q2 : sg T q = 99
  · refine m_sg (by decide) u0 (fun z_ => absurd q2 z_) (fun a0 h1 m1 s1 => ?_)
    have v1 := rfr_sm v0 m1
    have w1 := (m1.2 28 (by decide)).trans (w0.trans (sgm_i (T := T) (q := q) (by omega)))
    rw [a0] at w1
    rw [if_neg n10, if_pos mk577]
    refine m_rest (by decide) (by decide) (by decide) s1 (fun j hj j4 h4 m4 s4 => ?_) (fun hj h4 m4 s4 => ?_)
    · rw [if_pos rfl, if_pos d0]
      exact OD_f (nm_c_f a0 hj j4) H (rfr_sm v1 m4) s4
    have G := OD_o (nm_c_s a0 hj) H (rfr_sm v1 m4) ((m4.2 28 (by decide)).trans w1)
    rw [fo3] at G
    rw [if_neg n10, if_pos mk577]
    refine p_place G s4 (fun h' k => by rw [if_pos rfl, if_pos d0]; exact k) (fun q_ x_ y_ hc1 Hc1 sc1 ac1 => ?_)
    rw [if_neg n10, if_pos mk577]
    refine p_digit (i := 2) Hc1 sc1 ac1 rfl (by decide) (fun h' k => by rw [if_pos rfl, if_pos d0]; exact k) (fun q_ x_ hc2 Hc2 sc2 ac2 => ?_)
    rw [if_neg n10, if_pos d1]
    exact OF_n Hc2 (by decide) sc2 ac2
  refine m_sg (by decide) u0 (fun _ => ?_) (fun z_ => absurd z_ q2)
  rw [if_pos rfl, if_pos mk577]
  by_cases q3 : sg T q = 109
  · refine m_sg (by decide) u0 (fun z_ => absurd q3 z_) (fun a0 h1 m1 s1 => ?_)
    have v1 := rfr_sm v0 m1
    have w1 := (m1.2 28 (by decide)).trans (w0.trans (sgm_i (T := T) (q := q) (by omega)))
    rw [a0] at w1
    rw [if_neg n10, if_pos mk577]
    refine m_rest (by decide) (by decide) (by decide) s1 (fun j hj j4 h4 m4 s4 => ?_) (fun hj h4 m4 s4 => ?_)
    · rw [if_pos rfl, if_pos d0]
      exact OD_f (nm_m_f a0 hj j4) H (rfr_sm v1 m4) s4
    have G := OD_o (nm_m_s a0 hj) H (rfr_sm v1 m4) ((m4.2 28 (by decide)).trans w1)
    rw [fo5] at G
    rw [if_neg n10, if_pos mk577]
    refine p_place G s4 (fun h' k => by rw [if_pos rfl, if_pos d0]; exact k) (fun q_ x_ y_ hm1 Hm1 sm1 am1 => ?_)
    rw [if_neg n10, if_pos mk577]
    refine p_digit (i := 2) Hm1 sm1 am1 rfl (by decide) (fun h' k => by rw [if_pos rfl, if_pos d0]; exact k) (fun q_ x_ hm2 Hm2 sm2 am2 => ?_)
    rw [if_neg n10, if_pos d1]
    exact OF_n Hm2 (by decide) sm2 am2
  refine m_sg (by decide) u0 (fun _ => ?_) (fun z_ => absurd z_ q3)
  rw [if_pos rfl, if_pos mk577]
  by_cases q4 : sg T q = 116
  · refine m_sg (by decide) u0 (fun z_ => absurd q4 z_) (fun a0 h1 m1 s1 => ?_)
    have v1 := rfr_sm v0 m1
    have w1 := (m1.2 28 (by decide)).trans (w0.trans (sgm_i (T := T) (q := q) (by omega)))
    rw [a0] at w1
    rw [if_neg n10, if_pos mk577]
    refine m_rest (by decide) (by decide) (by decide) s1 (fun j hj j4 h4 m4 s4 => ?_) (fun hj h4 m4 s4 => ?_)
    · rw [if_pos rfl, if_pos d0]
      exact OD_f (nm_t_f a0 hj j4) H (rfr_sm v1 m4) s4
    have G := OD_o (nm_t_s a0 hj) H (rfr_sm v1 m4) ((m4.2 28 (by decide)).trans w1)
    rw [fo6] at G
    rw [if_neg n10, if_pos mk577]
    refine p_two G s4 (fun h' k => by rw [if_pos rfl, if_pos d0]; exact k) (fun q_ x_ y_ ht1 Ht1 st1 at1 => ?_)
    rw [if_neg n10, if_pos d1]
    exact OF_n Ht1 (by decide) st1 at1
  refine m_sg (by decide) u0 (fun _ => ?_) (fun z_ => absurd z_ q4)
  rw [if_pos rfl, if_pos mk577]
  by_cases q5 : sg T q = 119
  · refine m_sg (by decide) u0 (fun z_ => absurd q5 z_) (fun a0 h1 m1 s1 => ?_)
    have v1 := rfr_sm v0 m1
    have w1 := (m1.2 28 (by decide)).trans (w0.trans (sgm_i (T := T) (q := q) (by omega)))
    rw [a0] at w1
    rw [if_neg n10, if_pos mk577]
    refine m_sg (by decide) s1 (fun z_ => ?_) (fun c2 g2 k2 t2 => ?_)
    · rw [if_pos rfl, if_pos d0]
      exact OD_f (nm_w_f (j := 0) a0 (by rw [lcp_0 z_]) (by decide)) H v1 s1
    rw [if_neg n10, if_pos mk577]
    refine m_sg (by decide) t2 (fun z_ => ?_) (fun c3 g3 k3 t3 => ?_)
    · rw [if_pos rfl, if_pos d0]
      exact OD_f (nm_w_f (j := 1) a0 (by rw [lcp_s c2, lcp_0 z_]) (by decide)) H (rfr_sm v1 k2) t2
    rw [if_neg n10, if_pos mk577]
    refine m_sg (by decide) t3 (fun z_ => ?_) (fun c4 g4 k4 t4 => ?_)
    · rw [if_pos rfl, if_pos d0]
      exact OD_f (nm_w_f (j := 2) a0 (by rw [lcp_s c2, lcp_s c3, lcp_0 z_]) (by decide)) H (rfr_sm (rfr_sm v1 k2) k3) t3
    have G := OD_o (nm_w_s a0 (by rw [lcp_s c2, lcp_s c3, lcp_s c4, lcp_n])) H (rfr_sm (rfr_sm (rfr_sm v1 k2) k3) k4) ((k4.2 28 (by decide)).trans ((k3.2 28 (by decide)).trans ((k2.2 28 (by decide)).trans w1)))
    rw [fo7] at G
    rw [if_neg n10, if_pos d1]
    exact OF_n G (by decide) t4 aR_0
  refine m_sg (by decide) u0 (fun _ => ?_) (fun z_ => absurd z_ q5)
  rw [if_pos rfl, if_pos mk577]
  by_cases q6 : sg T q = 114
  · refine m_sg (by decide) u0 (fun z_ => absurd q6 z_) (fun a0 h1 m1 s1 => ?_)
    have v1 := rfr_sm v0 m1
    have w1 := (m1.2 28 (by decide)).trans (w0.trans (sgm_i (T := T) (q := q) (by omega)))
    rw [a0] at w1
    rw [if_neg n10, if_pos mk577]
    refine m_rest (by decide) (by decide) (by decide) s1 (fun j hj j4 h4 m4 s4 => ?_) (fun hj h4 m4 s4 => ?_)
    · rw [if_pos rfl, if_pos d0]
      exact OD_f (nm_r_f a0 hj j4) H (rfr_sm v1 m4) s4
    have G := OD_o (nm_r_s a0 hj) H (rfr_sm v1 m4) ((m4.2 28 (by decide)).trans w1)
    rw [fo8] at G
    rw [if_neg n10, if_pos mk577]
    refine p_number (i := 0) G s4 aR_0 rfl (by decide) (fun h' k => by rw [if_pos rfl, if_pos d0]; exact k) (fun q_ x_ hr1 Hr1 sr1 ar1 => ?_)
    rw [if_neg n10, if_pos d1]
    exact OF_n Hr1 (by decide) sr1 ar1
  refine m_sg (by decide) u0 (fun _ => ?_) (fun z_ => absurd z_ q6)
  rw [if_pos rfl, if_pos mk577]
  by_cases q7 : sg T q = 98
  · refine m_sg (by decide) u0 (fun z_ => absurd q7 z_) (fun a0 h1 m1 s1 => ?_)
    have v1 := rfr_sm v0 m1
    have w1 := (m1.2 28 (by decide)).trans (w0.trans (sgm_i (T := T) (q := q) (by omega)))
    rw [a0] at w1
    rw [if_neg n10, if_pos mk577]
    refine m_rest (by decide) (by decide) (by decide) s1 (fun j hj j4 h4 m4 s4 => ?_) (fun hj h4 m4 s4 => ?_)
    · rw [if_pos rfl, if_pos d0]
      exact OD_f (nm_b_f a0 hj j4) H (rfr_sm v1 m4) s4
    have G := OD_o (nm_b_s a0 hj) H (rfr_sm v1 m4) ((m4.2 28 (by decide)).trans w1)
    rw [fo9] at G
    rw [if_neg n10, if_pos mk577]
    refine p_two G s4 (fun h' k => by rw [if_pos rfl, if_pos d0]; exact k) (fun q_ x_ y_ hb1 Hb1 sb1 ab1 => ?_)
    rw [if_neg n10, if_pos d1]
    exact OF_n Hb1 (by decide) sb1 ab1
  refine m_sg (by decide) u0 (fun _ => ?_) (fun z_ => absurd z_ q7)
  rw [if_pos rfl, if_pos mk577]
  by_cases q8 : sg T q = 115
  · refine m_sg (by decide) u0 (fun z_ => absurd q8 z_) (fun a0 h1 m1 s1 => ?_)
    have v1 := rfr_sm v0 m1
    have w1 := (m1.2 28 (by decide)).trans (w0.trans (sgm_i (T := T) (q := q) (by omega)))
    rw [a0] at w1
    rw [if_neg n10, if_pos mk577]
    exact m_readsShout H v1 s1 w1 a0 (fun h' k => by rw [if_pos rfl, if_pos d0]; exact k) (fun h' k => by rw [if_neg n10, if_pos d1]; exact k)
  refine m_sg (by decide) u0 (fun _ => ?_) (fun z_ => absurd z_ q8)
  rw [if_pos rfl, if_pos d0]
  exact OD_f (nm_0 q0 q1 q2 q3 q4 q5 q6 q7 q8) H v0 u0
end
