/-! what the law asks, purely -/
theorem btr_f {w : Nat → Int} {W : List Int} {i j : Nat} : btr w W i j = false ↔ ¬ (gSh w j W < gSh w i W ∨ (gSh w i W = gSh w j W ∧ tmN w i < tmN w j)) := by
  unfold btr
  exact decide_eq_false_iff_not
theorem bw_sp {w : Nat → Int} {W : List Int} : ∀ (k i best : Nat), best < i → (∀ m, m < i → btr w W m best = false) → bwF w W i k best < i + k ∧ ∀ m, m < i + k → btr w W m (bwF w W i k best) = false := by
  intro k
  induction k with
  | zero => intro i best hb hm; exact ⟨hb, hm⟩
  | succ k ih =>
    intro i best hb hm
    unfold bwF
    by_cases q : btr w W i best = true
    · rw [if_pos q]
      have h := ih (i + 1) i (by omega) (fun m h1 => by
        have q2 : ¬ (btr w W i best = false) := by rw [q]; decide
        rw [btr_f] at q2 ⊢
        by_cases hmi : m = i
        · subst hmi; omega
        · have h2 := hm m (by omega)
          rw [btr_f] at h2
          omega)
      rw [show i + (k + 1) = i + 1 + k by omega]
      exact h
    · rw [if_neg q]
      have h := ih (i + 1) best (by omega) (fun m h1 => by
        by_cases hmi : m = i
        · subst hmi; exact Bool.eq_false_iff.mpr q
        · exact hm m (by omega))
      rw [show i + (k + 1) = i + 1 + k by omega]
      exact h
theorem php : ∀ (n : Nat) (f : Nat → Nat), (∀ i, i < n → f i < n) → (∀ i j, i < n → j < n → f i = f j → i = j) → ∀ x, x < n → ∃ i, i < n ∧ f i = x := by
  intro n
  induction n with
  | zero => intro f _ _ x hx; omega
  | succ n ih =>
    intro f hr hi x hx
    have hy := hr n (by omega)
    have h := ih (fun i => if f i = n then f n else f i) (fun i h1 => by
      show (if f i = n then f n else f i) < n
      have h2 := hr i (by omega)
      split
      · next q => have h3 : f n ≠ n := fun z => by have := hi i n (by omega) (by omega) (by omega); omega
                  omega
      · omega) (fun i j h1 h2 h3 => by
      have h3' : (if f i = n then f n else f i) = (if f j = n then f n else f j) := h3
      have g1 : f i ≠ f n := fun z => by have := hi i n (by omega) (by omega) z; omega
      have g2 : f j ≠ f n := fun z => by have := hi j n (by omega) (by omega) z; omega
      apply hi i j (by omega) (by omega)
      split at h3' <;> split at h3' <;> omega)
    by_cases q1 : x = f n
    · exact ⟨n, by omega, q1.symm⟩
    by_cases q2 : x = n
    · obtain ⟨i, h1, h2⟩ := h (f n) (by omega)
      have h2' : (if f i = n then f n else f i) = f n := h2
      refine ⟨i, by omega, ?_⟩
      split at h2'
      · omega
      · have := hi i n (by omega) (by omega) h2'; omega
    · obtain ⟨i, h1, h2⟩ := h x (by omega)
      have h2' : (if f i = n then f n else f i) = x := h2
      refine ⟨i, by omega, ?_⟩
      split at h2'
      · omega
      · exact h2'
theorem rk_le {w : Nat → Int} {y : Int} {i j : Nat} (hh : ∀ q, bfr w y j q = true → bfr w y i q = true) : ∀ (k p : Nat), rkF w y j p k ≤ rkF w y i p k := by
  intro k
  induction k with
  | zero => intro p; exact Nat.le_refl _
  | succ k ih =>
    intro p
    have h1 := ih (p + 1)
    unfold rkF
    by_cases q : bfr w y j p = true
    · rw [if_pos q, if_pos (hh p q)]; omega
    · rw [if_neg q]; omega
theorem rk_lt {w : Nat → Int} {y : Int} {i j : Nat} (hh : ∀ q, bfr w y j q = true → bfr w y i q = true) {m : Nat} (hi : bfr w y i m = true) (hj : ¬ bfr w y j m = true) : ∀ (k p : Nat), p ≤ m → m < p + k → rkF w y j p k < rkF w y i p k := by
  intro k
  induction k with
  | zero => intro p h1 h2; omega
  | succ k ih =>
    intro p h1 h2
    by_cases e : p = m
    · subst e
      have h3 := rk_le hh k (p + 1)
      unfold rkF
      rw [if_pos hi, if_neg hj]
      omega
    · have h3 := ih (p + 1) (by omega) (by omega)
      unfold rkF
      by_cases q : bfr w y j p = true
      · rw [if_pos q, if_pos (hh p q)]; omega
      · rw [if_neg q]; omega
theorem bfr_t {w : Nat → Int} {y : Int} {i j : Nat} : bfr w y i j = true ↔ (msF w y i < msF w y j ∨ (msF w y j = msF w y i ∧ j < i)) := by
  unfold bfr
  exact decide_eq_true_iff
/-- who stands before another has the smaller rank -/
theorem rk_bf {w : Nat → Int} {y : Int} {i j N : Nat} (hj : j < N) (h : bfr w y i j = true) : rkF w y j 0 N < rkF w y i 0 N := by
  refine rk_lt (fun q hq => ?_) (m := j) h (fun z => ?_) N 0 (Nat.zero_le _) (by omega)
  · rw [bfr_t] at h hq ⊢
    omega
  · rw [bfr_t] at z
    omega
theorem rk_N {w : Nat → Int} {y : Int} {i : Nat} : ∀ (k p : Nat), p ≤ i → i < p + k → rkF w y i p k < k := by
  intro k
  induction k with
  | zero => intro p h1 h2; omega
  | succ k ih =>
    intro p h1 h2
    unfold rkF
    by_cases e : p = i
    · subst e
      rw [if_neg (fun z => by rw [bfr_t] at z; omega)]
      have := rkF_le w y p k (p + 1)
      omega
    · have h3 := ih (p + 1) (by omega) (by omega)
      split <;> omega
theorem rk_ex {w : Nat → Int} {y : Int} {N x : Nat} (hx : x < N) : ∃ i, i < N ∧ rkF w y i 0 N = x := by
  refine php N (fun i => rkF w y i 0 N) (fun i hi => rk_N N 0 (Nat.zero_le _) (by omega)) (fun i j hi hj h => ?_) x hx
  have h' : rkF w y i 0 N = rkF w y j 0 N := h
  by_cases e : i = j
  · exact e
  exfalso
  by_cases q : bfr w y i j = true
  · have := rk_bf hj q; omega
  · have q2 : bfr w y j i = true := by
      rw [bfr_t] at q ⊢
      omega
    have := rk_bf hi q2
    omega
theorem rd_sp {w : Nat → Int} {y x : Int} {N : Nat} : ∀ (k i : Nat), (∃ m, i ≤ m ∧ m < i + k ∧ ((rkF w y m 0 N : Nat) : Int) = x) → ∃ m : Nat, rdF w y x N i k = (m : Int) ∧ m < i + k ∧ ((rkF w y m 0 N : Nat) : Int) = x := by
  intro k
  induction k with
  | zero => rintro i ⟨m, h1, h2, -⟩; omega
  | succ k ih =>
    rintro i ⟨m, h1, h2, h3⟩
    unfold rdF
    by_cases q : ((rkF w y i 0 N : Nat) : Int) = x
    · rw [if_pos q]
      exact ⟨i, rfl, by omega, q⟩
    · rw [if_neg q]
      obtain ⟨m', a1, a2, a3⟩ := ih (i + 1) ⟨m, by
        by_cases e : i = m
        · subst e; exact absurd h3 q
        · omega, by omega, h3⟩
      exact ⟨m', a1, by omega, a3⟩
/-- the wells in an order -/
theorem gRk_sp {w : Nat → Int} {y : Int} (hy : 0 ≤ y ∧ y ≤ 3) {x : Nat} (hx : (x : Int) < w 0) : ∃ m : Nat, gJ (gRk w y (x : Int)) = (m : Int) ∧ (m : Int) < w 0 ∧ rkF w y m 0 (w 0).toNat = x := by
  obtain ⟨i, h1, h2⟩ := rk_ex (w := w) (y := y) (N := (w 0).toNat) (x := x) (by omega)
  obtain ⟨m, a1, a2, a3⟩ := rd_sp (w := w) (y := y) (x := (x : Int)) (N := (w 0).toNat) (w 0).toNat 0 ⟨i, Nat.zero_le _, by omega, by rw [h2]⟩
  refine ⟨m, ?_, by omega, by omega⟩
  have e : gRk w y (x : Int) = (0, (m : Int)) := by
    unfold gRk
    rw [if_pos hy, a1, if_neg (by omega)]
  rw [e]
  rfl
theorem rk_ord {w : Nat → Int} {y : Int} {N a b : Nat} (hb : b < N) (h : rkF w y a 0 N < rkF w y b 0 N) : msF w y b ≤ msF w y a := by
  by_cases q : msF w y a < msF w y b
  · have := rk_bf (w := w) (y := y) (i := a) hb (bfr_t.mpr (Or.inl q))
    omega
  · omega
/-- letters of an echo -/
theorem wz_pD {f : Nat → Int} {n t : Nat} (ok : wOk f n) (ht : t < n) {L : List Int} (h : wz L) : wz (pD f t L) := by
  have h5 := ok.2.2.2.2 t ht
  unfold pD
  split
  · exact fun x hx => h x ((List.dropLast_sublist _).subset hx)
  split
  · exact fun x hx => h x (List.mem_of_mem_eraseP hx)
  split
  · intro x hx
    rcases List.mem_append.mp hx with h1 | h1
    · exact h x h1
    · rw [List.mem_singleton] at h1
      subst h1
      exact h5.2.2.1 (by omega)
  · exact h
theorem wz_pU {f : Nat → Int} {t : Nat} {L : List Int} (h : wz L) : wz (pU f t L) := by
  unfold pU
  split
  · exact fun x hx => h x ((List.dropLast_sublist _).subset hx)
  split
  · exact fun x hx => h x (List.mem_of_mem_eraseP hx)
  · exact h
theorem wz_gD {f : Nat → Int} {n : Nat} (ok : wOk f n) : ∀ (k p : Nat) (L : List Int), p + k ≤ n → wz L → wz (gD f n p k L) := by
  intro k
  induction k with
  | zero => intro p L _ h; exact h
  | succ k ih =>
    intro p L hp h
    unfold gD
    obtain ⟨t, h1, h2⟩ := fAt_ex (f := f) (n := n) p (by omega)
    refine ih (p + 1) _ (by omega) ?_
    rw [h2, Int.toNat_natCast]
    exact wz_pD ok h1 h
theorem wz_gU {f : Nat → Int} {n : Nat} : ∀ (k : Nat) (L : List Int), wz L → wz (gU f n k L) := by
  intro k
  induction k with
  | zero => intro L h; exact h
  | succ k ih =>
    intro L h
    unfold gU
    exact ih _ (wz_pU h)
theorem wz_ec {f : Nat → Int} {n : Nat} (ok : wOk f n) {L : List Int} (h : wz L) : wz (eEc f n L) := by
  unfold eEc
  refine wz_gU n _ ?_
  have h1 := wz_gD ok n 0 L (by omega) h
  unfold trn
  split
  · exact fun x hx => h1 x (List.mem_reverse.mp hx)
  split
  · exact fun x hx => h1 x (List.mem_filter.mp hx).1
  · exact h1
