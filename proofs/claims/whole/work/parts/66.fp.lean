/-! quotients of whole numbers are no NaN -/
def fpF (f : _root_.Jvm.FP.Core.Fmt) : Prop := 0 < f.tails ∧ 2 ^ f.p = 2 * f.tails ∧ 3 ≤ f.exps ∧ f.qmax - f.qmin + 3 = (f.exps : Int) ∧ 33 ≤ f.qmax ∧ f.qmin ≤ 0 ∧ 2 ≤ f.p
theorem fpF.t0 {f : _root_.Jvm.FP.Core.Fmt} (F : fpF f) : 0 < f.tails := F.1
theorem fpF.p2 {f : _root_.Jvm.FP.Core.Fmt} (F : fpF f) : 2 ^ f.p = 2 * f.tails := F.2.1
theorem fpF.e2 {f : _root_.Jvm.FP.Core.Fmt} (F : fpF f) : 3 ≤ f.exps := F.2.2.1
theorem fpF.qq {f : _root_.Jvm.FP.Core.Fmt} (F : fpF f) : f.qmax - f.qmin + 3 = (f.exps : Int) := F.2.2.2.1
theorem fpF.q3 {f : _root_.Jvm.FP.Core.Fmt} (F : fpF f) : 33 ≤ f.qmax := F.2.2.2.2.1
theorem fpF.q0 {f : _root_.Jvm.FP.Core.Fmt} (F : fpF f) : f.qmin ≤ 0 := F.2.2.2.2.2.1
theorem fpF.p1 {f : _root_.Jvm.FP.Core.Fmt} (F : fpF f) : 2 ≤ f.p := F.2.2.2.2.2.2
theorem fp32 : fpF _root_.Jvm.FP.Core.b32 := ⟨by decide +kernel, by decide +kernel, by decide +kernel, by decide +kernel, by decide +kernel, by decide +kernel, by decide +kernel⟩
theorem fp64 : fpF _root_.Jvm.FP.Core.b64 := ⟨by decide +kernel, by decide +kernel, by decide +kernel, by decide +kernel, by decide +kernel, by decide +kernel, by decide +kernel⟩
section
variable {f : _root_.Jvm.FP.Core.Fmt}
theorem fp_asm (F : fpF f) (s : Bool) {e t : Nat} (he : e < f.exps) (ht : t < f.tails) : _root_.Jvm.FP.Core.fieldE f (_root_.Jvm.FP.Core.assemble f s e t) = e ∧ _root_.Jvm.FP.Core.fieldT f (_root_.Jvm.FP.Core.assemble f s e t) = t := by
  have a : _root_.Jvm.FP.Core.assemble f s e t / f.tails = s.toNat * f.exps + e := by
    unfold _root_.Jvm.FP.Core.assemble
    rw [Nat.mul_comm, Nat.mul_add_div F.t0, Nat.div_eq_of_lt ht, Nat.add_zero]
  constructor
  · unfold _root_.Jvm.FP.Core.fieldE
    rw [a, Nat.mul_comm, Nat.mul_add_mod, Nat.mod_eq_of_lt he]
  · unfold _root_.Jvm.FP.Core.fieldT _root_.Jvm.FP.Core.assemble
    rw [Nat.mul_comm, Nat.mul_add_mod, Nat.mod_eq_of_lt ht]
def fpN (f : _root_.Jvm.FP.Core.Fmt) (n : Nat) : Prop := _root_.Jvm.FP.Core.fieldE f n = f.exps - 1 → _root_.Jvm.FP.Core.fieldT f n = 0
theorem fp_dec {n : Nat} (h : fpN f n) : _root_.Jvm.FP.Core.decode f n ≠ .nan := by
  unfold Jvm.FP.Core.decode
  split
  · next q => rw [if_pos (h q)]; intro z; cases z
  · split <;> (intro z; cases z)
theorem fp_fin (F : fpF f) (s : Bool) {c : Nat} {q : Int} (hc : c < 2 * f.tails) (h1 : f.qmin ≤ q) (h2 : q ≤ f.qmax) : fpN f (_root_.Jvm.FP.Core.encode f (.fin s c q)) ∧ ∃ s' c' q', _root_.Jvm.FP.Core.decode f (_root_.Jvm.FP.Core.encode f (.fin s c q)) = .fin s' c' q' ∧ (0 < c → 0 < c') := by
  have t0 := F.t0
  have e2 := F.e2
  have qq := F.qq
  unfold _root_.Jvm.FP.Core.encode
  dsimp only
  by_cases a : c < f.tails
  · rw [if_pos a]
    obtain ⟨x1, x2⟩ := fp_asm F s (e := 0) (t := c) (by omega) a
    refine ⟨fun z => by omega, ?_⟩
    unfold Jvm.FP.Core.decode
    rw [x1, x2, if_neg (by omega), if_pos rfl]
    exact ⟨_, _, _, rfl, fun h => h⟩
  · rw [if_neg a]
    obtain ⟨x1, x2⟩ := fp_asm F s (e := (q - f.qmin).toNat + 1) (t := c - f.tails) (by omega) (by omega)
    refine ⟨fun z => by omega, ?_⟩
    unfold Jvm.FP.Core.decode
    rw [x1, x2, if_neg (by omega), if_neg (by omega)]
    exact ⟨_, _, _, rfl, fun _ => by omega⟩
theorem fp_inf (F : fpF f) (s : Bool) : fpN f (_root_.Jvm.FP.Core.encode f (.inf s)) := by
  have t0 := F.t0
  have e2 := F.e2
  unfold _root_.Jvm.FP.Core.encode
  dsimp only
  exact fun _ => (fp_asm F s (e := f.exps - 1) (t := 0) (by omega) t0).2
theorem fp_set (F : fpF f) (s : Bool) (c : Nat) {q : Int} (h1 : f.qmin ≤ q) : fpN f (_root_.Jvm.FP.Core.encode f (_root_.Jvm.FP.Core.settle f s c q)) := by
  have t0 := F.t0
  have p2 := F.p2
  unfold _root_.Jvm.FP.Core.settle _root_.Jvm.FP.Core.bound
  split
  · split
    · exact (fp_fin F s (by omega) h1 (by assumption)).1
    · exact fp_inf F s
  · split
    · exact (fp_fin F s (by omega) (by omega) (by assumption)).1
    · exact fp_inf F s
theorem fp_set2 (F : fpF f) (s : Bool) {c : Nat} {q : Int} (h1 : f.qmin ≤ q) (h2 : q + 1 ≤ f.qmax) : ∃ s' c' q', _root_.Jvm.FP.Core.decode f (_root_.Jvm.FP.Core.encode f (_root_.Jvm.FP.Core.settle f s c q)) = .fin s' c' q' ∧ (0 < c → 0 < c') := by
  have t0 := F.t0
  have p2 := F.p2
  unfold _root_.Jvm.FP.Core.settle _root_.Jvm.FP.Core.bound
  split
  · rw [if_pos (by omega)]
    exact (fp_fin F s (by omega) h1 (by omega)).2
  · try rw [if_pos h2]
    obtain ⟨a, b, c, d, e⟩ := (fp_fin F s (c := f.tails) (q := q + 1) (by omega) (by omega) h2).2
    exact ⟨a, b, c, d, fun _ => e t0⟩
theorem fp_rr (F : fpF f) (s : Bool) (n d : Nat) (e : Int) : fpN f (_root_.Jvm.FP.Core.encode f (_root_.Jvm.FP.Core.roundRatio f s n d e)) := by
  have t0 := F.t0
  have q0 := F.q3
  have q1 := F.q0
  unfold _root_.Jvm.FP.Core.roundRatio
  split
  · exact (fp_fin F s (by omega) (Int.le_refl _) (by omega)).1
  · unfold _root_.Jvm.FP.Core.roundAt
    exact fp_set F s _ (by unfold _root_.Jvm.FP.Core.quantum; omega)
theorem fp_near {n d : Nat} (hd : 0 < d) (h : d ≤ n) : 0 < _root_.Jvm.FP.Core.nearest n d := by
  have : 0 < n / d := Nat.div_pos h hd
  unfold _root_.Jvm.FP.Core.nearest
  split
  · omega
  · split <;> omega
/-- a whole number is told as a number, and zero alone as zero -/
theorem fp_int (F : fpF f) {i : Int} (h1 : -2147483648 ≤ i) (h2 : i ≤ 2147483647) : ∃ s c q, _root_.Jvm.FP.Core.decode f (_root_.Jvm.FP.Core.fromInt f i) = .fin s c q ∧ (i ≠ 0 → 0 < c) := by
  have t0 := F.t0
  have q0 := F.q3
  have q1 := F.q0
  have p1 := F.p1
  unfold _root_.Jvm.FP.Core.fromInt _root_.Jvm.FP.Core.ofInt _root_.Jvm.FP.Core.round _root_.Jvm.FP.Core.roundRatio
  dsimp only
  by_cases z : i.natAbs = 0
  · rw [if_pos z]
    obtain ⟨a, b, c, d, -⟩ := (fp_fin F (decide (i < 0)) (c := 0) (q := f.qmin) (by omega) (Int.le_refl _) (by omega)).2
    exact ⟨a, b, c, d, fun h => by omega⟩
  · rw [if_neg z]
    generalize hn : i.natAbs = n at z ⊢
    have ll : n.log2 ≤ 31 := by
      have := (Nat.log2_lt z (k := 32)).2 (by omega)
      omega
    have l1 : _root_.Jvm.FP.Core.leading n 1 ≤ (n.log2 : Int) := by
      unfold _root_.Jvm.FP.Core.leading
      rw [show Nat.log2 1 = 0 by decide]
      dsimp only
      split <;> omega
    have k1 : f.qmin ≤ _root_.Jvm.FP.Core.quantum f n 1 0 := by unfold _root_.Jvm.FP.Core.quantum; omega
    have k2 : _root_.Jvm.FP.Core.quantum f n 1 0 ≤ 31 := by unfold _root_.Jvm.FP.Core.quantum; omega
    have k3 : _root_.Jvm.FP.Core.quantum f n 1 0 ≤ 0 ∨ _root_.Jvm.FP.Core.quantum f n 1 0 ≤ (n.log2 : Int) := by unfold _root_.Jvm.FP.Core.quantum; omega
    generalize _root_.Jvm.FP.Core.quantum f n 1 0 = q at k1 k2 k3
    unfold _root_.Jvm.FP.Core.roundAt
    obtain ⟨a, b, c, d, g⟩ := fp_set2 F (decide (i < 0)) (c := _root_.Jvm.FP.Core.nearest (_root_.Jvm.FP.Core.unitsNum n 0 q) (_root_.Jvm.FP.Core.unitsDen 1 0 q)) (q := q) k1 (by omega)
    refine ⟨a, b, c, d, fun _ => g (fp_near ?_ ?_)⟩
    · unfold _root_.Jvm.FP.Core.unitsDen
      exact Nat.mul_pos (by decide) (Nat.two_pow_pos _)
    · unfold _root_.Jvm.FP.Core.unitsDen _root_.Jvm.FP.Core.unitsNum
      have p0 : 0 < 2 ^ (0 - q).toNat := Nat.two_pow_pos _
      rw [Nat.one_mul]
      have h3 : 2 ^ (q - 0).toNat ≤ n := by
        rcases k3 with k3 | k3
        · rw [show (q - 0).toNat = 0 by omega]; omega
        · exact Nat.le_trans (Nat.pow_le_pow_right (by decide) (show (q - 0).toNat ≤ n.log2 by omega)) (Nat.log2_self_le z)
      exact Nat.le_trans h3 (Nat.le_mul_of_pos_right _ p0)
theorem fp_quo (F : fpF f) {a b : Int} (a1 : -2147483648 ≤ a) (a2 : a ≤ 2147483647) (b1 : -2147483648 ≤ b) (b2 : b ≤ 2147483647) (b0 : b ≠ 0) : fpN f (_root_.Jvm.FP.Core.div f (_root_.Jvm.FP.Core.fromInt f a) (_root_.Jvm.FP.Core.fromInt f b)) := by
  obtain ⟨s, c, q, x, -⟩ := fp_int F a1 a2
  obtain ⟨s', d, q', y, g⟩ := fp_int F b1 b2
  have := g b0
  unfold _root_.Jvm.FP.Core.div
  rw [x, y]
  unfold _root_.Jvm.FP.Core.quotient
  dsimp only
  rw [if_neg (by omega)]
  exact fp_rr F _ _ _ _
theorem fp_conv {g : _root_.Jvm.FP.Core.Fmt} (G : fpF g) {n : Nat} (h : fpN f n) : fpN g (_root_.Jvm.FP.Core.convert f g n) := by
  have := fp_dec h
  unfold _root_.Jvm.FP.Core.convert
  cases hd : _root_.Jvm.FP.Core.decode f n with
  | nan => exact absurd hd this
  | inf s => exact fp_inf G s
  | fin s c q => exact fp_rr G s c 1 q
theorem fp_ord {d : _root_.Jvm.FP.Core.Datum} (h : d ≠ .nan) : _root_.Jvm.FP.Core.order d d = some .eq := by
  cases d with
  | nan => exact absurd rfl h
  | inf s => simp [_root_.Jvm.FP.Core.order]
  | fin s c q => simp [_root_.Jvm.FP.Core.order]
end
