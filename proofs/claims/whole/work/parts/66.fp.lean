/-! quotients of whole numbers are no NaN -/
open _root_.Jvm.FP.Core in
structure fpF (f : Fmt) : Prop where
  t0 : 0 < f.tails
  p2 : 2 ^ f.p = 2 * f.tails
  e2 : 3 ≤ f.exps
  qq : f.qmax - f.qmin + 3 = (f.exps : Int)
  q3 : 33 ≤ f.qmax
  q0 : f.qmin ≤ 0
  p1 : 2 ≤ f.p
open _root_.Jvm.FP.Core in
theorem fp32 : fpF b32 := ⟨by decide +kernel, by decide +kernel, by decide +kernel, by decide +kernel, by decide +kernel, by decide +kernel, by decide +kernel⟩
open _root_.Jvm.FP.Core in
theorem fp64 : fpF b64 := ⟨by decide +kernel, by decide +kernel, by decide +kernel, by decide +kernel, by decide +kernel, by decide +kernel, by decide +kernel⟩
section
open _root_.Jvm.FP.Core
variable {f : Fmt}
theorem fp_asm (F : fpF f) (s : Bool) {e t : Nat} (he : e < f.exps) (ht : t < f.tails) : fieldE f (assemble f s e t) = e ∧ fieldT f (assemble f s e t) = t := by
  have a : assemble f s e t / f.tails = s.toNat * f.exps + e := by
    unfold assemble
    rw [Nat.mul_comm, Nat.mul_add_div F.t0, Nat.div_eq_of_lt ht, Nat.add_zero]
  constructor
  · unfold fieldE
    rw [a, Nat.mul_comm, Nat.mul_add_mod, Nat.mod_eq_of_lt he]
  · unfold fieldT assemble
    rw [Nat.mul_comm, Nat.mul_add_mod, Nat.mod_eq_of_lt ht]
def fpN (f : Fmt) (n : Nat) : Prop := fieldE f n = f.exps - 1 → fieldT f n = 0
theorem fp_dec {n : Nat} (h : fpN f n) : decode f n ≠ .nan := by
  unfold Jvm.FP.Core.decode
  split
  · next q => rw [if_pos (h q)]; intro z; cases z
  · split <;> (intro z; cases z)
theorem fp_fin (F : fpF f) (s : Bool) {c : Nat} {q : Int} (hc : c < 2 * f.tails) (h1 : f.qmin ≤ q) (h2 : q ≤ f.qmax) : fpN f (encode f (.fin s c q)) ∧ ∃ s' c' q', decode f (encode f (.fin s c q)) = .fin s' c' q' ∧ (0 < c → 0 < c') := by
  have t0 := F.t0
  have e2 := F.e2
  have qq := F.qq
  unfold encode
  dsimp only
  by_cases a : c < f.tails
  · rw [if_pos a]
    obtain ⟨x1, x2⟩ := fp_asm F s (e := 0) (t := c) (by omega) a
    refine ⟨fun z => by omega, ?_⟩
    unfold Jvm.FP.Core.decode
    rw [x1, x2, if_neg (by omega), if_pos rfl]
    exact ⟨_, _, _, rfl, fun h => h⟩
  · rw [if_neg a]
    obtain ⟨x1, x2⟩ := fp_asm F s (e := (q - f.qmin).toNat + 1) (t := c - f.tails) (by omega) (by omega)
    refine ⟨fun z => by omega, ?_⟩
    unfold Jvm.FP.Core.decode
    rw [x1, x2, if_neg (by omega), if_neg (by omega)]
    exact ⟨_, _, _, rfl, fun _ => by omega⟩
theorem fp_inf (F : fpF f) (s : Bool) : fpN f (encode f (.inf s)) := by
  have t0 := F.t0
  have e2 := F.e2
  unfold encode
  dsimp only
  exact fun _ => (fp_asm F s (e := f.exps - 1) (t := 0) (by omega) t0).2
theorem fp_set (F : fpF f) (s : Bool) (c : Nat) {q : Int} (h1 : f.qmin ≤ q) : fpN f (encode f (settle f s c q)) := by
  have t0 := F.t0
  have p2 := F.p2
  unfold settle bound
  split
  · split
    · exact (fp_fin F s (by omega) h1 (by assumption)).1
    · exact fp_inf F s
  · split
    · exact (fp_fin F s (by omega) (by omega) (by assumption)).1
    · exact fp_inf F s
theorem fp_set2 (F : fpF f) (s : Bool) {c : Nat} {q : Int} (h1 : f.qmin ≤ q) (h2 : q + 1 ≤ f.qmax) : ∃ s' c' q', decode f (encode f (settle f s c q)) = .fin s' c' q' ∧ (0 < c → 0 < c') := by
  have t0 := F.t0
  have p2 := F.p2
  unfold settle bound
  split
  · rw [if_pos (by omega)]
    exact (fp_fin F s (by omega) h1 (by omega)).2
  · try rw [if_pos h2]
    obtain ⟨a, b, c, d, e⟩ := (fp_fin F s (c := f.tails) (q := q + 1) (by omega) (by omega) h2).2
    exact ⟨a, b, c, d, fun _ => e t0⟩
theorem fp_rr (F : fpF f) (s : Bool) (n d : Nat) (e : Int) : fpN f (encode f (roundRatio f s n d e)) := by
  have t0 := F.t0
  have q0 := F.q3
  have q1 := F.q0
  unfold roundRatio
  split
  · exact (fp_fin F s (by omega) (Int.le_refl _) (by omega)).1
  · unfold roundAt
    exact fp_set F s _ (by unfold quantum; omega)
theorem fp_near {n d : Nat} (hd : 0 < d) (h : d ≤ n) : 0 < nearest n d := by
  have : 0 < n / d := Nat.div_pos h hd
  unfold nearest
  split
  · omega
  · split <;> omega
/-- a whole number is told as a number, and zero alone as zero -/
theorem fp_int (F : fpF f) {i : Int} (h1 : -2147483648 ≤ i) (h2 : i ≤ 2147483647) : ∃ s c q, decode f (fromInt f i) = .fin s c q ∧ (i ≠ 0 → 0 < c) := by
  have t0 := F.t0
  have q0 := F.q3
  have q1 := F.q0
  have p1 := F.p1
  unfold fromInt ofInt round roundRatio
  dsimp only
  by_cases z : i.natAbs = 0
  · rw [if_pos z]
    obtain ⟨a, b, c, d, -⟩ := (fp_fin F (decide (i < 0)) (c := 0) (q := f.qmin) (by omega) (Int.le_refl _) (by omega)).2
    exact ⟨a, b, c, d, fun h => by omega⟩
  · rw [if_neg z]
    generalize hn : i.natAbs = n at z ⊢
    have ll : n.log2 ≤ 31 := by
      have := (Nat.log2_lt z (k := 32)).2 (by omega)
      omega
    have l1 : leading n 1 ≤ (n.log2 : Int) := by
      unfold leading
      rw [show Nat.log2 1 = 0 by decide]
      dsimp only
      split <;> omega
    have k1 : f.qmin ≤ quantum f n 1 0 := by unfold quantum; omega
    have k2 : quantum f n 1 0 ≤ 31 := by unfold quantum; omega
    have k3 : quantum f n 1 0 ≤ 0 ∨ quantum f n 1 0 ≤ (n.log2 : Int) := by unfold quantum; omega
    generalize quantum f n 1 0 = q at k1 k2 k3
    unfold roundAt
    obtain ⟨a, b, c, d, g⟩ := fp_set2 F (decide (i < 0)) (c := nearest (unitsNum n 0 q) (unitsDen 1 0 q)) (q := q) k1 (by omega)
    refine ⟨a, b, c, d, fun _ => g (fp_near ?_ ?_)⟩
    · unfold unitsDen
      exact Nat.mul_pos (by decide) (Nat.two_pow_pos _)
    · unfold unitsDen unitsNum
      have p0 : 0 < 2 ^ (0 - q).toNat := Nat.two_pow_pos _
      rw [Nat.one_mul]
      have h3 : 2 ^ (q - 0).toNat ≤ n := by
        rcases k3 with k3 | k3
        · rw [show (q - 0).toNat = 0 by omega]; omega
        · exact Nat.le_trans (Nat.pow_le_pow_right (by decide) (show (q - 0).toNat ≤ n.log2 by omega)) (Nat.log2_self_le z)
      exact Nat.le_trans h3 (Nat.le_mul_of_pos_right _ p0)
theorem fp_quo (F : fpF f) {a b : Int} (a1 : -2147483648 ≤ a) (a2 : a ≤ 2147483647) (b1 : -2147483648 ≤ b) (b2 : b ≤ 2147483647) (b0 : b ≠ 0) : fpN f (div f (fromInt f a) (fromInt f b)) := by
  obtain ⟨s, c, q, x, -⟩ := fp_int F a1 a2
  obtain ⟨s', d, q', y, g⟩ := fp_int F b1 b2
  have := g b0
  unfold div
  rw [x, y]
  unfold quotient
  dsimp only
  rw [if_neg (by omega)]
  exact fp_rr F _ _ _ _
theorem fp_conv {g : Fmt} (G : fpF g) {n : Nat} (h : fpN f n) : fpN g (convert f g n) := by
  have := fp_dec h
  unfold convert
  cases hd : decode f n with
  | nan => exact absurd hd this
  | inf s => exact fp_inf G s
  | fin s c q => exact fp_rr G s c 1 q
theorem fp_ord {d : Datum} (h : d ≠ .nan) : order d d = some .eq := by
  cases d with
  | nan => exact absurd rfl h
  | inf s => simp [order]
  | fin s c q => simp [order]
end
