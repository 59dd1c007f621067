/-! numbers: ints of the JVM and whole numbers -/
def inR (x : Int) : Prop := -2147483648 ≤ x ∧ x ≤ 2147483647
theorem bm32 {n : Int} (h1 : -2147483648 ≤ n) (h2 : n < 2147483648) : n.bmod 4294967296 = n := by
  rw [Int.bmod_def]; omega
theorem bm64 {n : Int} (h1 : -2147483648 ≤ n) (h2 : n < 2147483648) : n.bmod 18446744073709551616 = n := by
  rw [Int.bmod_def]; omega
theorem oI_toInt {x : Int} (h : inR x) : (Int32.ofInt x).toInt = x := by
  rw [Int32.toInt_ofInt]
  exact bm32 (by unfold inR at h; omega) (by unfold inR at h; omega)
theorem wr_in (x : Int) : inR (wr x) := by
  unfold wr inR
  rw [Int.bmod_def]
  split <;> omega
theorem wr_id {x : Int} (h : inR x) : wr x = x := by
  unfold wr; unfold inR at h
  exact bm32 (by omega) (by omega)
theorem oI_wr (x : Int) : Int32.ofInt (wr x) = Int32.ofInt x := by
  apply Int32.toInt_inj.mp
  rw [Int32.toInt_ofInt, Int32.toInt_ofInt]
  unfold wr
  exact Int.bmod_bmod
theorem oI_add (x y : Int) : Int32.ofInt x + Int32.ofInt y = Int32.ofInt (wr (x + y)) := by rw [oI_wr, Int32.ofInt_add]
theorem oI_sub (x y : Int) : Int32.ofInt x - Int32.ofInt y = Int32.ofInt (wr (x - y)) := by rw [oI_wr, Int32.ofInt_sub]
theorem oI_mul (x y : Int) : Int32.ofInt x * Int32.ofInt y = Int32.ofInt (wr (x * y)) := by rw [oI_wr, Int32.ofInt_mul]
theorem oI_eq {x y : Int} (hx : inR x) (hy : inR y) : Int32.ofInt x = Int32.ofInt y ↔ x = y := by
  constructor
  · intro h
    have := congrArg Int32.toInt h
    rw [oI_toInt hx, oI_toInt hy] at this
    exact this
  · intro h; rw [h]
theorem in0 : inR 0 := by unfold inR; omega
theorem oI_zero : Int32.ofInt 0 = 0 := rfl
theorem oI_eq0 {x : Int} (hx : inR x) : Int32.ofInt x = 0 ↔ x = 0 := by rw [← oI_zero]; exact oI_eq hx in0
theorem oI_lt {x y : Int} (hx : inR x) (hy : inR y) : Int32.ofInt x < Int32.ofInt y ↔ x < y := by
  rw [Int32.lt_iff_toInt_lt, oI_toInt hx, oI_toInt hy]
theorem oI_le {x y : Int} (hx : inR x) (hy : inR y) : Int32.ofInt x ≤ Int32.ofInt y ↔ x ≤ y := by
  rw [Int32.le_iff_toInt_le, oI_toInt hx, oI_toInt hy]
theorem oI_clamp {x : Int} (hx : inR x) : (Int32.ofInt x).toNatClampNeg = x.toNat := by
  show (Int32.ofInt x).toInt.toNat = _
  rw [oI_toInt hx]
theorem oI_vp {x : Int} {n : Nat} (hx : inR x) (h0 : 0 ≤ x) (h1 : x < (n : Int)) : vp_in (Int32.ofInt x) n := by
  unfold vp_in
  rw [oI_clamp hx, ← oI_zero, oI_lt hx in0]
  omega
theorem oI_i2l {x : Int} (hx : inR x) : (Int32.ofInt x).toInt64 = Int64.ofInt x := by
  apply Int64.toInt_inj.mp
  rw [Int32.toInt_toInt64, oI_toInt hx, Int64.toInt_ofInt]
  unfold inR at hx
  exact (bm64 (by omega) (by omega)).symm
theorem oL_toInt {x : Int} (h : inR x) : (Int64.ofInt x).toInt = x := by
  rw [Int64.toInt_ofInt]
  unfold inR at h
  exact bm64 (by omega) (by omega)
theorem oI_div {x y : Int} (hx : inR x) (hy : inR y) : Int32.ofInt x / Int32.ofInt y = Int32.ofInt (wr (x.tdiv y)) := by
  apply Int32.toInt_inj.mp
  rw [Int32.toInt_div, oI_toInt hx, oI_toInt hy, oI_wr, Int32.toInt_ofInt]
theorem tm_in {x y : Int} (hy : inR y) (h0 : ¬ y = 0) : inR (x.tmod y) := by
  unfold inR at *
  by_cases hp : 0 ≤ x
  · rw [Int.tmod_eq_emod_of_nonneg hp]
    have a1 := Int.emod_nonneg x h0
    have a2 := Int.emod_lt x h0
    omega
  · have e : x.tmod y = -((-x).tmod y) := by rw [Int.neg_tmod]; omega
    rw [e, Int.tmod_eq_emod_of_nonneg (by omega)]
    have a1 := Int.emod_nonneg (-x) h0
    have a2 := Int.emod_lt (-x) h0
    omega
theorem oI_rem {x y : Int} (hx : inR x) (hy : inR y) (h0 : ¬ y = 0) : Int32.ofInt x - Int32.ofInt x / Int32.ofInt y * Int32.ofInt y = Int32.ofInt (x.tmod y) := by
  rw [oI_div hx hy, oI_wr, ← Int32.ofInt_mul, ← Int32.ofInt_sub]
  congr 1
  have := Int.tdiv_mul_add_tmod x y
  omega
theorem oI_c {x : Int} (hx : inR x) : ((Int32.ofInt x).toUInt32 % 65536).toInt32 = Int32.ofInt (x % 65536) := by
  apply Int32.toInt_inj.mp
  have h2 : inR (x % 65536) := by unfold inR; omega
  rw [oI_toInt h2]
  have h3 : ((Int32.ofInt x).toUInt32 % 65536).toNat = (x % 65536).toNat := by
    rw [UInt32.toNat_mod]
    have h4 : ((Int32.ofInt x).toUInt32.toNat : Int) = x % 4294967296 := by
      have h5 : (Int32.ofInt x).toUInt32.toNat = (Int32.ofInt x).toBitVec.toNat := rfl
      have h6 := oI_toInt hx
      have h7 : (Int32.ofInt x).toInt = (Int32.ofInt x).toBitVec.toInt := rfl
      rw [h7, BitVec.toInt_eq_toNat_bmod, Int.bmod_def] at h6
      rw [h5]
      have := (Int32.ofInt x).toBitVec.isLt
      split at h6 <;> omega
    have h8 : (65536 : UInt32).toNat = 65536 := rfl
    rw [h8]
    omega
  have h9 : (((Int32.ofInt x).toUInt32 % 65536).toInt32).toInt = (((Int32.ofInt x).toUInt32 % 65536).toBitVec).toInt := rfl
  rw [h9, BitVec.toInt_eq_toNat_bmod]
  have h10 : (((Int32.ofInt x).toUInt32 % 65536).toBitVec).toNat = ((Int32.ofInt x).toUInt32 % 65536).toNat := rfl
  rw [h10, h3, Int.bmod_def]
  omega
theorem oI_63 {x : Int} (hx : inR x) : Int32.ofInt x &&& Int32.ofInt 63 = Int32.ofInt (x % 64) := by
  apply Int32.toInt_inj.mp
  have h2 : inR (x % 64) := by unfold inR; omega
  rw [oI_toInt h2]
  have h4 : ((Int32.ofInt x).toBitVec.toNat : Int) = x % 4294967296 := by
    have h6 := oI_toInt hx
    have h7 : (Int32.ofInt x).toInt = (Int32.ofInt x).toBitVec.toInt := rfl
    rw [h7, BitVec.toInt_eq_toNat_bmod, Int.bmod_def] at h6
    have := (Int32.ofInt x).toBitVec.isLt
    split at h6 <;> omega
  have h9 : (Int32.ofInt x &&& Int32.ofInt 63).toInt = ((Int32.ofInt x).toBitVec &&& 63#32).toInt := rfl
  rw [h9, BitVec.toInt_eq_toNat_bmod, BitVec.toNat_and]
  have h11 : (63#32 : BitVec 32).toNat = 2 ^ 6 - 1 := rfl
  rw [h11, Nat.and_two_pow_sub_one_eq_mod, Int.bmod_def]
  omega
theorem nr_c {w : Int} (hw : inR w) : vp_nar .char (Int32.ofInt w) = Int32.ofInt (w % 65536) := by
  rw [← oI_c hw]; rfl
theorem nr_z {w : Int} (hw : w = 0 ∨ w = 1) : vp_nar .boolean (Int32.ofInt w) = Int32.ofInt w := by
  rcases hw with h | h <;> subst h <;> decide
theorem na_z {w : Int} (hw : w = 0 ∨ w = 1) : narrow .boolean (.int (Int32.ofInt w)) = .int (Int32.ofInt w) := by
  rcases hw with h | h <;> subst h <;> decide
theorem ft_z {w : Int} (hw : w = 0 ∨ w = 1) : fits .boolean (.int (Int32.ofInt w)) = true := by
  rcases hw with h | h <;> subst h <;> decide
theorem na_c {w : Int} (h0 : 0 ≤ w) (h1 : w < 65536) : narrow .char (.int (Int32.ofInt w)) = .int (Int32.ofInt w) := by
  have h := nr_c (w := w) (by unfold inR; omega)
  rw [show w % 65536 = w by omega] at h
  unfold vp_nar at h
  show Value.int _ = Value.int _
  have h2 : ∀ v, (match narrow FieldType.char (Value.int (Int32.ofInt w)) with | .int y => y | _ => v) = Int32.ofInt w → narrow .char (.int (Int32.ofInt w)) = .int (Int32.ofInt w) := by
    intro v hv
    exact congrArg Value.int hv
  exact congrArg Value.int h
/-! longs -/
def inR8 (x : Int) : Prop := -9223372036854775808 ≤ x ∧ x ≤ 9223372036854775807
theorem inR_8 {x : Int} (h : inR x) : inR8 x := by unfold inR at h; unfold inR8; omega
theorem oL_to8 {x : Int} (h : inR8 x) : (Int64.ofInt x).toInt = x := by
  rw [Int64.toInt_ofInt]
  unfold inR8 at h
  show x.bmod 18446744073709551616 = x
  rw [Int.bmod_def]; omega
theorem wl_in (x : Int) : inR8 (wl x) := by
  unfold wl inR8
  rw [Int.bmod_def]
  split <;> omega
theorem oL_wl (x : Int) : Int64.ofInt (wl x) = Int64.ofInt x := by
  apply Int64.toInt_inj.mp
  rw [Int64.toInt_ofInt, Int64.toInt_ofInt]
  unfold wl
  exact Int.bmod_bmod
theorem oL_add (x y : Int) : Int64.ofInt x + Int64.ofInt y = Int64.ofInt (wl (x + y)) := by rw [oL_wl, Int64.ofInt_add]
theorem oL_sub (x y : Int) : Int64.ofInt x - Int64.ofInt y = Int64.ofInt (wl (x - y)) := by rw [oL_wl, Int64.ofInt_sub]
theorem oL_mul (x y : Int) : Int64.ofInt x * Int64.ofInt y = Int64.ofInt (wl (x * y)) := by rw [oL_wl, Int64.ofInt_mul]
theorem oL_l2i {x : Int} (h : inR8 x) : (Int64.ofInt x).toInt32 = Int32.ofInt (wr x) := by
  apply Int32.toInt_inj.mp
  rw [Int64.toInt_toInt32, oL_to8 h, oI_wr, Int32.toInt_ofInt]
theorem oL_lt {x y : Int} (hx : inR8 x) (hy : inR8 y) : Int64.ofInt x < Int64.ofInt y ↔ x < y := by
  rw [Int64.lt_iff_toInt_lt, oL_to8 hx, oL_to8 hy]
theorem oL_eq {x y : Int} (hx : inR8 x) (hy : inR8 y) : Int64.ofInt x = Int64.ofInt y ↔ x = y := by
  constructor
  · intro h
    have := congrArg Int64.toInt h
    rw [oL_to8 hx, oL_to8 hy] at this
    exact this
  · intro h; rw [h]
/-- a mask of 31 bits -/
theorem and31 {x : Int} (hx : inR x) : Int32.ofInt x &&& Int32.ofInt 2147483647 = Int32.ofInt (x % 2147483648) := by
  apply Int32.toInt_inj.mp
  have h2 : inR (x % 2147483648) := by unfold inR; omega
  rw [oI_toInt h2]
  have h4 : ((Int32.ofInt x).toBitVec.toNat : Int) = x % 4294967296 := by
    have h6 := oI_toInt hx
    have h7 : (Int32.ofInt x).toInt = (Int32.ofInt x).toBitVec.toInt := rfl
    rw [h7, BitVec.toInt_eq_toNat_bmod, Int.bmod_def] at h6
    have := (Int32.ofInt x).toBitVec.isLt
    split at h6 <;> omega
  have h9 : (Int32.ofInt x &&& Int32.ofInt 2147483647).toInt = ((Int32.ofInt x).toBitVec &&& 2147483647#32).toInt := rfl
  rw [h9, BitVec.toInt_eq_toNat_bmod, BitVec.toNat_and]
  have h11 : (2147483647#32 : BitVec 32).toNat = 2 ^ 31 - 1 := rfl
  rw [h11, Nat.and_two_pow_sub_one_eq_mod, Int.bmod_def]
  omega
theorem p2_pos (k : Nat) : (0 : Int) < 2 ^ k := Int.pow_pos (by decide)
theorem shr_in {x : Int} (hx : inR x) (k : Nat) : inR (x / 2 ^ k) := by
  have h0 := p2_pos k
  unfold inR at *
  constructor
  · rw [Int.le_ediv_iff_mul_le h0]
    generalize (2 : Int) ^ k = q at h0 ⊢
    omega
  · by_cases hp : 0 ≤ x
    · have h1 := Int.ediv_le_self (2 ^ k) hp
      omega
    · have := Int.ediv_neg_of_neg_of_pos (a := x) (b := 2 ^ k) (by omega) h0
      omega
/-- a shift to the right -/
theorem oI_shr {x y : Int} (hx : inR x) (h0 : 0 ≤ y) (h1 : y < 32) : Int32.ofInt x >>> (Int32.ofInt y &&& 31) = Int32.ofInt (x / 2 ^ y.toNat) := by
  apply Int32.toInt_inj.mp
  rw [oI_toInt (shr_in hx _)]
  obtain ⟨k, rfl⟩ : ∃ k : Nat, y = (k : Int) := ⟨y.toNat, by omega⟩
  have hk : k < 32 := by omega
  have e1 : (Int32.ofInt (k : Int) &&& 31) = Int32.ofInt (k : Int) := by
    have h : ∀ j, j < 32 → (Int32.ofInt (j : Nat) &&& 31) = Int32.ofInt (j : Nat) := by decide
    exact h k hk
  rw [e1]
  have e2 : (Int32.ofInt x >>> Int32.ofInt (k : Int)).toInt = ((Int32.ofInt x).toBitVec.sshiftRight k).toInt := by
    have h : ∀ j, j < 32 → ((Int32.ofInt (j : Nat)).toBitVec.smod 32).toNat = j := by decide
    have h2 := h k hk
    show ((Int32.ofInt x).toBitVec.sshiftRight' ((Int32.ofInt (k : Int)).toBitVec.smod 32)).toInt = _
    unfold BitVec.sshiftRight'
    rw [h2]
  rw [e2, BitVec.toInt_sshiftRight, Int.shiftRight_eq_div_pow]
  have e3 : (Int32.ofInt x).toBitVec.toInt = x := oI_toInt hx
  rw [e3]
  simp
