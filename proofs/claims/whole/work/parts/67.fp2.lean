/-! the guards of the quotients -/
section
theorem fp_t64 : _root_.Jvm.FP.Core.b64.tails = 4503599627370496 := by decide +kernel
theorem fp_e64 : _root_.Jvm.FP.Core.b64.exps = 2048 := by decide +kernel
theorem fp_t32 : _root_.Jvm.FP.Core.b32.tails = 8388608 := by decide +kernel
theorem fp_e32 : _root_.Jvm.FP.Core.b32.exps = 256 := by decide +kernel
theorem fp_d64 (n : Nat) : Jvm.FP.Core.decode _root_.Jvm.FP.Core.b64 (n % 18446744073709551616) = Jvm.FP.Core.decode _root_.Jvm.FP.Core.b64 n := by
  have a : _root_.Jvm.FP.Core.fieldE _root_.Jvm.FP.Core.b64 (n % 18446744073709551616) = _root_.Jvm.FP.Core.fieldE _root_.Jvm.FP.Core.b64 n := by
    unfold _root_.Jvm.FP.Core.fieldE
    rw [fp_t64, fp_e64]
    omega
  have b : _root_.Jvm.FP.Core.fieldT _root_.Jvm.FP.Core.b64 (n % 18446744073709551616) = _root_.Jvm.FP.Core.fieldT _root_.Jvm.FP.Core.b64 n := by
    unfold _root_.Jvm.FP.Core.fieldT
    rw [fp_t64]
    omega
  have c : _root_.Jvm.FP.Core.fieldS _root_.Jvm.FP.Core.b64 (n % 18446744073709551616) = _root_.Jvm.FP.Core.fieldS _root_.Jvm.FP.Core.b64 n := by
    unfold _root_.Jvm.FP.Core.fieldS
    rw [fp_t64, fp_e64, show n % 18446744073709551616 / 4503599627370496 / 2048 % 2 = n / 4503599627370496 / 2048 % 2 by omega]
  unfold Jvm.FP.Core.decode
  rw [a, b, c]
theorem fp_n64 {n : Nat} (h : fpN _root_.Jvm.FP.Core.b64 n) : fpN _root_.Jvm.FP.Core.b64 (n % 18446744073709551616) := by
  unfold fpN _root_.Jvm.FP.Core.fieldE _root_.Jvm.FP.Core.fieldT at *
  rw [fp_t64, fp_e64] at *
  intro z
  have := h (by omega)
  omega
theorem fp_d32 (n : Nat) : Jvm.FP.Core.decode _root_.Jvm.FP.Core.b32 (n % 4294967296) = Jvm.FP.Core.decode _root_.Jvm.FP.Core.b32 n := by
  have a : _root_.Jvm.FP.Core.fieldE _root_.Jvm.FP.Core.b32 (n % 4294967296) = _root_.Jvm.FP.Core.fieldE _root_.Jvm.FP.Core.b32 n := by
    unfold _root_.Jvm.FP.Core.fieldE
    rw [fp_t32, fp_e32]
    omega
  have b : _root_.Jvm.FP.Core.fieldT _root_.Jvm.FP.Core.b32 (n % 4294967296) = _root_.Jvm.FP.Core.fieldT _root_.Jvm.FP.Core.b32 n := by
    unfold _root_.Jvm.FP.Core.fieldT
    rw [fp_t32]
    omega
  have c : _root_.Jvm.FP.Core.fieldS _root_.Jvm.FP.Core.b32 (n % 4294967296) = _root_.Jvm.FP.Core.fieldS _root_.Jvm.FP.Core.b32 n := by
    unfold _root_.Jvm.FP.Core.fieldS
    rw [fp_t32, fp_e32, show n % 4294967296 / 8388608 / 256 % 2 = n / 8388608 / 256 % 2 by omega]
  unfold Jvm.FP.Core.decode
  rw [a, b, c]
theorem fp_n32 {n : Nat} (h : fpN _root_.Jvm.FP.Core.b32 n) : fpN _root_.Jvm.FP.Core.b32 (n % 4294967296) := by
  unfold fpN _root_.Jvm.FP.Core.fieldE _root_.Jvm.FP.Core.fieldT at *
  rw [fp_t32, fp_e32] at *
  intro z
  have := h (by omega)
  omega
theorem fp_i32 {a : Int} (h1 : -2147483648 ≤ a) (h2 : a ≤ 2147483647) : (Int32.ofInt a).toInt = a := by
  rw [Int32.toInt_ofInt]
  show a.bmod 4294967296 = a
  rw [Int.bmod_eq_of_le (by omega) (by omega)]
theorem fp_ddiv {a b : Int} (b1 : 0 < b) (b2 : b ≤ 2147483647) : fpN _root_.Jvm.FP.Core.b64 (Jvm.FP.ddiv (Jvm.FP.i2d (Int32.ofInt a)) (Jvm.FP.i2d (Int32.ofInt b))).toNat := by
  show fpN _root_.Jvm.FP.Core.b64 (UInt64.ofNat (_root_.Jvm.FP.Core.div _root_.Jvm.FP.Core.b64 (UInt64.ofNat (_root_.Jvm.FP.Core.fromInt _root_.Jvm.FP.Core.b64 (Int32.ofInt a).toInt)).toNat (UInt64.ofNat (_root_.Jvm.FP.Core.fromInt _root_.Jvm.FP.Core.b64 (Int32.ofInt b).toInt)).toNat)).toNat
  rw [fp_i32 (a := b) (by omega) b2]
  have a1 := Int32.le_toInt (Int32.ofInt a)
  have a2 := Int32.toInt_lt (Int32.ofInt a)
  rw [UInt64.toNat_ofNat', UInt64.toNat_ofNat', UInt64.toNat_ofNat']
  refine fp_n64 ?_
  have := fp_quo fp64 (a := (Int32.ofInt a).toInt) (b := b) (by omega) (by omega) (by omega) b2 (by omega)
  unfold _root_.Jvm.FP.Core.div at this ⊢
  rw [show (2 : Nat) ^ 64 = 18446744073709551616 from rfl, fp_d64, fp_d64]
  exact this
theorem fp_fdiv {a b : Int} (b1 : 0 < b) (b2 : b ≤ 2147483647) : fpN _root_.Jvm.FP.Core.b32 (Jvm.FP.fdiv (Jvm.FP.i2f (Int32.ofInt a)) (Jvm.FP.i2f (Int32.ofInt b))).toNat := by
  show fpN _root_.Jvm.FP.Core.b32 (UInt32.ofNat (_root_.Jvm.FP.Core.div _root_.Jvm.FP.Core.b32 (UInt32.ofNat (_root_.Jvm.FP.Core.fromInt _root_.Jvm.FP.Core.b32 (Int32.ofInt a).toInt)).toNat (UInt32.ofNat (_root_.Jvm.FP.Core.fromInt _root_.Jvm.FP.Core.b32 (Int32.ofInt b).toInt)).toNat)).toNat
  rw [fp_i32 (a := b) (by omega) b2]
  have a1 := Int32.le_toInt (Int32.ofInt a)
  have a2 := Int32.toInt_lt (Int32.ofInt a)
  rw [UInt32.toNat_ofNat', UInt32.toNat_ofNat', UInt32.toNat_ofNat']
  refine fp_n32 ?_
  have := fp_quo fp32 (a := (Int32.ofInt a).toInt) (b := b) (by omega) (by omega) (by omega) b2 (by omega)
  unfold _root_.Jvm.FP.Core.div at this ⊢
  rw [show (2 : Nat) ^ 32 = 4294967296 from rfl, fp_d32, fp_d32]
  exact this
theorem fp_f2d {x : UInt32} (h : fpN _root_.Jvm.FP.Core.b32 x.toNat) : fpN _root_.Jvm.FP.Core.b64 (Jvm.FP.f2d x).toNat := by
  have n : Jvm.FP.Core.fIsNaN x = false := by
    unfold _root_.Jvm.FP.Core.fIsNaN _root_.Jvm.FP.Core.isNaN
    exact decide_eq_false (fp_dec h)
  unfold Jvm.FP.f2d
  rw [n, if_neg (by decide)]
  unfold Jvm.FP.Core.f2d
  rw [UInt64.toNat_ofNat']
  exact fp_n64 (fp_conv fp64 h)
theorem fp_g64 {x : UInt64} (h : fpN _root_.Jvm.FP.Core.b64 x.toNat) : x &&& 0x7fffffffffffffff ≤ 0x7ff0000000000000 := by
  rw [UInt64.le_iff_toNat_le, UInt64.toNat_and]
  show x.toNat &&& 9223372036854775807 ≤ 9218868437227405312
  rw [show (9223372036854775807 : Nat) = 2 ^ 63 - 1 from rfl, Nat.and_two_pow_sub_one_eq_mod]
  unfold fpN _root_.Jvm.FP.Core.fieldE _root_.Jvm.FP.Core.fieldT at h
  rw [fp_t64, fp_e64] at h
  rw [show (2 : Nat) ^ 63 = 9223372036854775808 from rfl]
  by_cases q : x.toNat / 4503599627370496 % 2048 = 2047
  · have := h q
    omega
  · omega
theorem fp_g32 {x : UInt32} (h : fpN _root_.Jvm.FP.Core.b32 x.toNat) : x &&& 0x7fffffff ≤ 0x7f800000 := by
  rw [UInt32.le_iff_toNat_le, UInt32.toNat_and]
  show x.toNat &&& 2147483647 ≤ 2139095040
  rw [show (2147483647 : Nat) = 2 ^ 31 - 1 from rfl, Nat.and_two_pow_sub_one_eq_mod]
  unfold fpN _root_.Jvm.FP.Core.fieldE _root_.Jvm.FP.Core.fieldT at h
  rw [fp_t32, fp_e32] at h
  rw [show (2 : Nat) ^ 31 = 2147483648 from rfl]
  by_cases q : x.toNat / 8388608 % 256 = 255
  · have := h q
    omega
  · omega
theorem fp_cmp {x : UInt64} (h : fpN _root_.Jvm.FP.Core.b64 x.toNat) : (Op.cmpValue (Jvm.FP.dcmp (UInt64.ofNat ((x.toNat : Int)).toNat) x) .l).toInt = 0 := by
  rw [Int.toNat_natCast, UInt64.ofNat_toNat]
  show (Op.cmpValue (_root_.Jvm.FP.Core.order (Jvm.FP.Core.decode _root_.Jvm.FP.Core.b64 x.toNat) (Jvm.FP.Core.decode _root_.Jvm.FP.Core.b64 x.toNat)) .l).toInt = 0
  rw [fp_ord (fp_dec h)]
  decide
end
