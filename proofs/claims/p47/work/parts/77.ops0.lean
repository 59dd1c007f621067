/-! what each instruction of the data is in the code: a check by program, and what it is worth -/
def ewBad4 (w : Cond) : Bool := match w with
  | .fieldLinkNest .. => true
  | .methodLinkNest .. => true
  | .declares .. => true
  | .castable .. => true
  | .privateMethod .. => true
  | _ => false
def ewD (m i : Nat) := decode (mBy m) (mPc m i)
def nxt (m i len : Nat) : Bool := decide (mPc m (i + 1) = mPc m i + len)
def tgO (m i : Nat) (off : Int) (t : Nat) : Bool := decide ((mPc m i : Int) + off = (mPc m t : Int))
def inB8 (v : Int) : Bool := decide (-9223372036854775808 ≤ v ∧ v ≤ 9223372036854775807)
def inB (v : Int) : Bool := decide (-2147483648 ≤ v ∧ v ≤ 2147483647)
def ewLkF (m j idx kd sl : Nat) : Bool := decide (kd ∈ eKs) && decide (sl < eN kd) && decide (((eT kd) sl).1 = eRc kd) &&
  (decide (wd j = some (.fieldLink (mNm m).cls idx (eRc kd) ((eT kd) sl).2.1 ((eT kd) sl).2.2.1)) || decide (wd j = some (.fieldLinkNest (mNm m).cls idx (eRc kd) ((eT kd) sl).2.1 ((eT kd) sl).2.2.1 "EchoWells")))
def ewLkM (m j idx t : Nat) : Bool := decide (wd j = some (.methodLink (mNm m).cls idx (mNm t))) || decide (wd j = some (.methodLinkNest (mNm m).cls idx (mNm t) "EchoWells"))
def ewEx (a : Nat) : String := match a with
  | 1 => "java/lang/UnsupportedOperationException"
  | 2 => "java/lang/IllegalArgumentException"
  | 3 => "java/lang/IllegalStateException"
  | 4 => "java/lang/IndexOutOfBoundsException"
  | 5 => "java/util/NoSuchElementException"
  | _ => "java/lang/ArithmeticException"
def ordNm : List String := ["DIG", "DEEPEN", "FILL", "COIN", "FROG", "MOSS", "TAKE", "WAKE", "ROPE", "BIND", "FISH", "SHOUT"]
/-- where a constant stands: class, field, its type -/
def sCl (a : Nat) : String × String × String := if a = 1001 then ("EchoWells", "ORDERS", "[LEchoWells$Order;") else if a = 1002 then ("EchoWells$1", "$SwitchMap$EchoWells$Order", "[I") else if a = 1003 then ("EchoWellsLaw", "TEXTS", "[Ljava/lang/String;") else if a = 1004 then ("EchoWellsLaw", "WORDS", "[Ljava/lang/String;") else ("EchoWells$Order", ordNm.getD (a - 1010) "", "LEchoWells$Order;")
def ewLkS (m j idx : Nat) (q : String × String × String) : Bool := decide (wd j = some (.fieldLink (mNm m).cls idx q.1 q.2.1 q.2.2)) || decide (wd j = some (.fieldLinkNest (mNm m).cls idx q.1 q.2.1 q.2.2 "EchoWells"))
def eKt (a : Nat) : FieldType := match a with
  | 20 => .int
  | 21 => .char
  | 22 => .boolean
  | 23 => .long
  | 24 => .double
  | 30 => .object "EchoWells$Well"
  | 31 => .object "EchoWells$Rope"
  | _ => .object "EchoWells$World"
def eKc (a : Nat) : String := match a with
  | 30 => "EchoWells$Well"
  | 31 => "EchoWells$Rope"
  | _ => "EchoWells$World"
/-- the keys and targets of a switch -/
def chTs (m i : Nat) : Int → List Int → List Nat → Bool
  | _, [], [] => true
  | k, o :: os, kk :: t :: r => decide ((kk : Int) = k) && tgO m i o t && chTs m i (k + 1) os r
  | _, _, _ => false
def chLs (m i : Nat) : List (Int × Int) → List Nat → Bool
  | [], [] => true
  | (k, o) :: os, kk :: t :: r => decide ((kk : Int) = k) && tgO m i o t && chLs m i os r
  | _, _ => false
set_option maxHeartbeats 1000000 in
def chk (m i : Nat) (ins : eI) : Bool :=
  match ins with
  | (op, a, b, k, v, tg) =>
  match op with
  | 0 => match ewD m i with
    | .ok (.aload_n j, 1) => decide ((j : Nat) = a) && nxt m i 1
    | .ok (.aload j, 2) => decide (j = a) && nxt m i 2
    | _ => false
  | 1 => match ewD m i with
    | .ok (.iload_n j, 1) => decide ((j : Nat) = a) && nxt m i 1
    | .ok (.iload j, 2) => decide (j = a) && nxt m i 2
    | _ => false
  | 2 => inB v && match ewD m i with
    | .ok (.iconst n, 1) => decide (Int32.ofInt n = Int32.ofInt v) && nxt m i 1
    | .ok (.bipush n, 2) => decide ((Int8.ofInt n).toInt32 = Int32.ofInt v) && nxt m i 2
    | .ok (.sipush n, 3) => decide ((Int16.ofInt n).toInt32 = Int32.ofInt v) && nxt m i 3
    | .ok (.ldc idx, 2) => decide (wd k = some (.constant (mNm m).cls idx (Int32.ofInt v))) && nxt m i 2
    | _ => false
  | 3 => match tg with
    | [wi, si] => nxt m i 3 && decide (mLv a < mLv m) && decide (b = (mAr a).length) && decide (v = (mKd a : Int)) && decide (a < m_L_law) && ewLkM m wi (match ewD m i with | .ok (.invokevirtual idx, 3) => idx | .ok (.invokespecial idx, 3) => idx | .ok (.invokestatic idx, 3) => idx | _ => 0) a &&
      (match ewD m i with
        | .ok (.invokevirtual _, 3) => decide (wd si = some (.selects (mNm a).cls (mNm a) (mNm a))) && decide (mKd a ∈ eKs) && decide (eRc (mKd a) = (mNm a).cls) && decide (a < m_L_dig)
        | .ok (.invokespecial _, 3) => decide ((mNm a).name = "<init>") && decide (mKd a ∈ eKs) && decide (mRt a = none) && decide (a < m_L_dig)
        | .ok (.invokestatic idx, 3) => decide (mKd a = 0) && (decide (a < m_L_dig) || decide (wd wi = some (.methodLink (mNm m).cls idx (mNm a))))
        | _ => false)
    | _ => false
  | 4 => match ewD m i with
    | .ok (.getfield idx, 3) => nxt m i 3 && ewLkF m k idx a b && decide (eFt (eTy a b) = 0)
    | _ => false
  | 5 => match ewD m i with
    | .ok (.getfield idx, 3) => nxt m i 3 && ewLkF m k idx a b && decide (eFt (eTy a b) = 1)
    | _ => false
  | 6 => match ewD m i with
    | .ok (.ireturn, 1) => decide (mRt m = some (match a with | 0 => .int | 1 => .boolean | _ => .char)) && decide (a ≤ 2)
    | _ => false
  | 7 => match ewD m i with
    | .ok (.goto off, 3) => tgO m i off a
    | _ => false
  | 8 => match ewD m i with
    | .ok (.iadd, 1) => nxt m i 1
    | _ => false
  | 9 => match ewD m i with
    | .ok (.ifCond .eq off, 3) => nxt m i 3 && decide (a = 0) && tgO m i off b
    | .ok (.ifCond .ne off, 3) => nxt m i 3 && decide (a = 1) && tgO m i off b
    | .ok (.ifCond .lt off, 3) => nxt m i 3 && decide (a = 2) && tgO m i off b
    | .ok (.ifCond .ge off, 3) => nxt m i 3 && decide (a = 3) && tgO m i off b
    | .ok (.ifCond .gt off, 3) => nxt m i 3 && decide (a = 4) && tgO m i off b
    | .ok (.ifCond .le off, 3) => nxt m i 3 && decide (a = 5) && tgO m i off b
    | _ => false
  | 10 => match ewD m i with
    | .ok (.if_icmp .eq off, 3) => nxt m i 3 && decide (a = 0) && tgO m i off b
    | .ok (.if_icmp .ne off, 3) => nxt m i 3 && decide (a = 1) && tgO m i off b
    | .ok (.if_icmp .lt off, 3) => nxt m i 3 && decide (a = 2) && tgO m i off b
    | .ok (.if_icmp .ge off, 3) => nxt m i 3 && decide (a = 3) && tgO m i off b
    | .ok (.if_icmp .gt off, 3) => nxt m i 3 && decide (a = 4) && tgO m i off b
    | .ok (.if_icmp .le off, 3) => nxt m i 3 && decide (a = 5) && tgO m i off b
    | _ => false
  | 11 => match ewD m i with
    | .ok (.putfield idx, 3) => nxt m i 3 && ewLkF m k idx a b && decide (eTy a b = .int) && decide (((eT a) b).2.2.2 = false)
    | _ => false
  | 12 => match ewD m i with
    | .ok (.putfield idx, 3) => nxt m i 3 && ewLkF m k idx a b && decide (eFt (eTy a b) = 1) && decide (((eT a) b).2.2.2 = true) && decide ((mNm m).cls = eRc a) && decide ((mNm m).name = "<init>") && decide (wd k = some (.fieldLink (mNm m).cls idx (eRc a) ((eT a) b).2.1 ((eT a) b).2.2.1))
    | _ => false
  | 13 => match ewD m i with
    | .ok (.iaload, 1) => nxt m i 1
    | _ => false
  | 14 => match ewD m i with
    | .ok (.istore_n j, 1) => decide ((j : Nat) = a) && nxt m i 1
    | .ok (.istore j, 2) => decide (j = a) && nxt m i 2
    | _ => false
  | 15 => match ewD m i with
    | .ok (.dup, 1) => nxt m i 1
    | _ => false
  | 16 => match ewD m i with
    | .ok (.iinc j n, 3) => decide (j = a) && decide (n = v) && nxt m i 3
    | _ => false
  | 17 => match ewD m i with
    | .ok (.return_, 1) => decide (mRt m = none)
    | _ => false
  | 18 => match ewD m i with
    | .ok (.isub, 1) => nxt m i 1
    | _ => false
  | 19 => match ewD m i with
    | .ok (.i2l, 1) => nxt m i 1
    | _ => false
  | 20 => match ewD m i with
    | .ok (.iastore, 1) => nxt m i 1
    | _ => false
  | 21 => match ewD m i with
    | .ok (.astore_n j, 1) => decide ((j : Nat) = a) && nxt m i 1
    | .ok (.astore j, 2) => decide (j = a) && nxt m i 2
    | _ => false
  | 22 => match ewD m i with
    | .ok (.imul, 1) => nxt m i 1
    | _ => false
  | 23 => decide (9 ≤ mLv m) && decide (wd k = some (.classLink (mNm m).cls (match ewD m i with | .ok (.new ik, 3) => ik | _ => 0) (ewEx a))) && decide (1 ≤ a ∧ a ≤ 5) && decide ((mNm m).cls = "EchoWells") && decide (m < m_L_dig) && (match ewD m i with | .ok (.new _, 3) => true | _ => false) &&
      decide (decode (mBy m) (mPc m i + 3) = .ok (.dup, 1)) && decide (decode (mBy m) (mPc m i + 4) = .ok (.invokespecial (match a with | 1 => 292 | 2 => 113 | 3 => 120 | 4 => 168 | 5 => 208 | _ => 346), 3)) && decide (decode (mBy m) (mPc m i + 7) = .ok (.athrow, 1))
  | 24 => match ewD m i with
    | .ok (.invokespecial idx, 3) => nxt m i 3 && decide (1 ≤ mLv m) && decide (wd k = some (.methodLink (mNm m).cls idx objectInit))
    | _ => false
  | 25 => match ewD m i with
    | .ok (.arraylength, 1) => nxt m i 1
    | _ => false
  | 26 => match ewD m i with
    | .ok (.new idx, 3) => nxt m i 3 && decide (a ∈ eKs) && decide (wd k = some (.classLink (mNm m).cls idx (eRc a)))
    | _ => false
  | 29 => match ewD m i with
    | .ok (.lcmp, 1) => nxt m i 1
    | _ => false
  | 30 => match ewD m i with
    | .ok (.getstatic idx, 3) => nxt m i 3 && ewLkS m k idx (sCl a) && (decide (a = 1001) || decide (a = 1002) || decide (a = 1003) || decide (a = 1004) || decide (1010 ≤ a ∧ a < 1022))
    | _ => false
  | 31 => match ewD m i with
    | .ok (.newarray t, 2) => nxt m i 2 && decide (newarray.typeOf t = eKt a) && decide (20 ≤ a ∧ a ≤ 22)
    | .ok (.anewarray idx, 3) => nxt m i 3 && decide (30 ≤ a ∧ a ≤ 32) && decide (wd k = some (.classLink (mNm m).cls idx (eKc a)))
    | _ => false
  | 32 => match ewD m i with
    | .ok (.ifnonnull off, 3) => nxt m i 3 && tgO m i off b
    | _ => false
  | 33 => match ewD m i with
    | .ok (.ifnull off, 3) => nxt m i 3 && tgO m i off b
    | _ => false
  | 34 => match ewD m i with
    | .ok (.i2c, 1) => nxt m i 1
    | _ => false
  | 38 => match ewD m i with
    | .ok (.caload, 1) => nxt m i 1
    | _ => false
  | 39 => inB8 v && match ewD m i with
    | .ok (.lconst n, 1) => nxt m i 1 && decide (((n : Nat) : Int) = v)
    | .ok (.ldc2_w idx, 3) => nxt m i 3 && decide (wd k = some (.constantLong (mNm m).cls idx (Int64.ofInt v)))
    | _ => false
  | 40 => match ewD m i with
    | .ok (.areturn, 1) => (match mRt m with | some (.object _) => true | _ => false)
    | _ => false
  | 41 => match ewD m i with
    | .ok (.castore, 1) => nxt m i 1
    | _ => false
  | 42 => match ewD m i with
    | .ok (.irem, 1) => nxt m i 1
    | _ => false
  | 43 => match ewD m i with
    | .ok (.pop, 1) => nxt m i 1
    | _ => false
  | 45 => match ewD m i with
    | .ok (.idiv, 1) => nxt m i 1
    | _ => false
  | 49 => match ewD m i with
    | .ok (.aaload, 1) => nxt m i 1 && decide (30 ≤ a ∧ a ≤ 32)
    | _ => false
  | 50 => match ewD m i with
    | .ok (.aconst_null, 1) => nxt m i 1
    | _ => false
  | 51 => match ewD m i with
    | .ok (.baload, 1) => nxt m i 1
    | _ => false
  | 54 => match ewD m i with
    | .ok (.aastore, 1) => nxt m i 1 && decide ((a = 30 ∧ b = 10) ∨ (a = 31 ∧ b = 8) ∨ (a = 32 ∧ b = 11))
    | _ => false
  | 57 => match ewD m i with
    | .ok (.bastore, 1) => nxt m i 1
    | _ => false
  | 67 => match ewD m i with
    | .ok (.putfield idx, 3) => nxt m i 3 && ewLkF m k idx a b && decide (eTy a b = .boolean) && decide (((eT a) b).2.2.2 = false)
    | _ => false
  | 68 => match ewD m i with
    | .ok (.getfield idx, 3) => nxt m i 3 && ewLkF m k idx a b && decide (eFt (eTy a b) = 2)
    | _ => false
  | 69 => match ewD m i with
    | .ok (.putfield idx, 3) => nxt m i 3 && ewLkF m k idx a b && decide (eTy a b = .object "EchoWells$Order") && decide (((eT a) b).2.2.2 = false)
    | _ => false
  | 70 => match ewD m i with
    | .ok (.invokestatic idx, 3) => nxt m i 3 && decide (1 ≤ mLv m) && decide (wd k = some (.methodLink (mNm m).cls idx Lib.Math.max.name))
    | _ => false
  | 71 => match ewD m i with
    | .ok (.invokestatic idx, 3) => nxt m i 3 && decide (1 ≤ mLv m) && decide (wd k = some (.methodLink (mNm m).cls idx Lib.Math.min.name))
    | _ => false
  | 72 => match ewD m i with
    | .ok (.invokestatic idx, 3) => nxt m i 3 && decide (1 ≤ mLv m) && decide (wd k = some (.methodLink (mNm m).cls idx Lib.Math.abs.name))
    | _ => false
  | 73 => match ewD m i with
    | .ok (.invokevirtual idx, 3) => nxt m i 3 && decide (1 ≤ mLv m) && decide (wd k = some (.methodLink (mNm m).cls idx ⟨"EchoWells$Order", "ordinal", "()I"⟩))
    | _ => false
  | 74 => match ewD m i with
    | .ok (.iaload, 1) => nxt m i 1
    | _ => false
  | 75 => match ewD m i with
    | .ok (.invokevirtual idx, 3) => nxt m i 3 && decide (4 ≤ mLv m) && decide (wd k = some (.methodLink (mNm m).cls idx ⟨"java/lang/String", "length", "()I"⟩))
    | _ => false
  | 76 => match ewD m i with
    | .ok (.invokevirtual idx, 3) => nxt m i 3 && decide (4 ≤ mLv m) && decide (wd k = some (.methodLink (mNm m).cls idx ⟨"java/lang/String", "charAt", "(I)C"⟩))
    | _ => false
  | 77 => match ewD m i with
    | .ok (.getfield idx, 3) => nxt m i 3 && decide (a < 2) && ewLkS m k idx ("EchoWells$Order", (if a = 0 then "name" else "form"), "Ljava/lang/String;")
    | _ => false
  | 78 => match ewD m i with
    | .ok (.aaload, 1) => nxt m i 1
    | _ => false
  | 79 => match ewD m i with
    | .ok (.iaload, 1) => nxt m i 1
    | _ => false
  | 80 => match ewD m i with
    | .ok (.arraylength, 1) => nxt m i 1
    | _ => false
  | 81 => match ewD m i with
    | .ok (.arraylength, 1) => nxt m i 1
    | _ => false
  | 83 => match ewD m i with
    | .ok (.lload_n j, 1) => decide ((j : Nat) = a) && nxt m i 1
    | .ok (.lload j, 2) => decide (j = a) && nxt m i 2
    | _ => false
  | 84 => match ewD m i with
    | .ok (.lstore_n j, 1) => decide ((j : Nat) = a) && nxt m i 1
    | .ok (.lstore j, 2) => decide (j = a) && nxt m i 2
    | _ => false
  | 85 => match ewD m i with
    | .ok (.ladd, 1) => nxt m i 1
    | _ => false
  | 86 => match ewD m i with
    | .ok (.lsub, 1) => nxt m i 1
    | _ => false
  | 87 => match ewD m i with
    | .ok (.lmul, 1) => nxt m i 1
    | _ => false
  | 88 => match ewD m i with
    | .ok (.l2i, 1) => nxt m i 1
    | _ => false
  | 90 => match ewD m i with
    | .ok (.pop2, 1) => nxt m i 1
    | _ => false
  | 91 => match ewD m i with
    | .ok (.ishr, 1) => nxt m i 1
    | _ => false
  | 92 => match ewD m i with
    | .ok (.iand, 1) => nxt m i 1
    | _ => false
  | 89 => match ewD m i with
    | .ok (.lreturn, 1) => decide (mRt m = some .long)
    | _ => false
  | 93 => match ewD m i with
    | .ok (.invokestatic idx, 3) => nxt m i 3 && decide (1 ≤ mLv m) && decide (wd k = some (.methodLink (mNm m).cls idx Lib.MathLoose.min_long.x))
    | _ => false
  | 94 => decide (m = m_L_sounds) && decide (i = 103)
  | 95 => decide (m = m_L_sounds) && decide (i = 112) && decide (a = m_L_echoLetter) && decide (k = 3)
  | 96 => decide (m = m_L_sounds) && decide (i = 113)
  | 97 => decide (m = m_L_sounds) && decide (i = 198)
  | 99 => true
  | 82 => match ewD m i with
    | .ok (.tableswitch df lo hi offs, _) => tgO m i df a && decide (lo + offs.size = hi + 1) && chTs m i lo offs.toList tg
    | .ok (.lookupswitch df ps, _) => tgO m i df a && chLs m i ps.toList tg && (ps.toList.zip (ps.toList.drop 1)).all (fun (a, next) => a.1 < next.1)
    | _ => false
  | _ => false
