/-! ===== A SMALL MACHINE OF MY OWN: values, cells by number, instructions as data; what it does is what the JVM does (the part 'sound'), and the class and the reference are looked at in it ===== -/
/-- a value: an int, a reference (0 null, k the k-th cell, from 1000 on a constant), a long, the bits of a float, of a double, or one of which nothing is known -/
abbrev eV : Type := Int ⊕ (Nat ⊕ (Int ⊕ (UInt32 ⊕ (UInt64 ⊕ Option (List Int)))))
abbrev vI (x : Int) : eV := Sum.inl x
abbrev vR (a : Nat) : eV := Sum.inr (Sum.inl a)
abbrev vL (x : Int) : eV := Sum.inr (Sum.inr (Sum.inl x))
abbrev vF (x : UInt32) : eV := Sum.inr (Sum.inr (Sum.inr (Sum.inl x)))
abbrev vD (x : UInt64) : eV := Sum.inr (Sum.inr (Sum.inr (Sum.inr (Sum.inl x))))
abbrev vJ : eV := Sum.inr (Sum.inr (Sum.inr (Sum.inr (Sum.inr none))))
/-- a text that was made on the way (or what it is made in) -/
abbrev vT (t : List Int) : eV := Sum.inr (Sum.inr (Sum.inr (Sum.inr (Sum.inr (some t)))))
/-- the memory: how many cells there are, how many exceptions were made, references by cell and place, numbers by cell and place -/
abbrev eM : Type := Nat × Nat × (Nat → Nat → Nat) × (Nat → Nat → Int)
/-- how a method ends: with a value or none, or with an exception of a class -/
abbrev eO : Type := (Option eV) ⊕ Nat
/-- an instruction: its kind, three numbers, a constant, targets -/
abbrev eI : Type := Nat × Nat × Nat × Nat × Int × List Nat
/-- the script -/
abbrev eX : Type := Nat × (Nat → Int)
def wr (x : Int) : Int := Int.bmod x 4294967296
def wl (x : Int) : Int := Int.bmod x 18446744073709551616
def up {α : Type} (h : Nat → Nat → α) (a k : Nat) (v : α) : Nat → Nat → α := fun b j => if b = a ∧ j = k then v else h b j
def zr {α : Type} (h : Nat → Nat → α) (a : Nat) (v : α) : Nat → Nat → α := fun b j => if b = a then v else h b j
def eIsD (v : eV) : Bool := match v with
  | .inr (.inr (.inr (.inr (.inl _)))) => true
  | .inr (.inr (.inl _)) => true
  | _ => false
def eWt (v : eV) : Nat := if eIsD v = true then 2 else 1
/-- a store over a slot: a double or long ahead of it is gone -/
def eSt (ls : List eV) (k : Nat) (v : eV) : List eV := match k with
  | 0 => ls.set 0 v
  | j + 1 => if (ls.getD j vJ |> eIsD) = true then (ls.set j vJ).set (j + 1) v else ls.set (j + 1) v
/-- the address where the constants begin; the enum's constants; the array of them; the switch's array; the constants' texts -/
abbrev eC : Nat := 1000
/-- a switch: key, target, key, target ..; else d -/
def eLk {β : Type} (x : Int) (K : Nat → β) (d : Nat) : List Nat → β
  | k :: t :: r => if x = (k : Int) then K t else eLk x K d r
  | _ => K d
section
variable (kd : Nat → Nat) (ln : Nat → Nat) (tx : Nat → List Int) (X : eX)
def kn (n a : Nat) : Nat := if a ≤ n then kd a else 0
/-- one instruction: K what goes on (instruction, locals, stack, memory), C a call (method, arguments, the stack below), R the end, z stuck -/
def eSem {β : Type} (K : Nat → List eV → List eV → eM → β) (C : Nat → List eV → List eV → β) (R : eO → eM → β) (z : β) (pc : Nat) (i : eI) (ls st : List eV) (μ : eM) : β :=
  match i with
  | (op, a, b, c, v, tg) =>
  match op with
  | 0 => match ls[a]? with
    | some (.inr (.inl x)) => K (pc + 1) ls (vR x :: st) μ
    | _ => z
  | 1 => match ls[a]? with
    | some (.inl x) => K (pc + 1) ls (vI x :: st) μ
    | _ => z
  | 2 => K (pc + 1) ls (vI v :: st) μ
  | 3 => if b ≤ st.length ∧ ((st.drop b).map eWt).sum ≤ 8 ∧ (st.take b).all (fun v => !eIsD v) = true then (match v.toNat with
    | 0 => C a (st.take b).reverse (st.drop b)
    | k + 1 => match (st.take b).reverse, μ with
      | .inr (.inl x) :: as, (n, _, _, _) => if kn kd n x = k + 1 then C a (vR x :: as) (st.drop b) else z
      | _, _ => z) else z
  | 4 => match st, μ with
    | .inr (.inl x) :: st, (n, e, p, h) => if kn kd n x = a then K (pc + 1) ls (vI (h x b) :: st) (n, e, p, h) else z
    | _, _ => z
  | 5 => match st, μ with
    | .inr (.inl x) :: st, (n, e, p, h) => if kn kd n x = a then K (pc + 1) ls (vR (p x b) :: st) (n, e, p, h) else z
    | _, _ => z
  | 6 => match st with
    | .inl x :: [] => (match a with
      | 0 => R (.inl (some (vI x))) μ
      | 1 => if x = 0 ∨ x = 1 then R (.inl (some (vI x))) μ else z
      | _ => if 0 ≤ x ∧ x < 65536 then R (.inl (some (vI x))) μ else z)
    | _ => z
  | 7 => K a ls st μ
  | 8 => match st with
    | .inl y :: .inl x :: st => K (pc + 1) ls (vI (wr (x + y)) :: st) μ
    | _ => z
  | 9 => match st with
    | .inl x :: st => match a with
      | 0 => if x = 0 then K b ls st μ else K (pc + 1) ls st μ
      | 1 => if x = 0 then K (pc + 1) ls st μ else K b ls st μ
      | 2 => if x < 0 then K b ls st μ else K (pc + 1) ls st μ
      | 3 => if x < 0 then K (pc + 1) ls st μ else K b ls st μ
      | 4 => if x ≤ 0 then K (pc + 1) ls st μ else K b ls st μ
      | _ => if x ≤ 0 then K b ls st μ else K (pc + 1) ls st μ
    | _ => z
  | 10 => match st with
    | .inl y :: .inl x :: st => match a with
      | 0 => if x = y then K b ls st μ else K (pc + 1) ls st μ
      | 1 => if x = y then K (pc + 1) ls st μ else K b ls st μ
      | 2 => if x < y then K b ls st μ else K (pc + 1) ls st μ
      | 3 => if x < y then K (pc + 1) ls st μ else K b ls st μ
      | 4 => if x ≤ y then K (pc + 1) ls st μ else K b ls st μ
      | _ => if x ≤ y then K b ls st μ else K (pc + 1) ls st μ
    | _ => z
  | 11 => match st, μ with
    | .inl w :: .inr (.inl x) :: st, (n, e, p, h) => if kn kd n x = a then K (pc + 1) ls st (n, e, p, up h x b w) else z
    | _, _ => z
  | 12 => match st, μ with
    | .inr (.inl w) :: .inr (.inl x) :: st, (n, e, p, h) => if kn kd n x = a ∧ w ≤ n then K (pc + 1) ls st (n, e, up p x b w, h) else z
    | _, _ => z
  | 13 => match st, μ with
    | .inl j :: .inr (.inl x) :: st, (n, e, p, h) => if kn kd n x = 20 ∧ 0 ≤ j ∧ j < ln x then K (pc + 1) ls (vI (h x j.toNat) :: st) (n, e, p, h) else z
    | _, _ => z
  | 14 => match st with
    | .inl x :: st => if a < ls.length then K (pc + 1) (eSt ls a (vI x)) st μ else z
    | _ => z
  | 15 => match st with
    | .inl x :: st => K (pc + 1) ls (vI x :: vI x :: st) μ
    | .inr (.inl x) :: st => K (pc + 1) ls (vR x :: vR x :: st) μ
    | _ => z
  | 16 => match ls[a]? with
    | some (.inl x) => K (pc + 1) (eSt ls a (vI (wr (x + v)))) st μ
    | _ => z
  | 17 => match st with
    | [] => R (.inl none) μ
    | _ => z
  | 18 => match st with
    | .inl y :: .inl x :: st => K (pc + 1) ls (vI (wr (x - y)) :: st) μ
    | _ => z
  | 19 => match st with
    | .inl x :: st => K (pc + 1) ls (vL x :: st) μ
    | _ => z
  | 20 => match st, μ with
    | .inl w :: .inl j :: .inr (.inl x) :: st, (n, e, p, h) => if kn kd n x = 20 ∧ 0 ≤ j ∧ j < ln x then K (pc + 1) ls st (n, e, p, up h x j.toNat w) else z
    | _, _ => z
  | 21 => match st with
    | .inr (.inl x) :: st => if a < ls.length then K (pc + 1) (eSt ls a (vR x)) st μ else z
    | _ => z
  | 22 => match st with
    | .inl y :: .inl x :: st => K (pc + 1) ls (vI (wr (x * y)) :: st) μ
    | _ => z
  | 23 => match μ with
    | (n, e, p, h) => if st.length ≤ 8 then R (.inr a) (n, e + 1, p, h) else z
  | 24 => match st with
    | .inr (.inl x) :: st => if st.length ≤ 8 then (if x = 0 then z else K (pc + 1) ls st μ) else z
    | _ => z
  | 25 => match st, μ with
    | .inr (.inl x) :: st, (n, e, p, h) => if 20 ≤ kn kd n x then K (pc + 1) ls (vI (ln x) :: st) (n, e, p, h) else z
    | _, _ => z
  | 26 => match μ with
    | (n, e, p, h) => if kd (n + 1) = a ∧ e = 0 then K (pc + 1) ls (vR (n + 1) :: st) (n + 1, e, zr p (n + 1) 0, zr h (n + 1) 0) else z
  | 29 => match st with
    | .inr (.inr (.inl y)) :: .inr (.inr (.inl x)) :: st => K (pc + 1) ls (vI (if x = y then 0 else if x < y then -1 else 1) :: st) μ
    | _ => z
  | 30 => K (pc + 1) ls (vR a :: st) μ
  | 31 => match st, μ with
    | .inl w :: st, (n, e, p, h) => if kd (n + 1) = a ∧ (ln (n + 1) : Int) = w ∧ e = 0 then K (pc + 1) ls (vR (n + 1) :: st) (n + 1, e, zr p (n + 1) 0, zr h (n + 1) 0) else z
    | _, _ => z
  | 32 => match st with
    | .inr (.inl x) :: st => if x = 0 then K (pc + 1) ls st μ else K b ls st μ
    | _ => z
  | 33 => match st with
    | .inr (.inl x) :: st => if x = 0 then K b ls st μ else K (pc + 1) ls st μ
    | _ => z
  | 34 => match st with
    | .inl x :: st => K (pc + 1) ls (vI (x % 65536) :: st) μ
    | _ => z
  | 38 => match st, μ with
    | .inl j :: .inr (.inl x) :: st, (n, e, p, h) => if kn kd n x = 21 ∧ 0 ≤ j ∧ j < ln x then K (pc + 1) ls (vI (h x j.toNat) :: st) (n, e, p, h) else z
    | _, _ => z
  | 39 => K (pc + 1) ls (vL v :: st) μ
  | 40 => match st with
    | .inr (.inl x) :: [] => R (.inl (some (vR x))) μ
    | _ => z
  | 41 => match st, μ with
    | .inl w :: .inl j :: .inr (.inl x) :: st, (n, e, p, h) => if kn kd n x = 21 ∧ 0 ≤ j ∧ j < ln x then K (pc + 1) ls st (n, e, p, up h x j.toNat (w % 65536)) else z
    | _, _ => z
  | 42 => match st with
    | .inl y :: .inl x :: st => if y = 0 then z else K (pc + 1) ls (vI (x.tmod y) :: st) μ
    | _ => z
  | 43 => match st with
    | .inl _ :: st => K (pc + 1) ls st μ
    | .inr (.inl _) :: st => K (pc + 1) ls st μ
    | _ => z
  | 45 => match st with
    | .inl y :: .inl x :: st => if y = 0 then z else K (pc + 1) ls (vI (wr (x.tdiv y)) :: st) μ
    | _ => z
  | 49 => match st, μ with
    | .inl j :: .inr (.inl x) :: st, (n, e, p, h) => if kn kd n x = a ∧ 0 ≤ j ∧ j < ln x then K (pc + 1) ls (vR (p x j.toNat) :: st) (n, e, p, h) else z
    | _, _ => z
  | 50 => K (pc + 1) ls (vR 0 :: st) μ
  | 51 => match st, μ with
    | .inl j :: .inr (.inl x) :: st, (n, e, p, h) => if kn kd n x = 22 ∧ 0 ≤ j ∧ j < ln x then K (pc + 1) ls (vI (h x j.toNat) :: st) (n, e, p, h) else z
    | _, _ => z
  | 54 => match st, μ with
    | .inr (.inl w) :: .inl j :: .inr (.inl x) :: st, (n, e, p, h) => if kn kd n x = a ∧ 0 ≤ j ∧ j < ln x ∧ kn kd n w = b then K (pc + 1) ls st (n, e, up p x j.toNat w, h) else z
    | _, _ => z
  | 57 => match st, μ with
    | .inl w :: .inl j :: .inr (.inl x) :: st, (n, e, p, h) => if kn kd n x = 22 ∧ 0 ≤ j ∧ j < ln x ∧ (w = 0 ∨ w = 1) then K (pc + 1) ls st (n, e, p, up h x j.toNat w) else z
    | _, _ => z
  | 67 => match st, μ with
    | .inl w :: .inr (.inl x) :: st, (n, e, p, h) => if kn kd n x = a ∧ (w = 0 ∨ w = 1) then K (pc + 1) ls st (n, e, p, up h x b w) else z
    | _, _ => z
  | 68 => match st, μ with
    | .inr (.inl x) :: st, (n, e, p, h) => if kn kd n x = a then K (pc + 1) ls (vR (h x b).toNat :: st) (n, e, p, h) else z
    | _, _ => z
  | 69 => match st, μ with
    | .inr (.inl w) :: .inr (.inl x) :: st, (n, e, p, h) => if kn kd n x = a ∧ (w = 0 ∨ (1010 ≤ w ∧ w < 1022)) then K (pc + 1) ls st (n, e, p, up h x b w) else z
    | _, _ => z
  | 70 => match st with
    | .inl y :: .inl x :: st => if st.length ≤ 8 then K (pc + 1) ls (vI (if x ≤ y then y else x) :: st) μ else z
    | _ => z
  | 71 => match st with
    | .inl y :: .inl x :: st => if st.length ≤ 8 then K (pc + 1) ls (vI (if x ≤ y then x else y) :: st) μ else z
    | _ => z
  | 72 => match st with
    | .inl x :: st => if st.length ≤ 8 then K (pc + 1) ls (vI (if x < 0 then wr (-x) else x) :: st) μ else z
    | _ => z
  | 73 => match st with
    | .inr (.inl x) :: st => if (st.map eWt).sum ≤ 8 then (if 1010 ≤ x ∧ x < 1022 then K (pc + 1) ls (vI ((x : Int) - 1010) :: st) μ else z) else z
    | _ => z
  | 74 => match st with
    | .inl j :: .inr (.inl x) :: st => if x = 1002 ∧ 0 ≤ j ∧ j < 12 then K (pc + 1) ls (vI (if j = 11 then 0 else j + 1) :: st) μ else z
    | _ => z
  | 75 => match st with
    | .inr (.inl x) :: st => if (st.map eWt).sum ≤ 8 then (if 1100 ≤ x ∧ x < 1141 then K (pc + 1) ls (vI ((tx (x - 1100)).length) :: st) μ else z) else z
    | _ => z
  | 76 => match st with
    | .inl j :: .inr (.inl x) :: st => if (st.map eWt).sum ≤ 8 then (if 1100 ≤ x ∧ x < 1141 ∧ 0 ≤ j ∧ j < (tx (x - 1100)).length then K (pc + 1) ls (vI ((tx (x - 1100)).getD j.toNat 0) :: st) μ else z) else z
    | _ => z
  | 77 => match st with
    | .inr (.inl x) :: st => if 1010 ≤ x ∧ x < 1022 then K (pc + 1) ls (vR (1100 + 12 * a + (x - 1010)) :: st) μ else z
    | _ => z
  | 78 => match st with
    | .inl j :: .inr (.inl x) :: st => if x = 1001 ∧ 0 ≤ j ∧ j < 12 then K (pc + 1) ls (vR (1010 + j.toNat) :: st) μ else if x = 1003 ∧ 0 ≤ j ∧ j < 8 then K (pc + 1) ls (vR (1124 + j.toNat) :: st) μ else if x = 1004 ∧ 0 ≤ j ∧ j < 8 then K (pc + 1) ls (vR (1132 + j.toNat) :: st) μ else z
    | _ => z
  | 79 => match st with
    | .inl j :: .inr (.inl x) :: st => if x = 1000 ∧ 0 ≤ j ∧ j < X.1 then K (pc + 1) ls (vI (X.2 j.toNat) :: st) μ else z
    | _ => z
  | 80 => match st with
    | .inr (.inl x) :: st => if x = 1001 then K (pc + 1) ls (vI 12 :: st) μ else z
    | _ => z
  | 81 => match st with
    | .inr (.inl x) :: st => if x = 1000 then K (pc + 1) ls (vI X.1 :: st) μ else z
    | _ => z
  | 82 => match st with
    | .inl x :: st => eLk x (fun t => K t ls st μ) a tg
    | _ => z
  | 83 => match ls[a]? with
    | some (.inr (.inr (.inl x))) => K (pc + 1) ls (vL x :: st) μ
    | _ => z
  | 84 => match st with
    | .inr (.inr (.inl x)) :: st => if a + 1 < ls.length then K (pc + 1) ((eSt ls a (vL x)).set (a + 1) vJ) st μ else z
    | _ => z
  | 85 => match st with
    | .inr (.inr (.inl y)) :: .inr (.inr (.inl x)) :: st => K (pc + 1) ls (vL (wl (x + y)) :: st) μ
    | _ => z
  | 86 => match st with
    | .inr (.inr (.inl y)) :: .inr (.inr (.inl x)) :: st => K (pc + 1) ls (vL (wl (x - y)) :: st) μ
    | _ => z
  | 87 => match st with
    | .inr (.inr (.inl y)) :: .inr (.inr (.inl x)) :: st => K (pc + 1) ls (vL (wl (x * y)) :: st) μ
    | _ => z
  | 88 => match st with
    | .inr (.inr (.inl x)) :: st => K (pc + 1) ls (vI (wr x) :: st) μ
    | _ => z
  | 89 => match st with
    | .inr (.inr (.inl x)) :: [] => R (.inl (some (vL x))) μ
    | _ => z
  | 90 => match st with
    | .inr (.inr (.inl _)) :: st => K (pc + 1) ls st μ
    | _ => z
  | 91 => match st with
    | .inl y :: .inl x :: st => if 0 ≤ y ∧ y < 32 then K (pc + 1) ls (vI (x / 2 ^ y.toNat) :: st) μ else z
    | _ => z
  | 92 => match st with
    | .inl y :: .inl x :: st => if y = 2147483647 then K (pc + 1) ls (vI (x % 2147483648) :: st) μ else z
    | _ => z
  | 93 => match st with
    | .inr (.inr (.inl y)) :: .inr (.inr (.inl x)) :: st => if st.length ≤ 8 then K (pc + 1) ls (vL (if x ≤ y then x else y) :: st) μ else z
    | _ => z
  | 94 => match μ with
    | (n, e, p, h) => if 17 < ls.length then K (pc + 2) (eSt ls 17 (vT [])) st (n, e + 1, p, h) else z
  | 95 => match st, (ls[0]? : Option eV), (ls[4]? : Option eV), (ls[17]? : Option eV), (ls[18]? : Option eV) with
    | [], some (.inr (.inl o)), some (.inl w), some (.inr (.inr (.inr (.inr (.inr (some t)))))), some (.inl j) => if t.length ≤ 20 ∧ 0 < μ.2.1 ∧ μ.1 = 576 then C a [vR o, vI w, vI j] [vT t] else z
    | _, _, _, _, _ => z
  | 96 => match st, μ with
    | .inr (.inr (.inl x)) :: .inr (.inr (.inr (.inr (.inr (some t))))) :: [], (n, e, p, h) => if 17 < ls.length then (if 0 ≤ x ∧ x < 128 ∧ t.length ≤ 20 then K (pc + 13) (eSt ls 17 (vT (t ++ [x]))) [] (n, e + 40, p, h) else z) else z
    | _, _ => z
  | 97 => match (ls[17]? : Option eV), (ls[18]? : Option eV) with
    | some (.inr (.inr (.inr (.inr (.inr (some t)))))), some (.inl j) => if (st.map eWt).sum ≤ 8 then (if 0 ≤ j ∧ j < t.length then K (pc + 3) ls (vI (t.getD j.toNat 0) :: st) μ else z) else z
    | _, _ => z
  | _ => z
end
