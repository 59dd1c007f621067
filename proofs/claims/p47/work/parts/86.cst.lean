/-! constants, the script, stores of references -/
theorem va_getXN {p : Program} {l : Launch} {e : Env} {R : Room} {s : State} {m : MethodId} {args : Array Value} {below : List Frame} {meth : Method} {c : Code} {H : Heap} {locs : List Loc} {cells slots : Nat} {Q : State → Prop} {cc : ByteArray} {pc : Nat} {ls : Array Slot} {rest : List Value} {A : Nat → Prop} (hexec : p.tables.exec = Jvm.exec) (hb : c.code = cc) {o n d own ref host : String} {N : Nat} {v : Nat → Value} {ad : Nat → Nat} {index i : Nat} (hE : va_Ef N o n d v ad A s s.heap) (hi : i < N) (hS : va_S A s.heap H locs) (hown : s.vm.findClass own = some m.cls) (hlink : (Cond.fieldLinkNest own index ref n d host).before args s = true) (hsame : ∀ x, s.fieldFound? o n d = some x → s.fieldFound? ref n d = some x) (hdg : decode cc pc = .ok (.getfield index, 3))
    (kk : W p l e R s m args below meth c H locs cells slots Q (F0 m (pc + 3) ls (v i :: rest))) : W p l e R s m args below meth c H locs cells slots Q (F0 m pc ls (.ref (ad i) :: rest)) := by
  obtain ⟨cf, k, fi, f, cell, h1, h2, h3, h4, h5, h6⟩ := (hE i hi).kept hS.2.1
  exact va_Wgetf hexec hb hown hlink (hsame _ h1) h2 h3 h4 (v := v i) h5 rfl rfl hdg kk
theorem rv_big {B : Nat} {K : Nat → Nat} {a : Nat} (h : 1000 ≤ a) : rv B K a = .ref (K a) := by
  unfold rv
  rw [if_neg (by omega), if_neg (by omega)]
set_option maxRecDepth 20000 in
theorem cst_Z {B : Nat} {K : Nat → Nat} {s : State} (h : eCst B K s) {a : Nat} (ha : a = 1001 ∨ a = 1002 ∨ a = 1003 ∨ a = 1004 ∨ (1010 ≤ a ∧ a < 1022)) : va_Z (sCl a).1 (sCl a).2.1 (sCl a).2.2 (.ref (K a)) (eAd B) s s.heap := by
  obtain ⟨-, -, -, -, -, h1, h2, h3, h4, h5, h6, h7⟩ := h
  rcases ha with rfl | rfl | rfl | rfl | ⟨h8, h9⟩
  · exact h5
  · exact h3
  · exact h7.2.2.2.2.1
  · exact h7.2.2.2.2.2.2.1
  · have h10 := (h1.1 (a - 1010) (by show a - 1010 < 12; omega)).1
    have h11 : sCl a = ("EchoWells$Order", ordNm.getD (a - 1010) "", "LEchoWells$Order;") := by unfold sCl; rw [if_neg (by omega), if_neg (by omega), if_neg (by omega), if_neg (by omega)]
    rw [h11]
    have h13 : va_Z "EchoWells$Order" (ordNm.getD (a - 1010) "") "LEchoWells$Order;" (.ref (K (1010 + (a - 1010)))) (eAd B) s s.heap := h10
    rw [show 1010 + (a - 1010) = a by omega] at h13
    exact h13
/-- the script, as the constants' map keeps it -/
def eXK (K : Nat → Nat) (X : eX) : Prop := K 1000000 = X.1 ∧ ∀ j : Nat, ((K (1000001 + j) : Nat) : Int) - 2147483648 = X.2 j
theorem ewT_l (j : Nat) : inR ((ewT j).length : Int) := by
  have h := (ewT_in j 0).2
  unfold inR
  omega
theorem ewT_g (j i : Nat) : inR ((ewT j).getD i 0) := by
  have h := (ewT_in j i).1
  unfold inR
  omega
theorem oN_oI (n : Nat) : Int32.ofNat n = Int32.ofInt (n : Int) := rfl
section
variable {B : Nat} {K : Nat → Nat} {dA : Nat → ClassId} {D : va_G} {X : eX}
variable {p : Program} {l : Launch} {e : Env} {R : Room} {s : State} {mI : MethodId} {args : Array Value} {below : List Frame} {meth : Method} {c : Code} {cells slots mc ms : Nat} {Q : State → Prop} {m : Nat}
theorem sl_30 {X : eX} {pc a b k : Nat} {v : Int} {tg : List Nat} {ls st : List eV} {n e : Nat} {p : Nat → Nat → Nat} {h : Nat → Nat → Int} : eSel ewK ewL ewT X pc (30, a, b, k, v, tg) ls st (n, e, p, h) = (eNx (pc + 1) ls (vR a :: st)  (n, e, p, h)) := rfl
theorem ck_30 {m i a b k : Nat} {v : Int} {tg : List Nat} : chk m i (30, a, b, k, v, tg) = (match ewD m i with
    | .ok (.getstatic idx, 3) => nxt m i 3 && ewLkS m k idx (sCl a) && (decide (a = 1001) || decide (a = 1002) || decide (a = 1003) || decide (a = 1004) || decide (1010 ≤ a ∧ a < 1022))
    | _ => false) := rfl
set_option maxHeartbeats 1000000 in
theorem op_30 (C : eCx B K dA D p l s mI args meth c m) {pc a b k : Nat} {v : Int} {tg : List Nat} {ls st ls' st' : List eV} {n e0 : Nat} {pp : Nat → Nat → Nat} {hh : Nat → Nat → Int} {μ' : eM} {pc' : Nat} (hk : chk m pc (30, a, b, k, v, tg) = true) (hw : eWf ls st (n, e0, pp, hh)) (hs : eSel ewK ewL ewT X pc (30, a, b, k, v, tg) ls st (n, e0, pp, hh) = some (.inl (pc', ls', st', μ'))) (kk : eVv B K dA D p l e R s mI args below meth c Q m (cells) (slots) pc' ls' st' μ') : eVv B K dA D p l e R s mI args below meth c Q m cells slots pc ls st (n, e0, pp, hh) := by
  obtain ⟨hx, hb, hr, hml, hown, hts, hlk, htb, hnm, hst, hB1, hK, hC⟩ := C
  rw [sl_30] at hs
  rw [ck_30] at hk
  split at hk
  next idx hd =>
    simp only [Bool.and_eq_true, Bool.or_eq_true, decide_eq_true_eq] at hk
    obtain ⟨⟨hn, hl⟩, ha⟩ := hk
    unfold ewLkS at hl
    simp only [Bool.or_eq_true, decide_eq_true_eq] at hl
    cases hs
    have hZ := cst_Z hC (a := a) (by omega)
    intro H locs lsA hR hS hL
    have h1 := kk H locs lsA hR hS hL
    rw [nx1 hn] at h1
    have h2 : W p l e R s mI args below meth c H locs cells slots Q (F0 mI (mPc m pc + 3) lsA (rv B K a :: st.map (cv B K))) := h1
    rw [rv_big (by omega)] at h2
    rcases hl with hl | hl
    · exact va_gets hx hb hZ hS hown (hts _ (in4 (wd_mem hl) rfl)) (fun _ h => h) hd h2
    · exact va_getsN hx hb hZ hS hown (hts _ (in4 (wd_mem hl) rfl)) (fun _ h => h) hd h2
  · cases hk
theorem sl_77 {X : eX} {pc a b k : Nat} {v : Int} {tg : List Nat} {ls st : List eV} {n e : Nat} {p : Nat → Nat → Nat} {h : Nat → Nat → Int} : eSel ewK ewL ewT X pc (77, a, b, k, v, tg) ls st (n, e, p, h) = (match st with
    | .inr (.inl x) :: st => if 1010 ≤ x ∧ x < 1022 then eNx (pc + 1) ls (vR (1100 + 12 * a + (x - 1010)) :: st)  (n, e, p, h) else none
    | _ => none) := rfl
theorem ck_77 {m i a b k : Nat} {v : Int} {tg : List Nat} : chk m i (77, a, b, k, v, tg) = (match ewD m i with
    | .ok (.getfield idx, 3) => nxt m i 3 && decide (a < 2) && ewLkS m k idx ("EchoWells$Order", (if a = 0 then "name" else "form"), "Ljava/lang/String;")
    | _ => false) := rfl
set_option maxHeartbeats 1000000 in
theorem op_77 (C : eCx B K dA D p l s mI args meth c m) {pc a b k : Nat} {v : Int} {tg : List Nat} {ls st ls' st' : List eV} {n e0 : Nat} {pp : Nat → Nat → Nat} {hh : Nat → Nat → Int} {μ' : eM} {pc' : Nat} (hk : chk m pc (77, a, b, k, v, tg) = true) (hw : eWf ls st (n, e0, pp, hh)) (hs : eSel ewK ewL ewT X pc (77, a, b, k, v, tg) ls st (n, e0, pp, hh) = some (.inl (pc', ls', st', μ'))) (kk : eVv B K dA D p l e R s mI args below meth c Q m (cells) (slots) pc' ls' st' μ') : eVv B K dA D p l e R s mI args below meth c Q m cells slots pc ls st (n, e0, pp, hh) := by
  obtain ⟨hx, hb, hr, hml, hown, hts, hlk, htb, hnm, hst, hB1, hK, hC⟩ := C
  rw [sl_77] at hs
  rw [ck_77] at hk
  split at hs
  next x st2 =>
    split at hs
    next hg =>
      split at hk
      next idx hd =>
        simp only [Bool.and_eq_true, decide_eq_true_eq] at hk
        obtain ⟨⟨hn, ha⟩, hl⟩ := hk
        unfold ewLkS at hl
        simp only [Bool.or_eq_true, decide_eq_true_eq] at hl
        cases hs
        have hE := hC.2.2.2.2.2.2.1 a ha
        intro H locs lsA hR hS hL
        have h1 := kk H locs lsA hR hS hL
        rw [nx1 hn] at h1
        have h2 : W p l e R s mI args below meth c H locs cells slots Q (F0 mI (mPc m pc + 3) lsA (rv B K (1100 + 12 * a + (x - 1010)) :: st2.map (cv B K))) := h1
        rw [rv_big (by omega)] at h2
        show W p l e R s mI args below meth c H locs cells slots Q (F0 mI (mPc m pc) lsA (rv B K x :: st2.map (cv B K)))
        rw [rv_big (by omega), show x = 1010 + (x - 1010) by omega]
        rcases hl with hl | hl
        · exact va_getX (ad := fun i => K (1010 + i)) (v := fun i => .ref (K (1100 + 12 * a + i))) (i := x - 1010) hx hb hE (by omega) hS hown (hts _ (in4 (wd_mem hl) rfl)) (fun _ h => h) hd h2
        · exact va_getXN (ad := fun i => K (1010 + i)) (v := fun i => .ref (K (1100 + 12 * a + i))) (i := x - 1010) hx hb hE (by omega) hS hown (hts _ (in4 (wd_mem hl) rfl)) (fun _ h => h) hd h2
      · cases hk
    · cases hs
  · cases hs
theorem sl_78 {X : eX} {pc a b k : Nat} {v : Int} {tg : List Nat} {ls st : List eV} {n e : Nat} {p : Nat → Nat → Nat} {h : Nat → Nat → Int} : eSel ewK ewL ewT X pc (78, a, b, k, v, tg) ls st (n, e, p, h) = (match st with
    | .inl j :: .inr (.inl x) :: st => if x = 1001 ∧ 0 ≤ j ∧ j < 12 then eNx (pc + 1) ls (vR (1010 + j.toNat) :: st)  (n, e, p, h) else if x = 1003 ∧ 0 ≤ j ∧ j < 8 then eNx (pc + 1) ls (vR (1124 + j.toNat) :: st)  (n, e, p, h) else if x = 1004 ∧ 0 ≤ j ∧ j < 8 then eNx (pc + 1) ls (vR (1132 + j.toNat) :: st)  (n, e, p, h) else none
    | _ => none) := rfl
theorem ck_78 {m i a b k : Nat} {v : Int} {tg : List Nat} : chk m i (78, a, b, k, v, tg) = (match ewD m i with
    | .ok (.aaload, 1) => nxt m i 1
    | _ => false) := rfl
set_option maxHeartbeats 1000000 in
theorem op_78 (C : eCx B K dA D p l s mI args meth c m) {pc a b k : Nat} {v : Int} {tg : List Nat} {ls st ls' st' : List eV} {n e0 : Nat} {pp : Nat → Nat → Nat} {hh : Nat → Nat → Int} {μ' : eM} {pc' : Nat} (hk : chk m pc (78, a, b, k, v, tg) = true) (hw : eWf ls st (n, e0, pp, hh)) (hs : eSel ewK ewL ewT X pc (78, a, b, k, v, tg) ls st (n, e0, pp, hh) = some (.inl (pc', ls', st', μ'))) (kk : eVv B K dA D p l e R s mI args below meth c Q m (cells) (slots) pc' ls' st' μ') : eVv B K dA D p l e R s mI args below meth c Q m cells slots pc ls st (n, e0, pp, hh) := by
  obtain ⟨hx, hb, hr, hml, hown, hts, hlk, htb, hnm, hst, hB1, hK, hC⟩ := C
  rw [sl_78] at hs
  rw [ck_78] at hk
  split at hs
  next j x st2 =>
    have w1 : inR j := hw.2.1 _ List.mem_cons_self
    split at hs
    next hg =>
      obtain ⟨rfl, j0, j1⟩ := hg
      split at hk
      next hd =>
        cases hs
        intro H locs lsA hR hS hL
        have h1 := kk H locs lsA hR hS hL
        rw [nx1 hk] at h1
        have h2 : W p l e R s mI args below meth c H locs cells slots Q (F0 mI (mPc m pc + 1) lsA (rv B K (1010 + j.toNat) :: st2.map (cv B K))) := h1
        rw [rv_big (by omega)] at h2
        show W p l e R s mI args below meth c H locs cells slots Q (F0 mI (mPc m pc) lsA (.int (Int32.ofInt j) :: rv B K 1001 :: st2.map (cv B K)))
        rw [rv_big (by omega)]
        exact vb_tq hx hb hC.2.2.2.2.2.2.2.2.2.2.1 hS (oI_vp w1 j0 j1) (by rw [oI_clamp w1]) hd h2
      · cases hk
    next hn1 =>
      split at hs
      next hg =>
        obtain ⟨rfl, j0, j1⟩ := hg
        split at hk
        next hd =>
          cases hs
          intro H locs lsA hR hS hL
          have h1 := kk H locs lsA hR hS hL
          rw [nx1 hk] at h1
          have h2 : W p l e R s mI args below meth c H locs cells slots Q (F0 mI (mPc m pc + 1) lsA (rv B K (1124 + j.toNat) :: st2.map (cv B K))) := h1
          rw [rv_big (by omega)] at h2
          show W p l e R s mI args below meth c H locs cells slots Q (F0 mI (mPc m pc) lsA (.int (Int32.ofInt j) :: rv B K 1003 :: st2.map (cv B K)))
          rw [rv_big (by omega)]
          exact vb_tq hx hb hC.2.2.2.2.2.2.2.2.2.2.2.2.2.2.2.2.1 hS (oI_vp w1 j0 j1) (by rw [oI_clamp w1]) hd h2
        · cases hk
      next hn2 =>
        split at hs
        next hg =>
          obtain ⟨rfl, j0, j1⟩ := hg
          split at hk
          next hd =>
            cases hs
            intro H locs lsA hR hS hL
            have h1 := kk H locs lsA hR hS hL
            rw [nx1 hk] at h1
            have h2 : W p l e R s mI args below meth c H locs cells slots Q (F0 mI (mPc m pc + 1) lsA (rv B K (1132 + j.toNat) :: st2.map (cv B K))) := h1
            rw [rv_big (by omega)] at h2
            show W p l e R s mI args below meth c H locs cells slots Q (F0 mI (mPc m pc) lsA (.int (Int32.ofInt j) :: rv B K 1004 :: st2.map (cv B K)))
            rw [rv_big (by omega)]
            exact vb_tq hx hb hC.2.2.2.2.2.2.2.2.2.2.2.2.2.2.2.2.2.2.1 hS (oI_vp w1 j0 j1) (by rw [oI_clamp w1]) hd h2
          · cases hk
        · cases hs
  · cases hs
theorem sl_74 {X : eX} {pc a b k : Nat} {v : Int} {tg : List Nat} {ls st : List eV} {n e : Nat} {p : Nat → Nat → Nat} {h : Nat → Nat → Int} : eSel ewK ewL ewT X pc (74, a, b, k, v, tg) ls st (n, e, p, h) = (match st with
    | .inl j :: .inr (.inl x) :: st => if x = 1002 ∧ 0 ≤ j ∧ j < 12 then eNx (pc + 1) ls (vI (if j = 11 then 0 else j + 1) :: st)  (n, e, p, h) else none
    | _ => none) := rfl
theorem ck_74 {m i a b k : Nat} {v : Int} {tg : List Nat} : chk m i (74, a, b, k, v, tg) = (match ewD m i with
    | .ok (.iaload, 1) => nxt m i 1
    | _ => false) := rfl
set_option maxHeartbeats 1000000 in
theorem op_74 (C : eCx B K dA D p l s mI args meth c m) {pc a b k : Nat} {v : Int} {tg : List Nat} {ls st ls' st' : List eV} {n e0 : Nat} {pp : Nat → Nat → Nat} {hh : Nat → Nat → Int} {μ' : eM} {pc' : Nat} (hk : chk m pc (74, a, b, k, v, tg) = true) (hw : eWf ls st (n, e0, pp, hh)) (hs : eSel ewK ewL ewT X pc (74, a, b, k, v, tg) ls st (n, e0, pp, hh) = some (.inl (pc', ls', st', μ'))) (kk : eVv B K dA D p l e R s mI args below meth c Q m (cells) (slots) pc' ls' st' μ') : eVv B K dA D p l e R s mI args below meth c Q m cells slots pc ls st (n, e0, pp, hh) := by
  obtain ⟨hx, hb, hr, hml, hown, hts, hlk, htb, hnm, hst, hB1, hK, hC⟩ := C
  rw [sl_74] at hs
  rw [ck_74] at hk
  split at hs
  next j x st2 =>
    have w1 : inR j := hw.2.1 _ List.mem_cons_self
    split at hs
    next hg =>
      obtain ⟨rfl, j0, j1⟩ := hg
      split at hk
      next hd =>
        cases hs
        intro H locs lsA hR hS hL
        have h1 := kk H locs lsA hR hS hL
        rw [nx1 hk] at h1
        have h2 : W p l e R s mI args below meth c H locs cells slots Q (F0 mI (mPc m pc + 1) lsA (.int (Int32.ofInt (if j = 11 then 0 else j + 1)) :: st2.map (cv B K))) := h1
        rw [show (if j = 11 then 0 else j + 1 : Int) = ((if j.toNat = 11 then 0 else j.toNat + 1 : Nat) : Int) by split <;> split <;> omega, ← oN_oI] at h2
        show W p l e R s mI args below meth c H locs cells slots Q (F0 mI (mPc m pc) lsA (.int (Int32.ofInt j) :: rv B K 1002 :: st2.map (cv B K)))
        rw [rv_big (by omega)]
        exact va_ti hx hb hC.2.2.2.2.2.2.2.2.1 hS (oI_vp w1 j0 j1) (by rw [oI_clamp w1]) hd h2
      · cases hk
    · cases hs
  · cases hs
theorem sl_80 {X : eX} {pc a b k : Nat} {v : Int} {tg : List Nat} {ls st : List eV} {n e : Nat} {p : Nat → Nat → Nat} {h : Nat → Nat → Int} : eSel ewK ewL ewT X pc (80, a, b, k, v, tg) ls st (n, e, p, h) = (match st with
    | .inr (.inl x) :: st => if x = 1001 then eNx (pc + 1) ls (vI 12 :: st)  (n, e, p, h) else none
    | _ => none) := rfl
theorem ck_80 {m i a b k : Nat} {v : Int} {tg : List Nat} : chk m i (80, a, b, k, v, tg) = (match ewD m i with
    | .ok (.arraylength, 1) => nxt m i 1
    | _ => false) := rfl
set_option maxHeartbeats 1000000 in
theorem op_80 (C : eCx B K dA D p l s mI args meth c m) {pc a b k : Nat} {v : Int} {tg : List Nat} {ls st ls' st' : List eV} {n e0 : Nat} {pp : Nat → Nat → Nat} {hh : Nat → Nat → Int} {μ' : eM} {pc' : Nat} (hk : chk m pc (80, a, b, k, v, tg) = true) (hw : eWf ls st (n, e0, pp, hh)) (hs : eSel ewK ewL ewT X pc (80, a, b, k, v, tg) ls st (n, e0, pp, hh) = some (.inl (pc', ls', st', μ'))) (kk : eVv B K dA D p l e R s mI args below meth c Q m (cells) (slots) pc' ls' st' μ') : eVv B K dA D p l e R s mI args below meth c Q m cells slots pc ls st (n, e0, pp, hh) := by
  obtain ⟨hx, hb, hr, hml, hown, hts, hlk, htb, hnm, hst, hB1, hK, hC⟩ := C
  rw [sl_80] at hs
  rw [ck_80] at hk
  split at hs
  next x st2 =>
    split at hs
    next hg =>
      subst hg
      split at hk
      next hd =>
        cases hs
        intro H locs lsA hR hS hL
        have h1 := kk H locs lsA hR hS hL
        rw [nx1 hk] at h1
        show W p l e R s mI args below meth c H locs cells slots Q (F0 mI (mPc m pc) lsA (rv B K 1001 :: st2.map (cv B K)))
        rw [rv_big (by omega)]
        exact va_tlen hx hb hC.2.2.2.2.2.2.2.2.2.2.1 hS (v := Int32.ofInt 12) rfl hd h1
      · cases hk
    · cases hs
  · cases hs
theorem sl_79 {X : eX} {pc a b k : Nat} {v : Int} {tg : List Nat} {ls st : List eV} {n e : Nat} {p : Nat → Nat → Nat} {h : Nat → Nat → Int} : eSel ewK ewL ewT X pc (79, a, b, k, v, tg) ls st (n, e, p, h) = (match st with
    | .inl j :: .inr (.inl x) :: st => if x = 1000 ∧ 0 ≤ j ∧ j < X.1 then eNx (pc + 1) ls (vI (X.2 j.toNat) :: st)  (n, e, p, h) else none
    | _ => none) := rfl
theorem ck_79 {m i a b k : Nat} {v : Int} {tg : List Nat} : chk m i (79, a, b, k, v, tg) = (match ewD m i with
    | .ok (.iaload, 1) => nxt m i 1
    | _ => false) := rfl
set_option maxHeartbeats 1000000 in
theorem op_79 (C : eCx B K dA D p l s mI args meth c m) {pc a b k : Nat} {v : Int} {tg : List Nat} {ls st ls' st' : List eV} {n e0 : Nat} {pp : Nat → Nat → Nat} {hh : Nat → Nat → Int} {μ' : eM} {pc' : Nat} (hXK : eXK K X) (hk : chk m pc (79, a, b, k, v, tg) = true) (hw : eWf ls st (n, e0, pp, hh)) (hs : eSel ewK ewL ewT X pc (79, a, b, k, v, tg) ls st (n, e0, pp, hh) = some (.inl (pc', ls', st', μ'))) (kk : eVv B K dA D p l e R s mI args below meth c Q m (cells) (slots) pc' ls' st' μ') : eVv B K dA D p l e R s mI args below meth c Q m cells slots pc ls st (n, e0, pp, hh) := by
  obtain ⟨hx, hb, hr, hml, hown, hts, hlk, htb, hnm, hst, hB1, hK, hC⟩ := C
  rw [sl_79] at hs
  rw [ck_79] at hk
  split at hs
  next j x st2 =>
    have w1 : inR j := hw.2.1 _ List.mem_cons_self
    split at hs
    next hg =>
      obtain ⟨rfl, j0, j1⟩ := hg
      split at hk
      next hd =>
        obtain ⟨hX, hbl⟩ := hC.2.2.2.2.2.2.2.2.2.2.2.2.2.2.2.2.2.2.2.1
        rw [hXK.1] at hX
        simp only [hXK.2] at hX
        cases hs
        intro H locs lsA hR hS hL
        have h1 := kk H locs lsA hR hS hL
        rw [nx1 hk] at h1
        have h2 : W p l e R s mI args below meth c H locs cells slots Q (F0 mI (mPc m pc + 1) lsA (.int ((fun j => Int32.ofInt (X.2 j)) (Int32.ofInt j).toNatClampNeg) :: st2.map (cv B K))) := by
          rw [oI_clamp w1]
          exact h1
        show W p l e R s mI args below meth c H locs cells slots Q (F0 mI (mPc m pc) lsA (.int (Int32.ofInt j) :: rv B K 1000 :: st2.map (cv B K)))
        rw [rv_big (by omega)]
        exact va_sld hx hb hX (by omega) (fun h9 => by have := h9.1; omega) hS (oI_vp w1 j0 j1) hd h2
      · cases hk
    · cases hs
  · cases hs
theorem sl_81 {X : eX} {pc a b k : Nat} {v : Int} {tg : List Nat} {ls st : List eV} {n e : Nat} {p : Nat → Nat → Nat} {h : Nat → Nat → Int} : eSel ewK ewL ewT X pc (81, a, b, k, v, tg) ls st (n, e, p, h) = (match st with
    | .inr (.inl x) :: st => if x = 1000 then eNx (pc + 1) ls (vI X.1 :: st)  (n, e, p, h) else none
    | _ => none) := rfl
theorem ck_81 {m i a b k : Nat} {v : Int} {tg : List Nat} : chk m i (81, a, b, k, v, tg) = (match ewD m i with
    | .ok (.arraylength, 1) => nxt m i 1
    | _ => false) := rfl
set_option maxHeartbeats 1000000 in
theorem op_81 (C : eCx B K dA D p l s mI args meth c m) {pc a b k : Nat} {v : Int} {tg : List Nat} {ls st ls' st' : List eV} {n e0 : Nat} {pp : Nat → Nat → Nat} {hh : Nat → Nat → Int} {μ' : eM} {pc' : Nat} (hXK : eXK K X) (hk : chk m pc (81, a, b, k, v, tg) = true) (hw : eWf ls st (n, e0, pp, hh)) (hs : eSel ewK ewL ewT X pc (81, a, b, k, v, tg) ls st (n, e0, pp, hh) = some (.inl (pc', ls', st', μ'))) (kk : eVv B K dA D p l e R s mI args below meth c Q m (cells) (slots) pc' ls' st' μ') : eVv B K dA D p l e R s mI args below meth c Q m cells slots pc ls st (n, e0, pp, hh) := by
  obtain ⟨hx, hb, hr, hml, hown, hts, hlk, htb, hnm, hst, hB1, hK, hC⟩ := C
  rw [sl_81] at hs
  rw [ck_81] at hk
  split at hs
  next x st2 =>
    split at hs
    next hg =>
      subst hg
      split at hk
      next hd =>
        obtain ⟨hX, hbl⟩ := hC.2.2.2.2.2.2.2.2.2.2.2.2.2.2.2.2.2.2.2.1
        rw [hXK.1] at hX
        simp only [hXK.2] at hX
        cases hs
        intro H locs lsA hR hS hL
        have h1 := kk H locs lsA hR hS hL
        rw [nx1 hk] at h1
        show W p l e R s mI args below meth c H locs cells slots Q (F0 mI (mPc m pc) lsA (rv B K 1000 :: st2.map (cv B K)))
        rw [rv_big (by omega)]
        exact va_slen hx hb hX (by omega) (fun h9 => by have := h9.1; omega) hS hd h1
      · cases hk
    · cases hs
  · cases hs
theorem sl_54 {X : eX} {pc a b k : Nat} {v : Int} {tg : List Nat} {ls st : List eV} {n e : Nat} {p : Nat → Nat → Nat} {h : Nat → Nat → Int} : eSel ewK ewL ewT X pc (54, a, b, k, v, tg) ls st (n, e, p, h) = (match st with
    | .inr (.inl w) :: .inl j :: .inr (.inl x) :: st => if kn ewK n x = a ∧ 0 ≤ j ∧ j < ewL x ∧ kn ewK n w = b then eNx (pc + 1) ls st (n, e, up p x j.toNat w, h) else none
    | _ => none) := by rcases st with _ | ⟨(_ | _ | _ | _ | _ | _), (_ | ⟨(_ | _ | _ | _ | _ | _), (_ | ⟨(_ | _ | _ | _ | _ | _), _⟩)⟩)⟩ <;> rfl
theorem ck_54 {m i a b k : Nat} {v : Int} {tg : List Nat} : chk m i (54, a, b, k, v, tg) = (match ewD m i with
    | .ok (.aastore, 1) => nxt m i 1 && decide ((a = 30 ∧ b = 10) ∨ (a = 31 ∧ b = 8) ∨ (a = 32 ∧ b = 11))
    | _ => false) := rfl
set_option maxHeartbeats 1000000 in
theorem op_54 (C : eCx B K dA D p l s mI args meth c m) {pc a b k : Nat} {v : Int} {tg : List Nat} {ls st ls' st' : List eV} {n e0 : Nat} {pp : Nat → Nat → Nat} {hh : Nat → Nat → Int} {μ' : eM} {pc' : Nat} (hns : ¬ m = m_L_sounds) (hk : chk m pc (54, a, b, k, v, tg) = true) (hw : eWf ls st (n, e0, pp, hh)) (hs : eSel ewK ewL ewT X pc (54, a, b, k, v, tg) ls st (n, e0, pp, hh) = some (.inl (pc', ls', st', μ'))) (kk : eVv B K dA D p l e R s mI args below meth c Q m (cells) (slots) pc' ls' st' μ') : eVv B K dA D p l e R s mI args below meth c Q m cells slots pc ls st (n, e0, pp, hh) := by
  obtain ⟨hx, hb, hr, hml, hown, hts, hlk, htb, hnm, hst, hB1, hK, hC⟩ := C
  rw [sl_54] at hs
  rw [ck_54] at hk
  split at hs
  next w j x st2 =>
    have w1 : inR j := hw.2.1 _ (List.mem_cons_of_mem _ List.mem_cons_self)
    split at hs
    next hg =>
      obtain ⟨hkn, j0, j1, hkw⟩ := hg
      split at hk
      next hd =>
        simp only [Bool.and_eq_true, decide_eq_true_eq] at hk
        obtain ⟨hn, hab⟩ := hk
        obtain ⟨x1, x2, x3, x4⟩ := kn_of (by omega) hkn
        obtain ⟨y1, y2, y3, y4⟩ := kn_of (by omega) hkw
        have hbk : b ∈ eKs := by
          rcases hab with ⟨-, rfl⟩ | ⟨-, rfl⟩ | ⟨-, rfl⟩ <;> decide
        cases hs
        intro H locs lsA hR hS hL
        have he := eWs_at B K dA (n := n) (p := pp) (h := hh) x1 x2
        rw [eCe_arr (a := a) (by omega) x4] at he
        have hArr : ∀ f : Nat → Nat, eAr B K a (ewL x) f (hh x) = (ewL x, .inr (.inr (.inr (.inr fun j => rvo B K (f j))))) := by
          intro f
          unfold eAr
          rw [if_neg (by omega), if_neg (by omega), if_neg (by omega)]
        rw [hArr] at he
        have hyw := eWs_at B K dA (n := n) (p := pp) (h := hh) y1 y2
        rw [eCe_obj hbk y4] at hyw
        have hrc := va_recv hK hR (eCl_at b hbk) hyw
        have hset : (eWs B K dA n pp hh).set (x - 1) (B + x, .inl (dA a, ewL x, .inr (.inr (.inr (.inr (va_up (fun j => rvo B K (pp x j)) (Int32.ofInt j).toNatClampNeg (some (B + w)))))))) = eWs B K dA n (up pp x j.toNat w) hh := by
          refine eWs_set B K dA x1 x2 (fun q hq => ⟨?_, rfl⟩) ?_
          · funext i; unfold up; rw [if_neg (fun z => hq z.1)]
          · rw [eCe_arr (a := a) (by omega) x4, hArr, oI_clamp w1]
            congr 7
            funext i
            unfold va_up up
            by_cases hi : i = j.toNat
            · rw [if_pos ⟨rfl, hi⟩, if_pos hi]
              unfold rvo
              rw [if_neg (by omega), if_pos y3]
            · rw [if_neg (fun z => hi z.2), if_neg hi]
        have hpc : ∀ (H1 : Heap) (locs1 : List Loc), va_P D eCl ((eWs B K dA n pp hh).set (x - 1) (B + x, .inl (dA a, ewL x, .inr (.inr (.inr (.inr (va_up (fun j => rvo B K (pp x j)) (Int32.ofInt j).toNatClampNeg (some (B + w))))))))) H1 → va_D (eAd B) ((eWs B K dA n pp hh).set (x - 1) (B + x, .inl (dA a, ewL x, .inr (.inr (.inr (.inr (va_up (fun j => rvo B K (pp x j)) (Int32.ofInt j).toNatClampNeg (some (B + w))))))))) → va_S (eAd B) s.heap H1 locs1 → W p l e R s mI args below meth c H1 locs1 cells slots Q (F0 mI (mPc m pc + 1) lsA (List.map (cv B K) st')) := by
          intro H1 locs1 hP1 _ hS1
          rw [hset] at hP1
          have h1 := kk H1 locs1 lsA hP1 hS1 (hL.mv B K hns)
          rw [nx1 hn] at h1
          exact h1
        show W p l e R s mI args below meth c H locs cells slots Q (F0 mI (mPc m pc) lsA (rv B K w :: .int (Int32.ofInt j) :: rv B K x :: List.map (cv B K) _))
        rw [rv_cell x1 x3, rv_cell y1 y3]
        rcases hab with ⟨rfl, rfl⟩ | ⟨rfl, rfl⟩ | ⟨rfl, rfl⟩
        · exact vb_astq (E := "EchoWells$Well") (C := "EchoWells$Well") hx hb hK hR (eWs_D B K dA pp hh hw.2.2.2) hS (x - 1) 3 he rfl hrc (fun c1 c2 => vb_asgS c1 c2) (oI_vp w1 j0 j1) hd hpc
        · exact vb_astq (E := "EchoWells$Rope") (C := "EchoWells$Rope") hx hb hK hR (eWs_D B K dA pp hh hw.2.2.2) hS (x - 1) 4 he rfl hrc (fun c1 c2 => vb_asgS c1 c2) (oI_vp w1 j0 j1) hd hpc
        · exact vb_astq (E := "EchoWells$World") (C := "EchoWells$World") hx hb hK hR (eWs_D B K dA pp hh hw.2.2.2) hS (x - 1) 5 he rfl hrc (fun c1 c2 => vb_asgS c1 c2) (oI_vp w1 j0 j1) hd hpc
      · cases hk
    · cases hs
  · cases hs
theorem sl_73 {X : eX} {pc a b k : Nat} {v : Int} {tg : List Nat} {ls st : List eV} {n e : Nat} {p : Nat → Nat → Nat} {h : Nat → Nat → Int} : eSel ewK ewL ewT X pc (73, a, b, k, v, tg) ls st (n, e, p, h) = (match st with
    | .inr (.inl x) :: st => if (st.map eWt).sum ≤ 8 then (if 1010 ≤ x ∧ x < 1022 then eNx (pc + 1) ls (vI ((x : Int) - 1010) :: st)  (n, e, p, h) else none) else none
    | _ => none) := rfl
theorem ck_73 {m i a b k : Nat} {v : Int} {tg : List Nat} : chk m i (73, a, b, k, v, tg) = (match ewD m i with
    | .ok (.invokevirtual idx, 3) => nxt m i 3 && decide (1 ≤ mLv m) && decide (wd k = some (.methodLink (mNm m).cls idx ⟨"EchoWells$Order", "ordinal", "()I"⟩))
    | _ => false) := rfl
theorem sl_75 {X : eX} {pc a b k : Nat} {v : Int} {tg : List Nat} {ls st : List eV} {n e : Nat} {p : Nat → Nat → Nat} {h : Nat → Nat → Int} : eSel ewK ewL ewT X pc (75, a, b, k, v, tg) ls st (n, e, p, h) = (match st with
    | .inr (.inl x) :: st => if (st.map eWt).sum ≤ 8 then (if 1100 ≤ x ∧ x < 1141 then eNx (pc + 1) ls (vI ((ewT (x - 1100)).length) :: st)  (n, e, p, h) else none) else none
    | _ => none) := rfl
theorem ck_75 {m i a b k : Nat} {v : Int} {tg : List Nat} : chk m i (75, a, b, k, v, tg) = (match ewD m i with
    | .ok (.invokevirtual idx, 3) => nxt m i 3 && decide (4 ≤ mLv m) && decide (wd k = some (.methodLink (mNm m).cls idx ⟨"java/lang/String", "length", "()I"⟩))
    | _ => false) := rfl
theorem sl_76 {X : eX} {pc a b k : Nat} {v : Int} {tg : List Nat} {ls st : List eV} {n e : Nat} {p : Nat → Nat → Nat} {h : Nat → Nat → Int} : eSel ewK ewL ewT X pc (76, a, b, k, v, tg) ls st (n, e, p, h) = (match st with
    | .inl j :: .inr (.inl x) :: st => if (st.map eWt).sum ≤ 8 then (if 1100 ≤ x ∧ x < 1141 ∧ 0 ≤ j ∧ j < (ewT (x - 1100)).length then eNx (pc + 1) ls (vI ((ewT (x - 1100)).getD j.toNat 0) :: st)  (n, e, p, h) else none) else none
    | _ => none) := rfl
theorem ck_76 {m i a b k : Nat} {v : Int} {tg : List Nat} : chk m i (76, a, b, k, v, tg) = (match ewD m i with
    | .ok (.invokevirtual idx, 3) => nxt m i 3 && decide (4 ≤ mLv m) && decide (wd k = some (.methodLink (mNm m).cls idx ⟨"java/lang/String", "charAt", "(I)C"⟩))
    | _ => false) := rfl
set_option maxHeartbeats 1000000 in
theorem wf_30 {m pc a b k : Nat} {v : Int} {tg : List Nat} {ls st ls' st' : List eV} {n e0 : Nat} {pp : Nat → Nat → Nat} {hh : Nat → Nat → Int} {μ' : eM} {pc' : Nat} (hk : chk m pc (30, a, b, k, v, tg) = true) (hw : eWf ls st (n, e0, pp, hh)) (hs : eSel ewK ewL ewT X pc (30, a, b, k, v, tg) ls st (n, e0, pp, hh) = some (.inl (pc', ls', st', μ'))) : eWf ls' st' μ' ∧ μ'.1 = n ∧ μ'.2.1 = e0 := by
  obtain ⟨h1, h2, h3, h4⟩ := hw
  dsimp only at h3 h4
  rw [sl_30] at hs
  repeat' split at hs
  all_goals first | (cases hs; done) | cases hs
  all_goals try simp only [List.forall_mem_cons] at h2
  all_goals exact ⟨⟨h1, by first | exact h2 | exact h2.2 | exact h2.2.2 | exact h2.2.2.2 | exact List.forall_mem_cons.mpr ⟨trivial, h2⟩ | exact List.forall_mem_cons.mpr ⟨trivial, h2.2⟩ | exact List.forall_mem_cons.mpr ⟨trivial, h2.2.2⟩, h3, h4⟩, rfl, rfl⟩
set_option maxHeartbeats 1000000 in
theorem wf_77 {m pc a b k : Nat} {v : Int} {tg : List Nat} {ls st ls' st' : List eV} {n e0 : Nat} {pp : Nat → Nat → Nat} {hh : Nat → Nat → Int} {μ' : eM} {pc' : Nat} (hk : chk m pc (77, a, b, k, v, tg) = true) (hw : eWf ls st (n, e0, pp, hh)) (hs : eSel ewK ewL ewT X pc (77, a, b, k, v, tg) ls st (n, e0, pp, hh) = some (.inl (pc', ls', st', μ'))) : eWf ls' st' μ' ∧ μ'.1 = n ∧ μ'.2.1 = e0 := by
  obtain ⟨h1, h2, h3, h4⟩ := hw
  dsimp only at h3 h4
  rw [sl_77] at hs
  repeat' split at hs
  all_goals first | (cases hs; done) | cases hs
  all_goals try simp only [List.forall_mem_cons] at h2
  all_goals exact ⟨⟨h1, by first | exact h2 | exact h2.2 | exact h2.2.2 | exact h2.2.2.2 | exact List.forall_mem_cons.mpr ⟨trivial, h2⟩ | exact List.forall_mem_cons.mpr ⟨trivial, h2.2⟩ | exact List.forall_mem_cons.mpr ⟨trivial, h2.2.2⟩, h3, h4⟩, rfl, rfl⟩
set_option maxHeartbeats 1000000 in
theorem wf_78 {m pc a b k : Nat} {v : Int} {tg : List Nat} {ls st ls' st' : List eV} {n e0 : Nat} {pp : Nat → Nat → Nat} {hh : Nat → Nat → Int} {μ' : eM} {pc' : Nat} (hk : chk m pc (78, a, b, k, v, tg) = true) (hw : eWf ls st (n, e0, pp, hh)) (hs : eSel ewK ewL ewT X pc (78, a, b, k, v, tg) ls st (n, e0, pp, hh) = some (.inl (pc', ls', st', μ'))) : eWf ls' st' μ' ∧ μ'.1 = n ∧ μ'.2.1 = e0 := by
  obtain ⟨h1, h2, h3, h4⟩ := hw
  dsimp only at h3 h4
  rw [sl_78] at hs
  repeat' split at hs
  all_goals first | (cases hs; done) | cases hs
  all_goals try simp only [List.forall_mem_cons] at h2
  all_goals exact ⟨⟨h1, by first | exact h2 | exact h2.2 | exact h2.2.2 | exact h2.2.2.2 | exact List.forall_mem_cons.mpr ⟨trivial, h2⟩ | exact List.forall_mem_cons.mpr ⟨trivial, h2.2⟩ | exact List.forall_mem_cons.mpr ⟨trivial, h2.2.2⟩, h3, h4⟩, rfl, rfl⟩
set_option maxHeartbeats 1000000 in
theorem wf_54 {m pc a b k : Nat} {v : Int} {tg : List Nat} {ls st ls' st' : List eV} {n e0 : Nat} {pp : Nat → Nat → Nat} {hh : Nat → Nat → Int} {μ' : eM} {pc' : Nat} (hk : chk m pc (54, a, b, k, v, tg) = true) (hw : eWf ls st (n, e0, pp, hh)) (hs : eSel ewK ewL ewT X pc (54, a, b, k, v, tg) ls st (n, e0, pp, hh) = some (.inl (pc', ls', st', μ'))) : eWf ls' st' μ' ∧ μ'.1 = n ∧ μ'.2.1 = e0 := by
  obtain ⟨h1, h2, h3, h4⟩ := hw
  dsimp only at h3 h4
  rw [sl_54] at hs
  repeat' split at hs
  all_goals first | (cases hs; done) | cases hs
  all_goals try simp only [List.forall_mem_cons] at h2
  all_goals exact ⟨⟨h1, by first | exact h2 | exact h2.2 | exact h2.2.2 | exact h2.2.2.2 | exact List.forall_mem_cons.mpr ⟨trivial, h2⟩ | exact List.forall_mem_cons.mpr ⟨trivial, h2.2⟩ | exact List.forall_mem_cons.mpr ⟨trivial, h2.2.2⟩, h3, h4⟩, rfl, rfl⟩
set_option maxHeartbeats 1000000 in
theorem wf_74 {m pc a b k : Nat} {v : Int} {tg : List Nat} {ls st ls' st' : List eV} {n e0 : Nat} {pp : Nat → Nat → Nat} {hh : Nat → Nat → Int} {μ' : eM} {pc' : Nat} (hk : chk m pc (74, a, b, k, v, tg) = true) (hw : eWf ls st (n, e0, pp, hh)) (hs : eSel ewK ewL ewT X pc (74, a, b, k, v, tg) ls st (n, e0, pp, hh) = some (.inl (pc', ls', st', μ'))) : eWf ls' st' μ' ∧ μ'.1 = n ∧ μ'.2.1 = e0 := by
  obtain ⟨h1, h2, h3, h4⟩ := hw
  dsimp only at h3 h4
  rw [sl_74] at hs
  repeat' split at hs
  all_goals first | (cases hs; done) | cases hs
  all_goals try simp only [List.forall_mem_cons] at h2
  all_goals exact ⟨⟨h1, by first | exact h2 | exact h2.2 | exact h2.2.2 | exact h2.2.2.2 | exact List.forall_mem_cons.mpr ⟨(by show inR _; unfold inR; omega), h2⟩ | exact List.forall_mem_cons.mpr ⟨(by show inR _; unfold inR; omega), h2.2⟩ | exact List.forall_mem_cons.mpr ⟨(by show inR _; unfold inR; omega), h2.2.2⟩, h3, h4⟩, rfl, rfl⟩
set_option maxHeartbeats 1000000 in
theorem wf_73 {m pc a b k : Nat} {v : Int} {tg : List Nat} {ls st ls' st' : List eV} {n e0 : Nat} {pp : Nat → Nat → Nat} {hh : Nat → Nat → Int} {μ' : eM} {pc' : Nat} (hk : chk m pc (73, a, b, k, v, tg) = true) (hw : eWf ls st (n, e0, pp, hh)) (hs : eSel ewK ewL ewT X pc (73, a, b, k, v, tg) ls st (n, e0, pp, hh) = some (.inl (pc', ls', st', μ'))) : eWf ls' st' μ' ∧ μ'.1 = n ∧ μ'.2.1 = e0 := by
  obtain ⟨h1, h2, h3, h4⟩ := hw
  dsimp only at h3 h4
  rw [sl_73] at hs
  repeat' split at hs
  all_goals first | (cases hs; done) | cases hs
  all_goals try simp only [List.forall_mem_cons] at h2
  all_goals exact ⟨⟨h1, by first | exact h2 | exact h2.2 | exact h2.2.2 | exact h2.2.2.2 | exact List.forall_mem_cons.mpr ⟨(by show inR _; unfold inR; omega), h2⟩ | exact List.forall_mem_cons.mpr ⟨(by show inR _; unfold inR; omega), h2.2⟩ | exact List.forall_mem_cons.mpr ⟨(by show inR _; unfold inR; omega), h2.2.2⟩, h3, h4⟩, rfl, rfl⟩
set_option maxHeartbeats 1000000 in
theorem wf_80 {m pc a b k : Nat} {v : Int} {tg : List Nat} {ls st ls' st' : List eV} {n e0 : Nat} {pp : Nat → Nat → Nat} {hh : Nat → Nat → Int} {μ' : eM} {pc' : Nat} (hk : chk m pc (80, a, b, k, v, tg) = true) (hw : eWf ls st (n, e0, pp, hh)) (hs : eSel ewK ewL ewT X pc (80, a, b, k, v, tg) ls st (n, e0, pp, hh) = some (.inl (pc', ls', st', μ'))) : eWf ls' st' μ' ∧ μ'.1 = n ∧ μ'.2.1 = e0 := by
  obtain ⟨h1, h2, h3, h4⟩ := hw
  dsimp only at h3 h4
  rw [sl_80] at hs
  repeat' split at hs
  all_goals first | (cases hs; done) | cases hs
  all_goals try simp only [List.forall_mem_cons] at h2
  all_goals exact ⟨⟨h1, by first | exact h2 | exact h2.2 | exact h2.2.2 | exact h2.2.2.2 | exact List.forall_mem_cons.mpr ⟨(by show inR _; unfold inR; omega), h2⟩ | exact List.forall_mem_cons.mpr ⟨(by show inR _; unfold inR; omega), h2.2⟩ | exact List.forall_mem_cons.mpr ⟨(by show inR _; unfold inR; omega), h2.2.2⟩, h3, h4⟩, rfl, rfl⟩
set_option maxHeartbeats 1000000 in
theorem wf_75 {m pc a b k : Nat} {v : Int} {tg : List Nat} {ls st ls' st' : List eV} {n e0 : Nat} {pp : Nat → Nat → Nat} {hh : Nat → Nat → Int} {μ' : eM} {pc' : Nat} (hk : chk m pc (75, a, b, k, v, tg) = true) (hw : eWf ls st (n, e0, pp, hh)) (hs : eSel ewK ewL ewT X pc (75, a, b, k, v, tg) ls st (n, e0, pp, hh) = some (.inl (pc', ls', st', μ'))) : eWf ls' st' μ' ∧ μ'.1 = n ∧ μ'.2.1 = e0 := by
  obtain ⟨h1, h2, h3, h4⟩ := hw
  dsimp only at h3 h4
  rw [sl_75] at hs
  repeat' split at hs
  all_goals first | (cases hs; done) | cases hs
  all_goals try simp only [List.forall_mem_cons] at h2
  all_goals exact ⟨⟨h1, by first | exact h2 | exact h2.2 | exact h2.2.2 | exact h2.2.2.2 | exact List.forall_mem_cons.mpr ⟨ewT_l _, h2⟩ | exact List.forall_mem_cons.mpr ⟨ewT_l _, h2.2⟩ | exact List.forall_mem_cons.mpr ⟨ewT_l _, h2.2.2⟩, h3, h4⟩, rfl, rfl⟩
set_option maxHeartbeats 1000000 in
theorem wf_76 {m pc a b k : Nat} {v : Int} {tg : List Nat} {ls st ls' st' : List eV} {n e0 : Nat} {pp : Nat → Nat → Nat} {hh : Nat → Nat → Int} {μ' : eM} {pc' : Nat} (hk : chk m pc (76, a, b, k, v, tg) = true) (hw : eWf ls st (n, e0, pp, hh)) (hs : eSel ewK ewL ewT X pc (76, a, b, k, v, tg) ls st (n, e0, pp, hh) = some (.inl (pc', ls', st', μ'))) : eWf ls' st' μ' ∧ μ'.1 = n ∧ μ'.2.1 = e0 := by
  obtain ⟨h1, h2, h3, h4⟩ := hw
  dsimp only at h3 h4
  rw [sl_76] at hs
  repeat' split at hs
  all_goals first | (cases hs; done) | cases hs
  all_goals try simp only [List.forall_mem_cons] at h2
  all_goals exact ⟨⟨h1, by first | exact h2 | exact h2.2 | exact h2.2.2 | exact h2.2.2.2 | exact List.forall_mem_cons.mpr ⟨ewT_g _ _, h2⟩ | exact List.forall_mem_cons.mpr ⟨ewT_g _ _, h2.2⟩ | exact List.forall_mem_cons.mpr ⟨ewT_g _ _, h2.2.2⟩, h3, h4⟩, rfl, rfl⟩
set_option maxHeartbeats 1000000 in
theorem wf_79 {m pc a b k : Nat} {v : Int} {tg : List Nat} {ls st ls' st' : List eV} {n e0 : Nat} {pp : Nat → Nat → Nat} {hh : Nat → Nat → Int} {μ' : eM} {pc' : Nat} (hX : ∀ j, inR (X.2 j)) (hk : chk m pc (79, a, b, k, v, tg) = true) (hw : eWf ls st (n, e0, pp, hh)) (hs : eSel ewK ewL ewT X pc (79, a, b, k, v, tg) ls st (n, e0, pp, hh) = some (.inl (pc', ls', st', μ'))) : eWf ls' st' μ' ∧ μ'.1 = n ∧ μ'.2.1 = e0 := by
  obtain ⟨h1, h2, h3, h4⟩ := hw
  dsimp only at h3 h4
  rw [sl_79] at hs
  repeat' split at hs
  all_goals first | (cases hs; done) | cases hs
  all_goals try simp only [List.forall_mem_cons] at h2
  all_goals exact ⟨⟨h1, by first | exact h2 | exact h2.2 | exact h2.2.2 | exact h2.2.2.2 | exact List.forall_mem_cons.mpr ⟨(hX _), h2⟩ | exact List.forall_mem_cons.mpr ⟨(hX _), h2.2⟩ | exact List.forall_mem_cons.mpr ⟨(hX _), h2.2.2⟩, h3, h4⟩, rfl, rfl⟩
set_option maxHeartbeats 1000000 in
theorem wf_81 {m pc a b k : Nat} {v : Int} {tg : List Nat} {ls st ls' st' : List eV} {n e0 : Nat} {pp : Nat → Nat → Nat} {hh : Nat → Nat → Int} {μ' : eM} {pc' : Nat} (hX : X.1 < 2147483648) (hk : chk m pc (81, a, b, k, v, tg) = true) (hw : eWf ls st (n, e0, pp, hh)) (hs : eSel ewK ewL ewT X pc (81, a, b, k, v, tg) ls st (n, e0, pp, hh) = some (.inl (pc', ls', st', μ'))) : eWf ls' st' μ' ∧ μ'.1 = n ∧ μ'.2.1 = e0 := by
  obtain ⟨h1, h2, h3, h4⟩ := hw
  dsimp only at h3 h4
  rw [sl_81] at hs
  repeat' split at hs
  all_goals first | (cases hs; done) | cases hs
  all_goals try simp only [List.forall_mem_cons] at h2
  all_goals exact ⟨⟨h1, by first | exact h2 | exact h2.2 | exact h2.2.2 | exact h2.2.2.2 | exact List.forall_mem_cons.mpr ⟨(by show inR _; unfold inR; omega), h2⟩ | exact List.forall_mem_cons.mpr ⟨(by show inR _; unfold inR; omega), h2.2⟩ | exact List.forall_mem_cons.mpr ⟨(by show inR _; unfold inR; omega), h2.2.2⟩, h3, h4⟩, rfl, rfl⟩
end
