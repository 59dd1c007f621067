/-! the instructions that read, write and make cells -/
theorem eCl_i4 : ∀ k ∈ eKs, ∀ w ∈ u_ws (eRc k) (eT k) (eN k), w ∈ ewL4 := fun k hk w hw => in4 (eCl_in k hk w hw) (by rw [eCl_gd k hk w hw]; rfl)
theorem eKs_lt : ∀ k ∈ eKs, ¬ k = 0 ∧ k < 20 := by decide +kernel
theorem lkF {m j idx kd sl : Nat} (h : ewLkF m j idx kd sl = true) : kd ∈ eKs ∧ sl < eN kd ∧ ((eT kd) sl).1 = eRc kd ∧ ((Cond.fieldLink (mNm m).cls idx (eRc kd) ((eT kd) sl).2.1 ((eT kd) sl).2.2.1) ∈ ewL4 ∨ (Cond.fieldLinkNest (mNm m).cls idx (eRc kd) ((eT kd) sl).2.1 ((eT kd) sl).2.2.1 "EchoWells") ∈ ewL4) := by
  unfold ewLkF at h
  simp only [Bool.and_eq_true, Bool.or_eq_true, decide_eq_true_eq] at h
  obtain ⟨⟨⟨h1, h2⟩, h3⟩, h4⟩ := h
  exact ⟨h1, h2, h3, h4.imp (fun q => in4 (wd_mem q) rfl) (fun q => in4 (wd_mem q) rfl)⟩
theorem eCe_obj {B : Nat} {K : Nat → Nat} {dA : Nat → ClassId} {p : Nat → Nat → Nat} {h : Nat → Nat → Int} {x a : Nat} (ha : a ∈ eKs) (hx : ewK x = a) : eCe B K dA p h x = .inr (eIx a, (List.range (eN a)).map (eFv B K a (p x) (h x))) := by
  unfold eCe eRw
  rw [hx, if_pos (eKs_lt a ha).2]
theorem eCe_arr {B : Nat} {K : Nat → Nat} {dA : Nat → ClassId} {p : Nat → Nat → Nat} {h : Nat → Nat → Int} {x a : Nat} (ha : 20 ≤ a) (hx : ewK x = a) : eCe B K dA p h x = .inl (dA a, eAr B K a (ewL x) (p x) (h x)) := by
  unfold eCe eRw
  rw [hx, if_neg (by omega)]
section
variable {B : Nat} {K : Nat → Nat} {dA : Nat → ClassId} {D : va_G} {X : eX}
variable {p : Program} {l : Launch} {e : Env} {R : Room} {s : State} {mI : MethodId} {args : Array Value} {below : List Frame} {meth : Method} {c : Code} {cells slots : Nat} {Q : State → Prop} {m : Nat}
theorem sl_4 {X : eX} {pc a b k : Nat} {v : Int} {tg : List Nat} {ls st : List eV} {n e : Nat} {p : Nat → Nat → Nat} {h : Nat → Nat → Int} : eSel ewK ewL ewT X pc (4, a, b, k, v, tg) ls st (n, e, p, h) = (match st with
    | .inr (.inl x) :: st => if kn ewK n x = a then eNx (pc + 1) ls (vI (h x b) :: st) (n, e, p, h) else none
    | _ => none) := by rcases st with _ | ⟨(_ | _ | _ | _ | _ | _), _⟩ <;> rfl
theorem ck_4 {m i a b k : Nat} {v : Int} {tg : List Nat} : chk m i (4, a, b, k, v, tg) = (match ewD m i with
    | .ok (.getfield idx, 3) => nxt m i 3 && ewLkF m k idx a b && decide (eFt (eTy a b) = 0)
    | _ => false) := rfl
set_option maxHeartbeats 1000000 in
theorem op_4 (C : eCx B K dA D p l s mI args meth c m) {pc a b k : Nat} {v : Int} {tg : List Nat} {ls st ls' st' : List eV} {n e0 : Nat} {pp : Nat → Nat → Nat} {hh : Nat → Nat → Int} {μ' : eM} {pc' : Nat} (hk : chk m pc (4, a, b, k, v, tg) = true) (hw : eWf ls st (n, e0, pp, hh)) (hs : eSel ewK ewL ewT X pc (4, a, b, k, v, tg) ls st (n, e0, pp, hh) = some (.inl (pc', ls', st', μ'))) (kk : eVv B K dA D p l e R s mI args below meth c Q m cells slots pc' ls' st' μ') : eVv B K dA D p l e R s mI args below meth c Q m cells slots pc ls st (n, e0, pp, hh) := by
  obtain ⟨hx, hb, hr, hml, hown, hts, hlk, htb, hnm, hst, hB1, hK, hC⟩ := C
  rw [sl_4] at hs
  rw [ck_4] at hk
  split at hs
  next x st2 =>
    split at hs
    next hkn =>
      split at hk
      next idx hd =>
        simp only [Bool.and_eq_true, decide_eq_true_eq] at hk
        obtain ⟨⟨hn, hlf⟩, hft⟩ := hk
        obtain ⟨hkd, hsl, hcl, hlink⟩ := lkF hlf
        obtain ⟨x1, x2, x3, x4⟩ := kn_of (eKs_lt a hkd).1 hkn
        cases hs
        intro H locs lsA hR hS hL
        have h1 := kk H locs lsA hR hS hL
        rw [nx1 hn] at h1
        have he := eWs_at B K dA (n := n) (p := pp) (h := hh) x1 x2
        rw [eCe_obj hkd x4] at he
        have hv : eFv B K a (pp x) (hh x) b = .int (Int32.ofInt (hh x b)) := by unfold eFv; rw [hft]; rfl
        show W p l e R s mI args below meth c H locs cells slots Q (F0 mI (mPc m pc) lsA (rv B K x :: List.map (cv B K) _))
        rw [rv_cell x1 x3]
        rcases hlink with hlink | hlink
        · exact va_get (v := .int (Int32.ofInt (hh x b))) hx hb hts (eCl_i4 a hkd) hown hK hR (x - 1) he (eCl_at a hkd) b hsl (hts _ hlink) (fun _ h9 => by rw [hcl] at h9; exact h9) (by rw [eMap_at a _ hsl, hv]) hd h1
        · exact va_getN (v := .int (Int32.ofInt (hh x b))) hx hb hts (eCl_i4 a hkd) hown hK hR (x - 1) he (eCl_at a hkd) b hsl (hts _ hlink) (fun _ h9 => by rw [hcl] at h9; exact h9) (by rw [eMap_at a _ hsl, hv]) hd h1
      · cases hk
    · cases hs
  · cases hs
theorem sl_5 {X : eX} {pc a b k : Nat} {v : Int} {tg : List Nat} {ls st : List eV} {n e : Nat} {p : Nat → Nat → Nat} {h : Nat → Nat → Int} : eSel ewK ewL ewT X pc (5, a, b, k, v, tg) ls st (n, e, p, h) = (match st with
    | .inr (.inl x) :: st => if kn ewK n x = a then eNx (pc + 1) ls (vR (p x b) :: st) (n, e, p, h) else none
    | _ => none) := by rcases st with _ | ⟨(_ | _ | _ | _ | _ | _), _⟩ <;> rfl
theorem ck_5 {m i a b k : Nat} {v : Int} {tg : List Nat} : chk m i (5, a, b, k, v, tg) = (match ewD m i with
    | .ok (.getfield idx, 3) => nxt m i 3 && ewLkF m k idx a b && decide (eFt (eTy a b) = 1)
    | _ => false) := rfl
set_option maxHeartbeats 1000000 in
theorem op_5 (C : eCx B K dA D p l s mI args meth c m) {pc a b k : Nat} {v : Int} {tg : List Nat} {ls st ls' st' : List eV} {n e0 : Nat} {pp : Nat → Nat → Nat} {hh : Nat → Nat → Int} {μ' : eM} {pc' : Nat} (hk : chk m pc (5, a, b, k, v, tg) = true) (hw : eWf ls st (n, e0, pp, hh)) (hs : eSel ewK ewL ewT X pc (5, a, b, k, v, tg) ls st (n, e0, pp, hh) = some (.inl (pc', ls', st', μ'))) (kk : eVv B K dA D p l e R s mI args below meth c Q m cells slots pc' ls' st' μ') : eVv B K dA D p l e R s mI args below meth c Q m cells slots pc ls st (n, e0, pp, hh) := by
  obtain ⟨hx, hb, hr, hml, hown, hts, hlk, htb, hnm, hst, hB1, hK, hC⟩ := C
  rw [sl_5] at hs
  rw [ck_5] at hk
  split at hs
  next x st2 =>
    split at hs
    next hkn =>
      split at hk
      next idx hd =>
        simp only [Bool.and_eq_true, decide_eq_true_eq] at hk
        obtain ⟨⟨hn, hlf⟩, hft⟩ := hk
        obtain ⟨hkd, hsl, hcl, hlink⟩ := lkF hlf
        obtain ⟨x1, x2, x3, x4⟩ := kn_of (eKs_lt a hkd).1 hkn
        cases hs
        intro H locs lsA hR hS hL
        have h1 := kk H locs lsA hR hS hL
        rw [nx1 hn] at h1
        have he := eWs_at B K dA (n := n) (p := pp) (h := hh) x1 x2
        rw [eCe_obj hkd x4] at he
        have hv : eFv B K a (pp x) (hh x) b = rv B K (pp x b) := by unfold eFv; rw [hft]; rfl
        show W p l e R s mI args below meth c H locs cells slots Q (F0 mI (mPc m pc) lsA (rv B K x :: List.map (cv B K) _))
        rw [rv_cell x1 x3]
        rcases hlink with hlink | hlink
        · exact va_get (v := rv B K (pp x b)) hx hb hts (eCl_i4 a hkd) hown hK hR (x - 1) he (eCl_at a hkd) b hsl (hts _ hlink) (fun _ h9 => by rw [hcl] at h9; exact h9) (by rw [eMap_at a _ hsl, hv]) hd h1
        · exact va_getN (v := rv B K (pp x b)) hx hb hts (eCl_i4 a hkd) hown hK hR (x - 1) he (eCl_at a hkd) b hsl (hts _ hlink) (fun _ h9 => by rw [hcl] at h9; exact h9) (by rw [eMap_at a _ hsl, hv]) hd h1
      · cases hk
    · cases hs
  · cases hs
theorem sl_68 {X : eX} {pc a b k : Nat} {v : Int} {tg : List Nat} {ls st : List eV} {n e : Nat} {p : Nat → Nat → Nat} {h : Nat → Nat → Int} : eSel ewK ewL ewT X pc (68, a, b, k, v, tg) ls st (n, e, p, h) = (match st with
    | .inr (.inl x) :: st => if kn ewK n x = a then eNx (pc + 1) ls (vR (h x b).toNat :: st) (n, e, p, h) else none
    | _ => none) := by rcases st with _ | ⟨(_ | _ | _ | _ | _ | _), _⟩ <;> rfl
theorem ck_68 {m i a b k : Nat} {v : Int} {tg : List Nat} : chk m i (68, a, b, k, v, tg) = (match ewD m i with
    | .ok (.getfield idx, 3) => nxt m i 3 && ewLkF m k idx a b && decide (eFt (eTy a b) = 2)
    | _ => false) := rfl
set_option maxHeartbeats 1000000 in
theorem op_68 (C : eCx B K dA D p l s mI args meth c m) {pc a b k : Nat} {v : Int} {tg : List Nat} {ls st ls' st' : List eV} {n e0 : Nat} {pp : Nat → Nat → Nat} {hh : Nat → Nat → Int} {μ' : eM} {pc' : Nat} (hk : chk m pc (68, a, b, k, v, tg) = true) (hw : eWf ls st (n, e0, pp, hh)) (hs : eSel ewK ewL ewT X pc (68, a, b, k, v, tg) ls st (n, e0, pp, hh) = some (.inl (pc', ls', st', μ'))) (kk : eVv B K dA D p l e R s mI args below meth c Q m cells slots pc' ls' st' μ') : eVv B K dA D p l e R s mI args below meth c Q m cells slots pc ls st (n, e0, pp, hh) := by
  obtain ⟨hx, hb, hr, hml, hown, hts, hlk, htb, hnm, hst, hB1, hK, hC⟩ := C
  rw [sl_68] at hs
  rw [ck_68] at hk
  split at hs
  next x st2 =>
    split at hs
    next hkn =>
      split at hk
      next idx hd =>
        simp only [Bool.and_eq_true, decide_eq_true_eq] at hk
        obtain ⟨⟨hn, hlf⟩, hft⟩ := hk
        obtain ⟨hkd, hsl, hcl, hlink⟩ := lkF hlf
        obtain ⟨x1, x2, x3, x4⟩ := kn_of (eKs_lt a hkd).1 hkn
        cases hs
        intro H locs lsA hR hS hL
        have h1 := kk H locs lsA hR hS hL
        rw [nx1 hn] at h1
        have he := eWs_at B K dA (n := n) (p := pp) (h := hh) x1 x2
        rw [eCe_obj hkd x4] at he
        have hv : eFv B K a (pp x) (hh x) b = rv B K (hh x b).toNat := by unfold eFv; rw [hft]; rfl
        show W p l e R s mI args below meth c H locs cells slots Q (F0 mI (mPc m pc) lsA (rv B K x :: List.map (cv B K) _))
        rw [rv_cell x1 x3]
        rcases hlink with hlink | hlink
        · exact va_get (v := rv B K (hh x b).toNat) hx hb hts (eCl_i4 a hkd) hown hK hR (x - 1) he (eCl_at a hkd) b hsl (hts _ hlink) (fun _ h9 => by rw [hcl] at h9; exact h9) (by rw [eMap_at a _ hsl, hv]) hd h1
        · exact va_getN (v := rv B K (hh x b).toNat) hx hb hts (eCl_i4 a hkd) hown hK hR (x - 1) he (eCl_at a hkd) b hsl (hts _ hlink) (fun _ h9 => by rw [hcl] at h9; exact h9) (by rw [eMap_at a _ hsl, hv]) hd h1
      · cases hk
    · cases hs
  · cases hs
theorem sl_11 {X : eX} {pc a b k : Nat} {v : Int} {tg : List Nat} {ls st : List eV} {n e : Nat} {p : Nat → Nat → Nat} {h : Nat → Nat → Int} : eSel ewK ewL ewT X pc (11, a, b, k, v, tg) ls st (n, e, p, h) = (match st with
    | .inl w :: .inr (.inl x) :: st => if kn ewK n x = a then eNx (pc + 1) ls st (n, e, p, up h x b w) else none
    | _ => none) := by rcases st with _ | ⟨(_ | _ | _ | _ | _ | _), (_ | ⟨(_ | _ | _ | _ | _ | _), _⟩)⟩ <;> rfl
theorem ck_11 {m i a b k : Nat} {v : Int} {tg : List Nat} : chk m i (11, a, b, k, v, tg) = (match ewD m i with
    | .ok (.putfield idx, 3) => nxt m i 3 && ewLkF m k idx a b && decide (eTy a b = .int) && decide (((eT a) b).2.2.2 = false)
    | _ => false) := rfl
set_option maxHeartbeats 1000000 in
theorem op_11 (C : eCx B K dA D p l s mI args meth c m) {pc a b k : Nat} {v : Int} {tg : List Nat} {ls st ls' st' : List eV} {n e0 : Nat} {pp : Nat → Nat → Nat} {hh : Nat → Nat → Int} {μ' : eM} {pc' : Nat} (hns : ¬ m = m_L_sounds) (hk : chk m pc (11, a, b, k, v, tg) = true) (hw : eWf ls st (n, e0, pp, hh)) (hs : eSel ewK ewL ewT X pc (11, a, b, k, v, tg) ls st (n, e0, pp, hh) = some (.inl (pc', ls', st', μ'))) (kk : eVv B K dA D p l e R s mI args below meth c Q m cells slots pc' ls' st' μ') : eVv B K dA D p l e R s mI args below meth c Q m cells slots pc ls st (n, e0, pp, hh) := by
  obtain ⟨hx, hb, hr, hml, hown, hts, hlk, htb, hnm, hst, hB1, hK, hC⟩ := C
  rw [sl_11] at hs
  rw [ck_11] at hk
  split at hs
  next w x st2 =>
    split at hs
    next hkn0 =>
      have hkn := hkn0
      split at hk
      next idx hd =>
        simp only [Bool.and_eq_true, decide_eq_true_eq] at hk
        obtain ⟨⟨⟨hn, hlf⟩, hty0⟩, hfin⟩ := hk
        obtain ⟨hkd, hsl, hcl, hlink⟩ := lkF hlf
        obtain ⟨x1, x2, x3, x4⟩ := kn_of (eKs_lt a hkd).1 hkn
        cases hs
        intro H locs lsA hR hS hL
        have he := eWs_at B K dA (n := n) (p := pp) (h := hh) x1 x2
        rw [eCe_obj hkd x4] at he
        show W p l e R s mI args below meth c H locs cells slots Q (F0 mI (mPc m pc) lsA (.int (Int32.ofInt w) :: rv B K x :: List.map (cv B K) _))
        rw [rv_cell x1 x3]
        have hset : (eWs B K dA n pp hh).set (x - 1) (B + x, .inr (eIx a, ((List.range (eN a)).map (eFv B K a (pp x) (hh x))).set b (.int (Int32.ofInt w)))) = eWs B K dA n pp (up hh x b w) := by
          refine eWs_set B K dA x1 x2 (fun q hq => ⟨?_, ?_⟩) ?_
          · rfl
          · funext j; unfold up; rw [if_neg (fun z => hq z.1)]
          · rw [eCe_obj hkd x4]
            congr 2
            refine (eMap_set _ _ (fun i hi => ?_) ?_).symm
            · refine eFv_cong B K ?_ ?_
              · rfl
              · unfold up; rw [if_neg (fun z => hi z.2)]
            · unfold eFv
              rw [show eFt (eTy a b) = 0 by rw [hty0]; rfl]
              show Value.int (Int32.ofInt (up hh x b w x b)) = _; unfold up; rw [if_pos ⟨rfl, rfl⟩]
        have hty := eCl_ty a hkd b hsl
        have hpc : ∀ (H1 : Heap) (locs1 : List Loc), va_P D eCl ((eWs B K dA n pp hh).set (x - 1) (B + x, .inr (eIx a, ((List.range (eN a)).map (eFv B K a (pp x) (hh x))).set b (.int (Int32.ofInt w))))) H1 → va_D (eAd B) ((eWs B K dA n pp hh).set (x - 1) (B + x, .inr (eIx a, ((List.range (eN a)).map (eFv B K a (pp x) (hh x))).set b (.int (Int32.ofInt w))))) → va_S (eAd B) s.heap H1 locs1 → W p l e R s mI args below meth c H1 locs1 cells slots Q (F0 mI (mPc m pc + 3) lsA (List.map (cv B K) st')) := by
          intro H1 locs1 hP1 _ hS1
          rw [hset] at hP1
          have h1 := kk H1 locs1 lsA hP1 hS1 (hL.mv B K hns)
          rw [nx1 hn] at h1
          exact h1
        rcases hlink with hlink | hlink
        · exact va_put hx hb hts (eCl_i4 a hkd) (eTy a) (eCl_ty a hkd) (eCl_nm a hkd) hown hK hR (eWs_D B K dA pp hh hw.2.2.2) hS (x - 1) he (eCl_at a hkd) b hsl (hts _ hlink) (fun _ h9 => by rw [hcl] at h9; exact h9) hfin hty (by rw [hty0]; rfl) (by rw [hty0]; rfl) (by simpa using hsl) hd hpc
        · exact va_putN hx hb hts (eCl_i4 a hkd) (eTy a) (eCl_ty a hkd) (eCl_nm a hkd) hown hK hR (eWs_D B K dA pp hh hw.2.2.2) hS (x - 1) he (eCl_at a hkd) b hsl (hts _ hlink) (fun _ h9 => by rw [hcl] at h9; exact h9) hfin hty (by rw [hty0]; rfl) (by rw [hty0]; rfl) (by simpa using hsl) hd hpc
      · cases hk
    · cases hs
  · cases hs
theorem sl_67 {X : eX} {pc a b k : Nat} {v : Int} {tg : List Nat} {ls st : List eV} {n e : Nat} {p : Nat → Nat → Nat} {h : Nat → Nat → Int} : eSel ewK ewL ewT X pc (67, a, b, k, v, tg) ls st (n, e, p, h) = (match st with
    | .inl w :: .inr (.inl x) :: st => if kn ewK n x = a ∧ (w = 0 ∨ w = 1) then eNx (pc + 1) ls st (n, e, p, up h x b w) else none
    | _ => none) := by rcases st with _ | ⟨(_ | _ | _ | _ | _ | _), (_ | ⟨(_ | _ | _ | _ | _ | _), _⟩)⟩ <;> rfl
theorem ck_67 {m i a b k : Nat} {v : Int} {tg : List Nat} : chk m i (67, a, b, k, v, tg) = (match ewD m i with
    | .ok (.putfield idx, 3) => nxt m i 3 && ewLkF m k idx a b && decide (eTy a b = .boolean) && decide (((eT a) b).2.2.2 = false)
    | _ => false) := rfl
set_option maxHeartbeats 1000000 in
theorem op_67 (C : eCx B K dA D p l s mI args meth c m) {pc a b k : Nat} {v : Int} {tg : List Nat} {ls st ls' st' : List eV} {n e0 : Nat} {pp : Nat → Nat → Nat} {hh : Nat → Nat → Int} {μ' : eM} {pc' : Nat} (hns : ¬ m = m_L_sounds) (hk : chk m pc (67, a, b, k, v, tg) = true) (hw : eWf ls st (n, e0, pp, hh)) (hs : eSel ewK ewL ewT X pc (67, a, b, k, v, tg) ls st (n, e0, pp, hh) = some (.inl (pc', ls', st', μ'))) (kk : eVv B K dA D p l e R s mI args below meth c Q m cells slots pc' ls' st' μ') : eVv B K dA D p l e R s mI args below meth c Q m cells slots pc ls st (n, e0, pp, hh) := by
  obtain ⟨hx, hb, hr, hml, hown, hts, hlk, htb, hnm, hst, hB1, hK, hC⟩ := C
  rw [sl_67] at hs
  rw [ck_67] at hk
  split at hs
  next w x st2 =>
    split at hs
    next hkn0 =>
      obtain ⟨hkn, hz⟩ := hkn0
      split at hk
      next idx hd =>
        simp only [Bool.and_eq_true, decide_eq_true_eq] at hk
        obtain ⟨⟨⟨hn, hlf⟩, hty0⟩, hfin⟩ := hk
        obtain ⟨hkd, hsl, hcl, hlink⟩ := lkF hlf
        obtain ⟨x1, x2, x3, x4⟩ := kn_of (eKs_lt a hkd).1 hkn
        cases hs
        intro H locs lsA hR hS hL
        have he := eWs_at B K dA (n := n) (p := pp) (h := hh) x1 x2
        rw [eCe_obj hkd x4] at he
        show W p l e R s mI args below meth c H locs cells slots Q (F0 mI (mPc m pc) lsA (.int (Int32.ofInt w) :: rv B K x :: List.map (cv B K) _))
        rw [rv_cell x1 x3]
        have hset : (eWs B K dA n pp hh).set (x - 1) (B + x, .inr (eIx a, ((List.range (eN a)).map (eFv B K a (pp x) (hh x))).set b (.int (Int32.ofInt w)))) = eWs B K dA n pp (up hh x b w) := by
          refine eWs_set B K dA x1 x2 (fun q hq => ⟨?_, ?_⟩) ?_
          · rfl
          · funext j; unfold up; rw [if_neg (fun z => hq z.1)]
          · rw [eCe_obj hkd x4]
            congr 2
            refine (eMap_set _ _ (fun i hi => ?_) ?_).symm
            · refine eFv_cong B K ?_ ?_
              · rfl
              · unfold up; rw [if_neg (fun z => hi z.2)]
            · unfold eFv
              rw [show eFt (eTy a b) = 0 by rw [hty0]; rfl]
              show Value.int (Int32.ofInt (up hh x b w x b)) = _; unfold up; rw [if_pos ⟨rfl, rfl⟩]
        have hty := eCl_ty a hkd b hsl
        have hpc : ∀ (H1 : Heap) (locs1 : List Loc), va_P D eCl ((eWs B K dA n pp hh).set (x - 1) (B + x, .inr (eIx a, ((List.range (eN a)).map (eFv B K a (pp x) (hh x))).set b (.int (Int32.ofInt w))))) H1 → va_D (eAd B) ((eWs B K dA n pp hh).set (x - 1) (B + x, .inr (eIx a, ((List.range (eN a)).map (eFv B K a (pp x) (hh x))).set b (.int (Int32.ofInt w))))) → va_S (eAd B) s.heap H1 locs1 → W p l e R s mI args below meth c H1 locs1 cells slots Q (F0 mI (mPc m pc + 3) lsA (List.map (cv B K) st')) := by
          intro H1 locs1 hP1 _ hS1
          rw [hset] at hP1
          have h1 := kk H1 locs1 lsA hP1 hS1 (hL.mv B K hns)
          rw [nx1 hn] at h1
          exact h1
        rcases hlink with hlink | hlink
        · exact va_put hx hb hts (eCl_i4 a hkd) (eTy a) (eCl_ty a hkd) (eCl_nm a hkd) hown hK hR (eWs_D B K dA pp hh hw.2.2.2) hS (x - 1) he (eCl_at a hkd) b hsl (hts _ hlink) (fun _ h9 => by rw [hcl] at h9; exact h9) hfin hty (by rw [hty0]; exact na_z hz) (by rw [hty0]; exact ft_z hz) (by simpa using hsl) hd hpc
        · exact va_putN hx hb hts (eCl_i4 a hkd) (eTy a) (eCl_ty a hkd) (eCl_nm a hkd) hown hK hR (eWs_D B K dA pp hh hw.2.2.2) hS (x - 1) he (eCl_at a hkd) b hsl (hts _ hlink) (fun _ h9 => by rw [hcl] at h9; exact h9) hfin hty (by rw [hty0]; exact na_z hz) (by rw [hty0]; exact ft_z hz) (by simpa using hsl) hd hpc
      · cases hk
    · cases hs
  · cases hs
theorem sl_69 {X : eX} {pc a b k : Nat} {v : Int} {tg : List Nat} {ls st : List eV} {n e : Nat} {p : Nat → Nat → Nat} {h : Nat → Nat → Int} : eSel ewK ewL ewT X pc (69, a, b, k, v, tg) ls st (n, e, p, h) = (match st with
    | .inr (.inl w) :: .inr (.inl x) :: st => if kn ewK n x = a ∧ (w = 0 ∨ (1010 ≤ w ∧ w < 1022)) then eNx (pc + 1) ls st (n, e, p, up h x b w) else none
    | _ => none) := by rcases st with _ | ⟨(_ | _ | _ | _ | _ | _), (_ | ⟨(_ | _ | _ | _ | _ | _), _⟩)⟩ <;> rfl
theorem ck_69 {m i a b k : Nat} {v : Int} {tg : List Nat} : chk m i (69, a, b, k, v, tg) = (match ewD m i with
    | .ok (.putfield idx, 3) => nxt m i 3 && ewLkF m k idx a b && decide (eTy a b = .object "EchoWells$Order") && decide (((eT a) b).2.2.2 = false)
    | _ => false) := rfl
set_option maxHeartbeats 1000000 in
theorem op_69 (C : eCx B K dA D p l s mI args meth c m) {pc a b k : Nat} {v : Int} {tg : List Nat} {ls st ls' st' : List eV} {n e0 : Nat} {pp : Nat → Nat → Nat} {hh : Nat → Nat → Int} {μ' : eM} {pc' : Nat} (hns : ¬ m = m_L_sounds) (hk : chk m pc (69, a, b, k, v, tg) = true) (hw : eWf ls st (n, e0, pp, hh)) (hs : eSel ewK ewL ewT X pc (69, a, b, k, v, tg) ls st (n, e0, pp, hh) = some (.inl (pc', ls', st', μ'))) (kk : eVv B K dA D p l e R s mI args below meth c Q m cells slots pc' ls' st' μ') : eVv B K dA D p l e R s mI args below meth c Q m cells slots pc ls st (n, e0, pp, hh) := by
  obtain ⟨hx, hb, hr, hml, hown, hts, hlk, htb, hnm, hst, hB1, hK, hC⟩ := C
  rw [sl_69] at hs
  rw [ck_69] at hk
  split at hs
  next w x st2 =>
    split at hs
    next hkn0 =>
      obtain ⟨hkn, hz⟩ := hkn0
      split at hk
      next idx hd =>
        simp only [Bool.and_eq_true, decide_eq_true_eq] at hk
        obtain ⟨⟨⟨hn, hlf⟩, hty0⟩, hfin⟩ := hk
        obtain ⟨hkd, hsl, hcl, hlink⟩ := lkF hlf
        obtain ⟨x1, x2, x3, x4⟩ := kn_of (eKs_lt a hkd).1 hkn
        cases hs
        intro H locs lsA hR hS hL
        have he := eWs_at B K dA (n := n) (p := pp) (h := hh) x1 x2
        rw [eCe_obj hkd x4] at he
        show W p l e R s mI args below meth c H locs cells slots Q (F0 mI (mPc m pc) lsA (rv B K w :: rv B K x :: List.map (cv B K) _))
        rw [rv_cell x1 x3]
        have hset : (eWs B K dA n pp hh).set (x - 1) (B + x, .inr (eIx a, ((List.range (eN a)).map (eFv B K a (pp x) (hh x))).set b (rv B K w))) = eWs B K dA n pp (up hh x b (w : Nat)) := by
          refine eWs_set B K dA x1 x2 (fun q hq => ⟨?_, ?_⟩) ?_
          · rfl
          · funext j; unfold up; rw [if_neg (fun z => hq z.1)]
          · rw [eCe_obj hkd x4]
            congr 2
            refine (eMap_set _ _ (fun i hi => ?_) ?_).symm
            · refine eFv_cong B K ?_ ?_
              · rfl
              · unfold up; rw [if_neg (fun z => hi z.2)]
            · unfold eFv
              rw [show eFt (eTy a b) = 2 by rw [hty0]; rfl]
              show rv B K (up hh x b (w : Nat) x b).toNat = _; unfold up; rw [if_pos ⟨rfl, rfl⟩, Int.toNat_natCast]
        have hty := eCl_ty a hkd b hsl
        have hpc : ∀ (H1 : Heap) (locs1 : List Loc), va_P D eCl ((eWs B K dA n pp hh).set (x - 1) (B + x, .inr (eIx a, ((List.range (eN a)).map (eFv B K a (pp x) (hh x))).set b (rv B K w)))) H1 → va_D (eAd B) ((eWs B K dA n pp hh).set (x - 1) (B + x, .inr (eIx a, ((List.range (eN a)).map (eFv B K a (pp x) (hh x))).set b (rv B K w)))) → va_S (eAd B) s.heap H1 locs1 → W p l e R s mI args below meth c H1 locs1 cells slots Q (F0 mI (mPc m pc + 3) lsA (List.map (cv B K) st')) := by
          intro H1 locs1 hP1 _ hS1
          rw [hset] at hP1
          have h1 := kk H1 locs1 lsA hP1 hS1 (hL.mv B K hns)
          rw [nx1 hn] at h1
          exact h1
        rcases hlink with hlink | hlink
        · exact va_put hx hb hts (eCl_i4 a hkd) (eTy a) (eCl_ty a hkd) (eCl_nm a hkd) hown hK hR (eWs_D B K dA pp hh hw.2.2.2) hS (x - 1) he (eCl_at a hkd) b hsl (hts _ hlink) (fun _ h9 => by rw [hcl] at h9; exact h9) hfin hty (by rw [hty0]; unfold rv; split <;> (try split) <;> rfl) (by rw [hty0]; unfold rv; split <;> (try split) <;> rfl) (by simpa using hsl) hd hpc
        · exact va_putN hx hb hts (eCl_i4 a hkd) (eTy a) (eCl_ty a hkd) (eCl_nm a hkd) hown hK hR (eWs_D B K dA pp hh hw.2.2.2) hS (x - 1) he (eCl_at a hkd) b hsl (hts _ hlink) (fun _ h9 => by rw [hcl] at h9; exact h9) hfin hty (by rw [hty0]; unfold rv; split <;> (try split) <;> rfl) (by rw [hty0]; unfold rv; split <;> (try split) <;> rfl) (by simpa using hsl) hd hpc
      · cases hk
    · cases hs
  · cases hs
theorem sl_12 {X : eX} {pc a b k : Nat} {v : Int} {tg : List Nat} {ls st : List eV} {n e : Nat} {p : Nat → Nat → Nat} {h : Nat → Nat → Int} : eSel ewK ewL ewT X pc (12, a, b, k, v, tg) ls st (n, e, p, h) = (match st with
    | .inr (.inl w) :: .inr (.inl x) :: st => if kn ewK n x = a ∧ w ≤ n then eNx (pc + 1) ls st (n, e, up p x b w, h) else none
    | _ => none) := by rcases st with _ | ⟨(_ | _ | _ | _ | _ | _), (_ | ⟨(_ | _ | _ | _ | _ | _), _⟩)⟩ <;> rfl
theorem ck_12 {m i a b k : Nat} {v : Int} {tg : List Nat} : chk m i (12, a, b, k, v, tg) = (match ewD m i with
    | .ok (.putfield idx, 3) => nxt m i 3 && ewLkF m k idx a b && decide (eFt (eTy a b) = 1) && decide (((eT a) b).2.2.2 = true) && decide ((mNm m).cls = eRc a) && decide ((mNm m).name = "<init>") && decide (wd k = some (.fieldLink (mNm m).cls idx (eRc a) ((eT a) b).2.1 ((eT a) b).2.2.1))
    | _ => false) := rfl
set_option maxHeartbeats 1000000 in
theorem op_12 (C : eCx B K dA D p l s mI args meth c m) {pc a b k : Nat} {v : Int} {tg : List Nat} {ls st ls' st' : List eV} {n e0 : Nat} {pp : Nat → Nat → Nat} {hh : Nat → Nat → Int} {μ' : eM} {pc' : Nat} (hns : ¬ m = m_L_sounds) (hk : chk m pc (12, a, b, k, v, tg) = true) (hw : eWf ls st (n, e0, pp, hh)) (hs : eSel ewK ewL ewT X pc (12, a, b, k, v, tg) ls st (n, e0, pp, hh) = some (.inl (pc', ls', st', μ'))) (kk : eVv B K dA D p l e R s mI args below meth c Q m cells slots pc' ls' st' μ') : eVv B K dA D p l e R s mI args below meth c Q m cells slots pc ls st (n, e0, pp, hh) := by
  obtain ⟨hx, hb, hr, hml, hown, hts, hlk, htb, hnm, hst, hB1, hK, hC⟩ := C
  rw [sl_12] at hs
  rw [ck_12] at hk
  split at hs
  next w x st2 =>
    split at hs
    next hkn0 =>
      obtain ⟨hkn, hz⟩ := hkn0
      split at hk
      next idx hd =>
        simp only [Bool.and_eq_true, decide_eq_true_eq] at hk
        obtain ⟨⟨⟨⟨⟨⟨hn, hlf⟩, hft0⟩, hfin⟩, hcls⟩, hini⟩, hwd⟩ := hk
        obtain ⟨hkd, hsl, hcl, hlink⟩ := lkF hlf
        obtain ⟨x1, x2, x3, x4⟩ := kn_of (eKs_lt a hkd).1 hkn
        cases hs
        intro H locs lsA hR hS hL
        have he := eWs_at B K dA (n := n) (p := pp) (h := hh) x1 x2
        rw [eCe_obj hkd x4] at he
        show W p l e R s mI args below meth c H locs cells slots Q (F0 mI (mPc m pc) lsA (rv B K w :: rv B K x :: List.map (cv B K) _))
        rw [rv_cell x1 x3]
        have hset : (eWs B K dA n pp hh).set (x - 1) (B + x, .inr (eIx a, ((List.range (eN a)).map (eFv B K a (pp x) (hh x))).set b (rv B K w))) = eWs B K dA n (up pp x b w) hh := by
          refine eWs_set B K dA x1 x2 (fun q hq => ⟨?_, ?_⟩) ?_
          · funext j; unfold up; rw [if_neg (fun z => hq z.1)]
          · rfl
          · rw [eCe_obj hkd x4]
            congr 2
            refine (eMap_set _ _ (fun i hi => ?_) ?_).symm
            · refine eFv_cong B K ?_ ?_
              · unfold up; rw [if_neg (fun z => hi z.2)]
              · rfl
            · unfold eFv
              rw [hft0]
              show rv B K (up pp x b w x b) = _; unfold up; rw [if_pos ⟨rfl, rfl⟩]
        have hty := eCl_ty a hkd b hsl
        have hpc : ∀ (H1 : Heap) (locs1 : List Loc), va_P D eCl ((eWs B K dA n pp hh).set (x - 1) (B + x, .inr (eIx a, ((List.range (eN a)).map (eFv B K a (pp x) (hh x))).set b (rv B K w)))) H1 → va_D (eAd B) ((eWs B K dA n pp hh).set (x - 1) (B + x, .inr (eIx a, ((List.range (eN a)).map (eFv B K a (pp x) (hh x))).set b (rv B K w)))) → va_S (eAd B) s.heap H1 locs1 → W p l e R s mI args below meth c H1 locs1 cells slots Q (F0 mI (mPc m pc + 3) lsA (List.map (cv B K) st')) := by
          intro H1 locs1 hP1 _ hS1
          rw [hset] at hP1
          have h1 := kk H1 locs1 lsA hP1 hS1 (hL.mv B K hns)
          rw [nx1 hn] at h1
          exact h1
        have hrf : ∀ t : FieldType, eFt t = 1 → (∃ nm, t = .object nm) ∨ (∃ t2, t = .array t2) → narrow t (rv B K w) = rv B K w ∧ fits t (rv B K w) = true := by
          intro t _ ht
          rcases ht with ⟨nm, rfl⟩ | ⟨t2, rfl⟩ <;> (unfold rv; split <;> (try split) <;> exact ⟨rfl, rfl⟩)
        have hob : ∀ k ∈ eKs, ∀ j, j < eN k → eFt (eTy k j) = 1 → (∃ nm, eTy k j = .object nm) ∨ (∃ t2, eTy k j = .array t2) := by
          have : ∀ k ∈ eKs, ∀ j, j < eN k → eFt (eTy k j) = 1 → (match eTy k j with | .object _ => true | .array _ => true | _ => false) = true := by decide +kernel
          intro k hk j hj hft1
          have h9 := this k hk j hj hft1
          split at h9
          next nm h8 => exact Or.inl ⟨nm, h8⟩
          next t2 h8 => exact Or.inr ⟨t2, h8⟩
          · cases h9
        obtain ⟨q1, q2⟩ := hrf _ hft0 (hob a hkd b hsl hft0)
        exact va_putF hx hb hts (eCl_i4 a hkd) (eTy a) (eCl_ty a hkd) (eCl_nm a hkd) hown hK hR (eWs_D B K dA pp hh hw.2.2.2) hS (x - 1) he (eCl_at a hkd) b hsl (hts _ (in4 (wd_mem hwd) rfl)) (fun _ h9 => by rw [hcl] at h9; exact h9) hfin (by rw [hnm, hini]) (by rw [hcl, hcls]) hty q1 q2 (by simpa using hsl) hd hpc
      · cases hk
    · cases hs
  · cases hs
theorem sl_13 {X : eX} {pc a b k : Nat} {v : Int} {tg : List Nat} {ls st : List eV} {n e : Nat} {p : Nat → Nat → Nat} {h : Nat → Nat → Int} : eSel ewK ewL ewT X pc (13, a, b, k, v, tg) ls st (n, e, p, h) = (match st with
    | .inl j :: .inr (.inl x) :: st => if kn ewK n x = 20 ∧ 0 ≤ j ∧ j < ewL x then eNx (pc + 1) ls (vI (h x j.toNat) :: st) (n, e, p, h) else none
    | _ => none) := by rcases st with _ | ⟨(_ | _ | _ | _ | _ | _), (_ | ⟨(_ | _ | _ | _ | _ | _), _⟩)⟩ <;> rfl
theorem ck_13 {m i a b k : Nat} {v : Int} {tg : List Nat} : chk m i (13, a, b, k, v, tg) = (match ewD m i with
    | .ok (.iaload, 1) => nxt m i 1
    | _ => false) := rfl
set_option maxHeartbeats 1000000 in
theorem op_13 (C : eCx B K dA D p l s mI args meth c m) {pc a b k : Nat} {v : Int} {tg : List Nat} {ls st ls' st' : List eV} {n e0 : Nat} {pp : Nat → Nat → Nat} {hh : Nat → Nat → Int} {μ' : eM} {pc' : Nat} (hk : chk m pc (13, a, b, k, v, tg) = true) (hw : eWf ls st (n, e0, pp, hh)) (hs : eSel ewK ewL ewT X pc (13, a, b, k, v, tg) ls st (n, e0, pp, hh) = some (.inl (pc', ls', st', μ'))) (kk : eVv B K dA D p l e R s mI args below meth c Q m cells slots pc' ls' st' μ') : eVv B K dA D p l e R s mI args below meth c Q m cells slots pc ls st (n, e0, pp, hh) := by
  obtain ⟨hx, hb, hr, hml, hown, hts, hlk, htb, hnm, hst, hB1, hK, hC⟩ := C
  rw [sl_13] at hs
  rw [ck_13] at hk
  split at hs
  next j x st2 =>
    have w1 : inR j := hw.2.1 _ List.mem_cons_self
    split at hs
    next hg =>
      obtain ⟨hkn, j0, j1⟩ := hg
      obtain ⟨x1, x2, x3, x4⟩ := kn_of (by decide) hkn
      split at hk
      next hd =>
        cases hs
        intro H locs lsA hR hS hL
        have h1 := kk H locs lsA hR hS hL
        rw [nx1 hk] at h1
        have he := eWs_at B K dA (n := n) (p := pp) (h := hh) x1 x2
        rw [eCe_arr (a := 20) (by decide) x4] at he
        show W p l e R s mI args below meth c H locs cells slots Q (F0 mI (mPc m pc) lsA (.int (Int32.ofInt j) :: rv B K x :: List.map (cv B K) _))
        rw [rv_cell x1 x3]
        refine va_iald hx hb hK hR (x - 1) 0 he rfl (oI_vp w1 j0 j1) hd ?_
        rw [oI_clamp w1]
        exact h1
      · cases hk
    · cases hs
  · cases hs
theorem sl_38 {X : eX} {pc a b k : Nat} {v : Int} {tg : List Nat} {ls st : List eV} {n e : Nat} {p : Nat → Nat → Nat} {h : Nat → Nat → Int} : eSel ewK ewL ewT X pc (38, a, b, k, v, tg) ls st (n, e, p, h) = (match st with
    | .inl j :: .inr (.inl x) :: st => if kn ewK n x = 21 ∧ 0 ≤ j ∧ j < ewL x then eNx (pc + 1) ls (vI (h x j.toNat) :: st) (n, e, p, h) else none
    | _ => none) := by rcases st with _ | ⟨(_ | _ | _ | _ | _ | _), (_ | ⟨(_ | _ | _ | _ | _ | _), _⟩)⟩ <;> rfl
theorem ck_38 {m i a b k : Nat} {v : Int} {tg : List Nat} : chk m i (38, a, b, k, v, tg) = (match ewD m i with
    | .ok (.caload, 1) => nxt m i 1
    | _ => false) := rfl
set_option maxHeartbeats 1000000 in
theorem op_38 (C : eCx B K dA D p l s mI args meth c m) {pc a b k : Nat} {v : Int} {tg : List Nat} {ls st ls' st' : List eV} {n e0 : Nat} {pp : Nat → Nat → Nat} {hh : Nat → Nat → Int} {μ' : eM} {pc' : Nat} (hk : chk m pc (38, a, b, k, v, tg) = true) (hw : eWf ls st (n, e0, pp, hh)) (hs : eSel ewK ewL ewT X pc (38, a, b, k, v, tg) ls st (n, e0, pp, hh) = some (.inl (pc', ls', st', μ'))) (kk : eVv B K dA D p l e R s mI args below meth c Q m cells slots pc' ls' st' μ') : eVv B K dA D p l e R s mI args below meth c Q m cells slots pc ls st (n, e0, pp, hh) := by
  obtain ⟨hx, hb, hr, hml, hown, hts, hlk, htb, hnm, hst, hB1, hK, hC⟩ := C
  rw [sl_38] at hs
  rw [ck_38] at hk
  split at hs
  next j x st2 =>
    have w1 : inR j := hw.2.1 _ List.mem_cons_self
    split at hs
    next hg =>
      obtain ⟨hkn, j0, j1⟩ := hg
      obtain ⟨x1, x2, x3, x4⟩ := kn_of (by decide) hkn
      split at hk
      next hd =>
        cases hs
        intro H locs lsA hR hS hL
        have h1 := kk H locs lsA hR hS hL
        rw [nx1 hk] at h1
        have he := eWs_at B K dA (n := n) (p := pp) (h := hh) x1 x2
        rw [eCe_arr (a := 21) (by decide) x4] at he
        show W p l e R s mI args below meth c H locs cells slots Q (F0 mI (mPc m pc) lsA (.int (Int32.ofInt j) :: rv B K x :: List.map (cv B K) _))
        rw [rv_cell x1 x3]
        refine va_cald hx hb hK hR (x - 1) 1 he rfl (oI_vp w1 j0 j1) hd ?_
        rw [oI_clamp w1]
        exact h1
      · cases hk
    · cases hs
  · cases hs
theorem sl_51 {X : eX} {pc a b k : Nat} {v : Int} {tg : List Nat} {ls st : List eV} {n e : Nat} {p : Nat → Nat → Nat} {h : Nat → Nat → Int} : eSel ewK ewL ewT X pc (51, a, b, k, v, tg) ls st (n, e, p, h) = (match st with
    | .inl j :: .inr (.inl x) :: st => if kn ewK n x = 22 ∧ 0 ≤ j ∧ j < ewL x then eNx (pc + 1) ls (vI (h x j.toNat) :: st) (n, e, p, h) else none
    | _ => none) := by rcases st with _ | ⟨(_ | _ | _ | _ | _ | _), (_ | ⟨(_ | _ | _ | _ | _ | _), _⟩)⟩ <;> rfl
theorem ck_51 {m i a b k : Nat} {v : Int} {tg : List Nat} : chk m i (51, a, b, k, v, tg) = (match ewD m i with
    | .ok (.baload, 1) => nxt m i 1
    | _ => false) := rfl
set_option maxHeartbeats 1000000 in
theorem op_51 (C : eCx B K dA D p l s mI args meth c m) {pc a b k : Nat} {v : Int} {tg : List Nat} {ls st ls' st' : List eV} {n e0 : Nat} {pp : Nat → Nat → Nat} {hh : Nat → Nat → Int} {μ' : eM} {pc' : Nat} (hk : chk m pc (51, a, b, k, v, tg) = true) (hw : eWf ls st (n, e0, pp, hh)) (hs : eSel ewK ewL ewT X pc (51, a, b, k, v, tg) ls st (n, e0, pp, hh) = some (.inl (pc', ls', st', μ'))) (kk : eVv B K dA D p l e R s mI args below meth c Q m cells slots pc' ls' st' μ') : eVv B K dA D p l e R s mI args below meth c Q m cells slots pc ls st (n, e0, pp, hh) := by
  obtain ⟨hx, hb, hr, hml, hown, hts, hlk, htb, hnm, hst, hB1, hK, hC⟩ := C
  rw [sl_51] at hs
  rw [ck_51] at hk
  split at hs
  next j x st2 =>
    have w1 : inR j := hw.2.1 _ List.mem_cons_self
    split at hs
    next hg =>
      obtain ⟨hkn, j0, j1⟩ := hg
      obtain ⟨x1, x2, x3, x4⟩ := kn_of (by decide) hkn
      split at hk
      next hd =>
        cases hs
        intro H locs lsA hR hS hL
        have h1 := kk H locs lsA hR hS hL
        rw [nx1 hk] at h1
        have he := eWs_at B K dA (n := n) (p := pp) (h := hh) x1 x2
        rw [eCe_arr (a := 22) (by decide) x4] at he
        show W p l e R s mI args below meth c H locs cells slots Q (F0 mI (mPc m pc) lsA (.int (Int32.ofInt j) :: rv B K x :: List.map (cv B K) _))
        rw [rv_cell x1 x3]
        refine va_zald hx hb hK hR (x - 1) 2 he rfl (oI_vp w1 j0 j1) hd ?_
        rw [oI_clamp w1]
        exact h1
      · cases hk
    · cases hs
  · cases hs
theorem sl_49 {X : eX} {pc a b k : Nat} {v : Int} {tg : List Nat} {ls st : List eV} {n e : Nat} {p : Nat → Nat → Nat} {h : Nat → Nat → Int} : eSel ewK ewL ewT X pc (49, a, b, k, v, tg) ls st (n, e, p, h) = (match st with
    | .inl j :: .inr (.inl x) :: st => if kn ewK n x = a ∧ 0 ≤ j ∧ j < ewL x then eNx (pc + 1) ls (vR (p x j.toNat) :: st) (n, e, p, h) else none
    | _ => none) := by rcases st with _ | ⟨(_ | _ | _ | _ | _ | _), (_ | ⟨(_ | _ | _ | _ | _ | _), _⟩)⟩ <;> rfl
theorem ck_49 {m i a b k : Nat} {v : Int} {tg : List Nat} : chk m i (49, a, b, k, v, tg) = (match ewD m i with
    | .ok (.aaload, 1) => nxt m i 1 && decide (30 ≤ a ∧ a ≤ 32)
    | _ => false) := rfl
set_option maxHeartbeats 1000000 in
theorem op_49 (C : eCx B K dA D p l s mI args meth c m) {pc a b k : Nat} {v : Int} {tg : List Nat} {ls st ls' st' : List eV} {n e0 : Nat} {pp : Nat → Nat → Nat} {hh : Nat → Nat → Int} {μ' : eM} {pc' : Nat} (hk : chk m pc (49, a, b, k, v, tg) = true) (hw : eWf ls st (n, e0, pp, hh)) (hs : eSel ewK ewL ewT X pc (49, a, b, k, v, tg) ls st (n, e0, pp, hh) = some (.inl (pc', ls', st', μ'))) (kk : eVv B K dA D p l e R s mI args below meth c Q m cells slots pc' ls' st' μ') : eVv B K dA D p l e R s mI args below meth c Q m cells slots pc ls st (n, e0, pp, hh) := by
  obtain ⟨hx, hb, hr, hml, hown, hts, hlk, htb, hnm, hst, hB1, hK, hC⟩ := C
  rw [sl_49] at hs
  rw [ck_49] at hk
  split at hs
  next j x st2 =>
    have w1 : inR j := hw.2.1 _ List.mem_cons_self
    split at hs
    next hg =>
      obtain ⟨hkn, j0, j1⟩ := hg
      split at hk
      next hd =>
        simp only [Bool.and_eq_true, decide_eq_true_eq] at hk
        obtain ⟨hn, ha⟩ := hk
        obtain ⟨x1, x2, x3, x4⟩ := kn_of (by omega) hkn
        cases hs
        intro H locs lsA hR hS hL
        have h1 := kk H locs lsA hR hS hL
        rw [nx1 hn] at h1
        have he := eWs_at B K dA (n := n) (p := pp) (h := hh) x1 x2
        rw [eCe_arr (a := a) (by omega) x4] at he
        have hAr : eAr B K a (ewL x) (pp x) (hh x) = (ewL x, .inr (.inr (.inr (.inr fun j => rvo B K (pp x j))))) := by
          unfold eAr
          rw [if_neg (by omega), if_neg (by omega), if_neg (by omega)]
        rw [hAr] at he
        show W p l e R s mI args below meth c H locs cells slots Q (F0 mI (mPc m pc) lsA (.int (Int32.ofInt j) :: rv B K x :: List.map (cv B K) _))
        rw [rv_cell x1 x3]
        have ha2 : a = 30 ∨ a = 31 ∨ a = 32 := by omega
        have h2 : W p l e R s mI args below meth c H locs cells slots Q (F0 mI (mPc m pc + 1) lsA (va_rf ((fun j => rvo B K (pp x j)) (Int32.ofInt j).toNatClampNeg) :: List.map (cv B K) st2)) := by
          rw [oI_clamp w1, rvo_eq]
          exact h1
        rcases ha2 with rfl | rfl | rfl
        · exact va_aldq (C := "EchoWells$Well") hx hb hK hR (x - 1) 3 he rfl (oI_vp w1 j0 j1) hd h2
        · exact va_aldq (C := "EchoWells$Rope") hx hb hK hR (x - 1) 4 he rfl (oI_vp w1 j0 j1) hd h2
        · exact va_aldq (C := "EchoWells$World") hx hb hK hR (x - 1) 5 he rfl (oI_vp w1 j0 j1) hd h2
      · cases hk
    · cases hs
  · cases hs
theorem sl_20 {X : eX} {pc a b k : Nat} {v : Int} {tg : List Nat} {ls st : List eV} {n e : Nat} {p : Nat → Nat → Nat} {h : Nat → Nat → Int} : eSel ewK ewL ewT X pc (20, a, b, k, v, tg) ls st (n, e, p, h) = (match st with
    | .inl w :: .inl j :: .inr (.inl x) :: st => if kn ewK n x = 20 ∧ 0 ≤ j ∧ j < ewL x then eNx (pc + 1) ls st (n, e, p, up h x j.toNat w) else none
    | _ => none) := by rcases st with _ | ⟨(_ | _ | _ | _ | _ | _), (_ | ⟨(_ | _ | _ | _ | _ | _), (_ | ⟨(_ | _ | _ | _ | _ | _), _⟩)⟩)⟩ <;> rfl
theorem ck_20 {m i a b k : Nat} {v : Int} {tg : List Nat} : chk m i (20, a, b, k, v, tg) = (match ewD m i with
    | .ok (.iastore, 1) => nxt m i 1
    | _ => false) := rfl
set_option maxHeartbeats 1000000 in
theorem op_20 (C : eCx B K dA D p l s mI args meth c m) {pc a b k : Nat} {v : Int} {tg : List Nat} {ls st ls' st' : List eV} {n e0 : Nat} {pp : Nat → Nat → Nat} {hh : Nat → Nat → Int} {μ' : eM} {pc' : Nat} (hns : ¬ m = m_L_sounds) (hk : chk m pc (20, a, b, k, v, tg) = true) (hw : eWf ls st (n, e0, pp, hh)) (hs : eSel ewK ewL ewT X pc (20, a, b, k, v, tg) ls st (n, e0, pp, hh) = some (.inl (pc', ls', st', μ'))) (kk : eVv B K dA D p l e R s mI args below meth c Q m cells slots pc' ls' st' μ') : eVv B K dA D p l e R s mI args below meth c Q m cells slots pc ls st (n, e0, pp, hh) := by
  obtain ⟨hx, hb, hr, hml, hown, hts, hlk, htb, hnm, hst, hB1, hK, hC⟩ := C
  rw [sl_20] at hs
  rw [ck_20] at hk
  split at hs
  next w j x st2 =>
    have w1 : inR j := hw.2.1 _ (List.mem_cons_of_mem _ List.mem_cons_self)
    have w0 := hw.2.1 _ List.mem_cons_self
    split at hs
    next hg =>
      obtain ⟨hkn, j0, j1⟩ := hg
      obtain ⟨x1, x2, x3, x4⟩ := kn_of (by decide) hkn
      split at hk
      next hd =>
        cases hs
        intro H locs lsA hR hS hL
        have he := eWs_at B K dA (n := n) (p := pp) (h := hh) x1 x2
        rw [eCe_arr (a := 20) (by decide) x4] at he
        show W p l e R s mI args below meth c H locs cells slots Q (F0 mI (mPc m pc) lsA (.int (Int32.ofInt w) :: .int (Int32.ofInt j) :: rv B K x :: List.map (cv B K) _))
        rw [rv_cell x1 x3]
        refine va_iast hx hb hK hR (eWs_D B K dA pp hh hw.2.2.2) hS (x - 1) 0 he rfl (oI_vp w1 j0 j1) hd (fun H1 locs1 hP1 _ hS1 => ?_)
        have h1 := kk H1 locs1 lsA (by
          show va_P D eCl (eWs B K dA n pp (up hh x j.toNat (w))) H1
          rw [← eWs_set B K dA (p := pp) (h := hh) x1 x2 (fun q hq => ⟨rfl, by funext i; unfold up; rw [if_neg (fun z => hq z.1)]⟩) rfl]
          rw [eCe_arr (a := 20) (by decide) x4]
          rw [oI_clamp w1] at hP1
          have hf : eAr B K 20 (ewL x) (pp x) (up hh x j.toNat (w) x) = (ewL x, .inl (upd (fun i => Int32.ofInt (hh x i)) j.toNat (Int32.ofInt w))) := by
            show (ewL x, _) = (ewL x, _)
            congr 2
            funext i
            unfold up upd
            by_cases hi : i = j.toNat
            · rw [if_pos ⟨rfl, hi⟩, if_pos hi]
            · rw [if_neg (fun z => hi z.2), if_neg hi]
          rw [hf]
          exact hP1) hS1 (hL.mv B K hns)
        rw [nx1 hk] at h1
        exact h1
      · cases hk
    · cases hs
  · cases hs
theorem sl_41 {X : eX} {pc a b k : Nat} {v : Int} {tg : List Nat} {ls st : List eV} {n e : Nat} {p : Nat → Nat → Nat} {h : Nat → Nat → Int} : eSel ewK ewL ewT X pc (41, a, b, k, v, tg) ls st (n, e, p, h) = (match st with
    | .inl w :: .inl j :: .inr (.inl x) :: st => if kn ewK n x = 21 ∧ 0 ≤ j ∧ j < ewL x then eNx (pc + 1) ls st (n, e, p, up h x j.toNat (w % 65536)) else none
    | _ => none) := by rcases st with _ | ⟨(_ | _ | _ | _ | _ | _), (_ | ⟨(_ | _ | _ | _ | _ | _), (_ | ⟨(_ | _ | _ | _ | _ | _), _⟩)⟩)⟩ <;> rfl
theorem ck_41 {m i a b k : Nat} {v : Int} {tg : List Nat} : chk m i (41, a, b, k, v, tg) = (match ewD m i with
    | .ok (.castore, 1) => nxt m i 1
    | _ => false) := rfl
set_option maxHeartbeats 1000000 in
theorem op_41 (C : eCx B K dA D p l s mI args meth c m) {pc a b k : Nat} {v : Int} {tg : List Nat} {ls st ls' st' : List eV} {n e0 : Nat} {pp : Nat → Nat → Nat} {hh : Nat → Nat → Int} {μ' : eM} {pc' : Nat} (hns : ¬ m = m_L_sounds) (hk : chk m pc (41, a, b, k, v, tg) = true) (hw : eWf ls st (n, e0, pp, hh)) (hs : eSel ewK ewL ewT X pc (41, a, b, k, v, tg) ls st (n, e0, pp, hh) = some (.inl (pc', ls', st', μ'))) (kk : eVv B K dA D p l e R s mI args below meth c Q m cells slots pc' ls' st' μ') : eVv B K dA D p l e R s mI args below meth c Q m cells slots pc ls st (n, e0, pp, hh) := by
  obtain ⟨hx, hb, hr, hml, hown, hts, hlk, htb, hnm, hst, hB1, hK, hC⟩ := C
  rw [sl_41] at hs
  rw [ck_41] at hk
  split at hs
  next w j x st2 =>
    have w1 : inR j := hw.2.1 _ (List.mem_cons_of_mem _ List.mem_cons_self)
    have w0 := hw.2.1 _ List.mem_cons_self
    split at hs
    next hg =>
      obtain ⟨hkn, j0, j1⟩ := hg
      obtain ⟨x1, x2, x3, x4⟩ := kn_of (by decide) hkn
      split at hk
      next hd =>
        cases hs
        intro H locs lsA hR hS hL
        have he := eWs_at B K dA (n := n) (p := pp) (h := hh) x1 x2
        rw [eCe_arr (a := 21) (by decide) x4] at he
        show W p l e R s mI args below meth c H locs cells slots Q (F0 mI (mPc m pc) lsA (.int (Int32.ofInt w) :: .int (Int32.ofInt j) :: rv B K x :: List.map (cv B K) _))
        rw [rv_cell x1 x3]
        refine va_cast hx hb hK hR (eWs_D B K dA pp hh hw.2.2.2) hS (x - 1) 1 he rfl (oI_vp w1 j0 j1) hd (fun H1 locs1 hP1 _ hS1 => ?_)
        have h1 := kk H1 locs1 lsA (by
          show va_P D eCl (eWs B K dA n pp (up hh x j.toNat (w % 65536))) H1
          rw [← eWs_set B K dA (p := pp) (h := hh) x1 x2 (fun q hq => ⟨rfl, by funext i; unfold up; rw [if_neg (fun z => hq z.1)]⟩) rfl]
          rw [eCe_arr (a := 21) (by decide) x4]
          rw [oI_clamp w1] at hP1
          have hf : eAr B K 21 (ewL x) (pp x) (up hh x j.toNat (w % 65536) x) = (ewL x, .inl (upd (fun i => Int32.ofInt (hh x i)) j.toNat (vp_nar .char (Int32.ofInt w)))) := by
            show (ewL x, _) = (ewL x, _)
            congr 2
            funext i
            unfold up upd
            by_cases hi : i = j.toNat
            · rw [if_pos ⟨rfl, hi⟩, if_pos hi]
              exact (nr_c w0).symm
            · rw [if_neg (fun z => hi z.2), if_neg hi]
          rw [hf]
          exact hP1) hS1 (hL.mv B K hns)
        rw [nx1 hk] at h1
        exact h1
      · cases hk
    · cases hs
  · cases hs
theorem sl_57 {X : eX} {pc a b k : Nat} {v : Int} {tg : List Nat} {ls st : List eV} {n e : Nat} {p : Nat → Nat → Nat} {h : Nat → Nat → Int} : eSel ewK ewL ewT X pc (57, a, b, k, v, tg) ls st (n, e, p, h) = (match st with
    | .inl w :: .inl j :: .inr (.inl x) :: st => if kn ewK n x = 22 ∧ 0 ≤ j ∧ j < ewL x ∧ (w = 0 ∨ w = 1) then eNx (pc + 1) ls st (n, e, p, up h x j.toNat w) else none
    | _ => none) := by rcases st with _ | ⟨(_ | _ | _ | _ | _ | _), (_ | ⟨(_ | _ | _ | _ | _ | _), (_ | ⟨(_ | _ | _ | _ | _ | _), _⟩)⟩)⟩ <;> rfl
theorem ck_57 {m i a b k : Nat} {v : Int} {tg : List Nat} : chk m i (57, a, b, k, v, tg) = (match ewD m i with
    | .ok (.bastore, 1) => nxt m i 1
    | _ => false) := rfl
set_option maxHeartbeats 1000000 in
theorem op_57 (C : eCx B K dA D p l s mI args meth c m) {pc a b k : Nat} {v : Int} {tg : List Nat} {ls st ls' st' : List eV} {n e0 : Nat} {pp : Nat → Nat → Nat} {hh : Nat → Nat → Int} {μ' : eM} {pc' : Nat} (hns : ¬ m = m_L_sounds) (hk : chk m pc (57, a, b, k, v, tg) = true) (hw : eWf ls st (n, e0, pp, hh)) (hs : eSel ewK ewL ewT X pc (57, a, b, k, v, tg) ls st (n, e0, pp, hh) = some (.inl (pc', ls', st', μ'))) (kk : eVv B K dA D p l e R s mI args below meth c Q m cells slots pc' ls' st' μ') : eVv B K dA D p l e R s mI args below meth c Q m cells slots pc ls st (n, e0, pp, hh) := by
  obtain ⟨hx, hb, hr, hml, hown, hts, hlk, htb, hnm, hst, hB1, hK, hC⟩ := C
  rw [sl_57] at hs
  rw [ck_57] at hk
  split at hs
  next w j x st2 =>
    have w1 : inR j := hw.2.1 _ (List.mem_cons_of_mem _ List.mem_cons_self)
    have w0 := hw.2.1 _ List.mem_cons_self
    split at hs
    next hg =>
      obtain ⟨hkn, j0, j1, hz⟩ := hg
      obtain ⟨x1, x2, x3, x4⟩ := kn_of (by decide) hkn
      split at hk
      next hd =>
        cases hs
        intro H locs lsA hR hS hL
        have he := eWs_at B K dA (n := n) (p := pp) (h := hh) x1 x2
        rw [eCe_arr (a := 22) (by decide) x4] at he
        show W p l e R s mI args below meth c H locs cells slots Q (F0 mI (mPc m pc) lsA (.int (Int32.ofInt w) :: .int (Int32.ofInt j) :: rv B K x :: List.map (cv B K) _))
        rw [rv_cell x1 x3]
        refine va_zast hx hb hK hR (eWs_D B K dA pp hh hw.2.2.2) hS (x - 1) 2 he rfl (oI_vp w1 j0 j1) hd (fun H1 locs1 hP1 _ hS1 => ?_)
        have h1 := kk H1 locs1 lsA (by
          show va_P D eCl (eWs B K dA n pp (up hh x j.toNat (w))) H1
          rw [← eWs_set B K dA (p := pp) (h := hh) x1 x2 (fun q hq => ⟨rfl, by funext i; unfold up; rw [if_neg (fun z => hq z.1)]⟩) rfl]
          rw [eCe_arr (a := 22) (by decide) x4]
          rw [oI_clamp w1] at hP1
          have hf : eAr B K 22 (ewL x) (pp x) (up hh x j.toNat (w) x) = (ewL x, .inl (upd (fun i => Int32.ofInt (hh x i)) j.toNat (vp_nar .boolean (Int32.ofInt w)))) := by
            show (ewL x, _) = (ewL x, _)
            congr 2
            funext i
            unfold up upd
            by_cases hi : i = j.toNat
            · rw [if_pos ⟨rfl, hi⟩, if_pos hi]
              exact (nr_z hz).symm
            · rw [if_neg (fun z => hi z.2), if_neg hi]
          rw [hf]
          exact hP1) hS1 (hL.mv B K hns)
        rw [nx1 hk] at h1
        exact h1
      · cases hk
    · cases hs
  · cases hs
theorem sl_25 {X : eX} {pc a b k : Nat} {v : Int} {tg : List Nat} {ls st : List eV} {n e : Nat} {p : Nat → Nat → Nat} {h : Nat → Nat → Int} : eSel ewK ewL ewT X pc (25, a, b, k, v, tg) ls st (n, e, p, h) = (match st with
    | .inr (.inl x) :: st => if 20 ≤ kn ewK n x then eNx (pc + 1) ls (vI (ewL x) :: st) (n, e, p, h) else none
    | _ => none) := by rcases st with _ | ⟨(_ | _ | _ | _ | _ | _), _⟩ <;> rfl
theorem ck_25 {m i a b k : Nat} {v : Int} {tg : List Nat} : chk m i (25, a, b, k, v, tg) = (match ewD m i with
    | .ok (.arraylength, 1) => nxt m i 1
    | _ => false) := rfl
set_option maxHeartbeats 1000000 in
theorem op_25 (C : eCx B K dA D p l s mI args meth c m) {pc a b k : Nat} {v : Int} {tg : List Nat} {ls st ls' st' : List eV} {n e0 : Nat} {pp : Nat → Nat → Nat} {hh : Nat → Nat → Int} {μ' : eM} {pc' : Nat} (hk : chk m pc (25, a, b, k, v, tg) = true) (hw : eWf ls st (n, e0, pp, hh)) (hs : eSel ewK ewL ewT X pc (25, a, b, k, v, tg) ls st (n, e0, pp, hh) = some (.inl (pc', ls', st', μ'))) (kk : eVv B K dA D p l e R s mI args below meth c Q m cells slots pc' ls' st' μ') : eVv B K dA D p l e R s mI args below meth c Q m cells slots pc ls st (n, e0, pp, hh) := by
  obtain ⟨hx, hb, hr, hml, hown, hts, hlk, htb, hnm, hst, hB1, hK, hC⟩ := C
  rw [sl_25] at hs
  rw [ck_25] at hk
  split at hs
  next x st2 =>
    split at hs
    next hg =>
      split at hk
      next hd =>
        obtain ⟨x1, x2, x3, x4⟩ := kn_of (k := kn ewK n x) (by omega) rfl
        cases hs
        intro H locs lsA hR hS hL
        have h1 := kk H locs lsA hR hS hL
        rw [nx1 hk] at h1
        have he := eWs_at B K dA (n := n) (p := pp) (h := hh) x1 x2
        rw [eCe_arr (a := kn ewK n x) hg x4] at he
        have hlen : ∀ (k len : Nat) (pr : Nat → Nat) (hr : Nat → Int), (eAr B K k len pr hr).1 = len := by
          intro k len pr hr
          unfold eAr
          split
          · rfl
          · split
            · rfl
            · split <;> rfl
        show W p l e R s mI args below meth c H locs cells slots Q (F0 mI (mPc m pc) lsA (rv B K x :: List.map (cv B K) _))
        rw [rv_cell x1 x3]
        have hsm : ∀ a, ewK a ≠ 0 → ewK a < 20 ∨ (ewK a = 20 ∨ ewK a = 21 ∨ ewK a = 22 ∨ ewK a = 30 ∨ ewK a = 31 ∨ ewK a = 32) := by
          have : ∀ a, a < 1000 → ewK a < 20 ∨ (ewK a = 20 ∨ ewK a = 21 ∨ ewK a = 22 ∨ ewK a = 30 ∨ ewK a = 31 ∨ ewK a = 32) := by decide +kernel
          intro a ha
          exact this a (ewK_big a ha).2
        have hv : Int32.ofNat (eAr B K (kn ewK n x) (ewL x) (pp x) (hh x)).1 = Int32.ofInt (ewL x : Int) := by
          rw [hlen]; exact Int32.ofInt_eq_ofNat.symm
        have hkk := hsm x (by omega)
        rw [x4] at hkk
        rcases hkk with q | q | q | q | q | q | q
        · omega
        · rw [q] at he hv
          exact va_alen hx hb hK hR (x - 1) 0 he rfl hv hd h1
        · rw [q] at he hv
          exact va_alen hx hb hK hR (x - 1) 1 he rfl hv hd h1
        · rw [q] at he hv
          exact va_alen hx hb hK hR (x - 1) 2 he rfl hv hd h1
        · rw [q] at he hv
          exact va_alen hx hb hK hR (x - 1) 3 he rfl hv hd h1
        · rw [q] at he hv
          exact va_alen hx hb hK hR (x - 1) 4 he rfl hv hd h1
        · rw [q] at he hv
          exact va_alen hx hb hK hR (x - 1) 5 he rfl hv hd h1
      · cases hk
    · cases hs
  · cases hs
end
