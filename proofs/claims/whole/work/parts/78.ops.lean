/-! one lemma an instruction: what holds behind it holds ahead of it -/
def eVw (v : eV) : Prop := match v with
  | .inl x => inR x
  | .inr (.inr (.inl x)) => inR x
  | _ => True
def eWf (ls st : List eV) (μ : eM) : Prop := (∀ v ∈ ls, eVw v) ∧ (∀ v ∈ st, eVw v) ∧ (∀ a k, ¬ ewK a = 24 → inR (μ.2.2.2 a k)) ∧ (∀ a k, ewK a = 24 → 0 ≤ μ.2.2.2 a k ∧ μ.2.2.2 a k < 18446744073709551616)
section
variable (B : Nat) (K : Nat → Nat) (dA : Nat → ClassId) (D : va_G)
def eIsJ (v : eV) : Bool := match v with
  | .inr (.inr (.inr (.inr (.inr _)))) => true
  | _ => false
def eLR (lsA : Array Slot) (nL : Nat) (L : List eV) : Prop := lsA.size = nL ∧ lv_wf lsA ∧ L.length = nL ∧ ∀ (k : Nat) (v : eV), L[k]? = some v → eIsJ v = false → lsA[k]? = some (.val (cv B K v))
def eKn (L : List eV) : List (Nat × Value) := L.zipIdx.filterMap (fun q => if eIsJ q.1 then none else some (q.2, cv B K q.1))
/-- what the start of the law gives of constants and the machine's own statics -/
def eCst (s : State) : Prop := vx_Zq Bundle.tN "UNASSIGNED_STACK" Bundle.steD (fun q => B < q) s s.heap ∧ vx_Zq Bundle.tN "SUPPRESSED_SENTINEL" Bundle.listD (fun q => B < q) s s.heap ∧ va_AO "EchoWells$Well" s ∧ va_AO "EchoWells$Rope" s ∧ va_AO "EchoWells$World" s
def eCx (p : Program) (l : Launch) (s : State) (mI : MethodId) (args : Array Value) (meth : Method) (c : Code) (m : Nat) : Prop :=
  p.tables.exec = Jvm.exec ∧ c.code = mBy m ∧ meth.sig.returnType = mRt m ∧ c.maxLocals = ewMax m ∧ s.vm.findClass (mNm m).cls = some mI.cls ∧ (∀ w ∈ lw_tbl.filter (fun w => goodWord w || ewBad4 w), w.before args s = true) ∧ meth.locks = false ∧ c.exceptionTable.toList = tableOf (mHh m) ∧ meth.name = (mNm m).name ∧ l.stackTraces = false ∧ va_K D eCl (eTys dA) s ∧ eCst B s
def eVv (p : Program) (l : Launch) (e : Env) (R : Room) (s : State) (mI : MethodId) (args : Array Value) (below : List Frame) (meth : Method) (c : Code) (Q : State → Prop) (m : Nat) (cells slots : Nat) (pc : Nat) (ls st : List eV) (μ : eM) : Prop :=
  ∀ H locs lsA, eRep B K dA D μ H → va_S (fun q => B < q) s.heap H locs → eLR B K lsA (ewMax m) ls → W p l e R s mI args below meth c H locs cells slots Q (F0 mI (mPc m pc) lsA (st.map (cv B K)))
theorem eKn_mem {L : List eV} {k : Nat} {w : Value} : (k, w) ∈ eKn B K L ↔ ∃ v, L[k]? = some v ∧ eIsJ v = false ∧ w = cv B K v := by
  unfold eKn
  rw [List.mem_filterMap]
  constructor
  · rintro ⟨⟨v, j⟩, h1, h2⟩
    have h3 := List.mem_zipIdx_iff_getElem?.mp h1
    simp only at h2 h3
    split at h2
    · cases h2
    next h4 =>
      cases h2
      exact ⟨v, h3, by simpa using h4, rfl⟩
  · rintro ⟨v, h1, h2, rfl⟩
    refine ⟨(v, k), List.mem_zipIdx_iff_getElem?.mpr h1, ?_⟩
    simp [h2]
theorem eLR.has {lsA : Array Slot} {nL : Nat} {L : List eV} (h : eLR B K lsA nL L) : lv_has lsA nL (eKn B K L) := by
  obtain ⟨h1, h2, h3, h4⟩ := h
  refine ⟨h1, h2, ?_⟩
  rintro ⟨k, w⟩ hq
  obtain ⟨v, e1, e2, rfl⟩ := (eKn_mem B K).mp hq
  exact h4 k v e1 e2
theorem cv_cat (v : eV) (hj : eIsJ v = false) : (cv B K v).category = 2 ↔ eIsD v = true := by
  match v with
  | .inl x => simp [cv, eIsD, Value.category]
  | .inr (.inl a) => simp only [cv, rv, eIsD]; split <;> (try split) <;> simp [Value.category]
  | .inr (.inr (.inl x)) => simp [cv, eIsD, Value.category]
  | .inr (.inr (.inr (.inl x))) => simp [cv, eIsD, Value.category]
  | .inr (.inr (.inr (.inr (.inl x)))) => simp [cv, eIsD, Value.category]
  | .inr (.inr (.inr (.inr (.inr x)))) => simp [eIsJ] at hj
theorem eSt_len (L : List eV) (i : Nat) (w : eV) : (eSt L i w).length = L.length := by
  unfold eSt
  split
  · simp
  · split <;> simp
theorem eSt_at {L : List eV} {i k : Nat} {w v : eV} (h : (eSt L i w)[k]? = some v) (hj : eIsJ v = false) : (k = i ∧ v = w ∧ i < L.length) ∨ (k ≠ i ∧ L[k]? = some v ∧ (k + 1 = i → eIsD v = false)) := by
  unfold eSt at h
  split at h
  · rw [List.getElem?_set] at h
    split at h
    next hk =>
      split at h
      next hl => cases h; exact Or.inl ⟨hk.symm, rfl, hl⟩
      · cases h
    next hk => exact Or.inr ⟨fun z => hk z.symm, h, fun z => by omega⟩
  next j =>
    split at h
    next hd =>
      rw [List.getElem?_set] at h
      split at h
      next hk =>
        split at h
        next hl => cases h; simp at hl; exact Or.inl ⟨hk.symm, rfl, hl⟩
        · cases h
      next hk =>
        rw [List.getElem?_set] at h
        split at h
        next hk2 =>
          split at h
          · cases h; simp [eIsJ] at hj
          · cases h
        next hk2 => exact Or.inr ⟨fun z => hk z.symm, h, fun z => absurd (by omega) hk2⟩
    next hd =>
      rw [List.getElem?_set] at h
      split at h
      next hk =>
        split at h
        next hl => cases h; exact Or.inl ⟨hk.symm, rfl, hl⟩
        · cases h
      next hk =>
        refine Or.inr ⟨fun z => hk z.symm, h, fun z => ?_⟩
        have : k = j := by omega
        subst this
        cases hv : eIsD v with
        | false => rfl
        | true =>
          exfalso
          apply hd
          show eIsD (L.getD k vJ) = true
          rw [List.getD_eq_getElem?_getD, h]
          exact hv
theorem eLR.put {lsA ls' : Array Slot} {nL i : Nat} {L : List eV} {w : eV} (h : eLR B K lsA nL L) (h' : lv_has ls' nL ((i, cv B K w) :: (eKn B K L).filter (fun q => !(q.1 == i) && !(q.1 + 1 == i && q.2.category == 2)))) : eLR B K ls' nL (eSt L i w) := by
  obtain ⟨h1, h2, h3⟩ := h'
  refine ⟨h1, h2, by rw [eSt_len]; exact h.2.2.1, ?_⟩
  intro k v hk hj
  rcases eSt_at hk hj with ⟨rfl, rfl, -⟩ | ⟨hne, hl, hd⟩
  · exact h3 _ List.mem_cons_self
  · refine h3 (k, cv B K v) (List.mem_cons_of_mem _ (List.mem_filter.mpr ⟨(eKn_mem B K).mpr ⟨v, hl, hj, rfl⟩, ?_⟩))
    have hc : ¬ (k + 1 = i ∧ (cv B K v).category = 2) := by
      rintro ⟨z1, z2⟩
      rw [cv_cat B K v hj, hd z1] at z2
      cases z2
    simp only [Bool.and_eq_true, Bool.not_eq_true', beq_eq_false_iff_ne, ne_eq, Bool.and_eq_false_imp, beq_iff_eq]
    refine ⟨hne, ?_⟩
    simp only [Bool.and_eq_false_iff, beq_eq_false_iff_ne, ne_eq]
    by_cases z : k + 1 = i
    · exact Or.inr fun z2 => hc ⟨z, z2⟩
    · exact Or.inl z
end
theorem nx1 {m i len : Nat} (h : nxt m i len = true) : mPc m (i + 1) = mPc m i + len := by simpa [nxt] using h
theorem tg1 {m i t : Nat} {off : Int} (h : tgO m i off t = true) : (mPc m i : Int) + off = (mPc m t : Int) := by simpa [tgO] using h
theorem rv_cell {B : Nat} {K : Nat → Nat} {a : Nat} (h1 : 1 ≤ a) (h2 : a < 1000) : rv B K a = .ref (B + a) := by
  unfold rv
  rw [if_neg (by omega), if_pos h2]
theorem rv_ref {B : Nat} {K : Nat → Nat} {a : Nat} (h : ¬ a = 0) : ∃ q : Nat, rv B K a = .ref q := by
  unfold rv
  rw [if_neg h]
  split
  · exact ⟨_, rfl⟩
  · exact ⟨_, rfl⟩
theorem rv_null {B : Nat} {K : Nat → Nat} : rv B K 0 = .null := rfl
theorem ewK_big : ∀ a, ewK a ≠ 0 → 1 ≤ a ∧ a < 1000 := by
  intro a h
  have h0 : ewK 0 = 0 := by decide +kernel
  refine ⟨?_, ?_⟩
  · rcases Nat.eq_zero_or_pos a with q | q
    · subst q; exact absurd h0 h
    · exact q
  · rcases Nat.lt_or_ge a 1000 with q | q
    · exact q
    · exfalso
      apply h
      have h1 : kdTbl.length = 19 := by decide +kernel
      unfold ewK
      have h2 : kdTbl.getD (a / 32) [] = [] := by
        rw [List.getD_eq_getElem?_getD, List.getElem?_eq_none (by omega)]
        rfl
      rw [h2]; rfl
theorem kn_of {n a k : Nat} (hk : ¬ k = 0) (h : kn ewK n a = k) : 1 ≤ a ∧ a ≤ n ∧ a < 1000 ∧ ewK a = k := by
  unfold kn at h
  split at h
  next hn =>
    have := ewK_big a (by omega)
    exact ⟨this.1, hn, this.2, h⟩
  · exact absurd h.symm hk
section
variable {B : Nat} {K : Nat → Nat} {dA : Nat → ClassId} {D : va_G} {X : eX}
variable {p : Program} {l : Launch} {e : Env} {R : Room} {s : State} {mI : MethodId} {args : Array Value} {below : List Frame} {meth : Method} {c : Code} {cells slots : Nat} {Q : State → Prop} {m : Nat}
set_option maxHeartbeats 1000000 in
theorem op_0 (C : eCx B K dA D p l s mI args meth c m) {pc a b k : Nat} {v : Int} {tg : List Nat} {ls st ls' st' : List eV} {n e0 : Nat} {pp : Nat → Nat → Nat} {hh : Nat → Nat → Int} {μ' : eM} {pc' : Nat} (hk : chk m pc (0, a, b, k, v, tg) = true) (hw : eWf ls st (n, e0, pp, hh)) (hs : eSel ewK ewL ewT X pc (0, a, b, k, v, tg) ls st (n, e0, pp, hh) = some (.inl (pc', ls', st', μ'))) (kk : eVv B K dA D p l e R s mI args below meth c Q m cells slots pc' ls' st' μ') : eVv B K dA D p l e R s mI args below meth c Q m cells slots pc ls st (n, e0, pp, hh) := by
  obtain ⟨hx, hb, hr, hml, hown, hts, hlk, htb, hnm, hst, hK, hC⟩ := C
  unfold eSel eSem at hs
  unfold chk at hk
  dsimp only at hs hk
  split at hs
  next x hl9 =>
    have hl0 : ∀ (lsA : Array Slot), eLR B K lsA (ewMax m) ls → lsA[a]? = some (.val (rv B K x)) := fun lsA hL => hL.2.2.2 a _ hl9 rfl
    split at hk
    next j hd =>
      simp only [Bool.and_eq_true, decide_eq_true_eq] at hk
      cases hs
      intro H locs lsA hR hS hL
      have h1 := kk H locs lsA hR hS hL
      rw [nx1 hk.2] at h1
      have h2 := hl0 lsA hL
      by_cases hz : x = 0
      · subst hz
        exact lv_aload_nN hx hb hd hk.1 h2 h1
      · obtain ⟨q, hq⟩ := rv_ref (B := B) (K := K) hz
        rw [hq] at h2
        exact lv_aload_n hx hb hd hk.1 h2 (by rw [← hq]; exact h1)
    next j hd =>
      simp only [Bool.and_eq_true, decide_eq_true_eq] at hk
      obtain ⟨rfl, hn⟩ := hk
      cases hs
      intro H locs lsA hR hS hL
      have h1 := kk H locs lsA hR hS hL
      rw [nx1 hn] at h1
      have h2 := hl0 lsA hL
      by_cases hz : x = 0
      · subst hz
        exact lv_aloadN hx hb hd h2 h1
      · obtain ⟨q, hq⟩ := rv_ref (B := B) (K := K) hz
        rw [hq] at h2
        exact lv_aload hx hb hd h2 (by rw [← hq]; exact h1)
    · cases hk
  · cases hs
set_option maxHeartbeats 1000000 in
theorem op_1 (C : eCx B K dA D p l s mI args meth c m) {pc a b k : Nat} {v : Int} {tg : List Nat} {ls st ls' st' : List eV} {n e0 : Nat} {pp : Nat → Nat → Nat} {hh : Nat → Nat → Int} {μ' : eM} {pc' : Nat} (hk : chk m pc (1, a, b, k, v, tg) = true) (hw : eWf ls st (n, e0, pp, hh)) (hs : eSel ewK ewL ewT X pc (1, a, b, k, v, tg) ls st (n, e0, pp, hh) = some (.inl (pc', ls', st', μ'))) (kk : eVv B K dA D p l e R s mI args below meth c Q m cells slots pc' ls' st' μ') : eVv B K dA D p l e R s mI args below meth c Q m cells slots pc ls st (n, e0, pp, hh) := by
  obtain ⟨hx, hb, hr, hml, hown, hts, hlk, htb, hnm, hst, hK, hC⟩ := C
  unfold eSel eSem at hs
  unfold chk at hk
  dsimp only at hs hk
  split at hs
  next x hl9 =>
    have hl0 : ∀ (lsA : Array Slot), eLR B K lsA (ewMax m) ls → lsA[a]? = some (.val (.int (Int32.ofInt x))) := fun lsA hL => hL.2.2.2 a _ hl9 rfl
    split at hk
    next j hd =>
      simp only [Bool.and_eq_true, decide_eq_true_eq] at hk
      cases hs
      intro H locs lsA hR hS hL
      have h1 := kk H locs lsA hR hS hL
      rw [nx1 hk.2] at h1
      exact lv_iload_n hx hb hd hk.1 (hl0 lsA hL) h1
    next j hd =>
      simp only [Bool.and_eq_true, decide_eq_true_eq] at hk
      obtain ⟨rfl, hn⟩ := hk
      cases hs
      intro H locs lsA hR hS hL
      have h1 := kk H locs lsA hR hS hL
      rw [nx1 hn] at h1
      exact lv_iload hx hb hd (hl0 lsA hL) h1
    · cases hk
  · cases hs
set_option maxHeartbeats 1000000 in
theorem op_2 (C : eCx B K dA D p l s mI args meth c m) {pc a b k : Nat} {v : Int} {tg : List Nat} {ls st ls' st' : List eV} {n e0 : Nat} {pp : Nat → Nat → Nat} {hh : Nat → Nat → Int} {μ' : eM} {pc' : Nat} (hk : chk m pc (2, a, b, k, v, tg) = true) (hw : eWf ls st (n, e0, pp, hh)) (hs : eSel ewK ewL ewT X pc (2, a, b, k, v, tg) ls st (n, e0, pp, hh) = some (.inl (pc', ls', st', μ'))) (kk : eVv B K dA D p l e R s mI args below meth c Q m cells slots pc' ls' st' μ') : eVv B K dA D p l e R s mI args below meth c Q m cells slots pc ls st (n, e0, pp, hh) := by
  obtain ⟨hx, hb, hr, hml, hown, hts, hlk, htb, hnm, hst, hK, hC⟩ := C
  unfold eSel eSem at hs
  unfold chk at hk
  dsimp only at hs hk
  cases hs
  simp only [Bool.and_eq_true] at hk
  obtain ⟨hv, hk⟩ := hk
  split at hk
  next q hd =>
    simp only [Bool.and_eq_true, decide_eq_true_eq] at hk
    intro H locs lsA hR hS hL
    have h1 := kk H locs lsA hR hS hL
    rw [nx1 hk.2] at h1
    exact lv_iconst hx hb hd hk.1 h1
  next q hd =>
    simp only [Bool.and_eq_true, decide_eq_true_eq] at hk
    intro H locs lsA hR hS hL
    have h1 := kk H locs lsA hR hS hL
    rw [nx1 hk.2] at h1
    exact lv_bipush hx hb hd hk.1 h1
  next q hd =>
    simp only [Bool.and_eq_true, decide_eq_true_eq] at hk
    intro H locs lsA hR hS hL
    have h1 := kk H locs lsA hR hS hL
    rw [nx1 hk.2] at h1
    exact lv_sipush hx hb hd hk.1 h1
  · cases hk
set_option maxHeartbeats 1000000 in
theorem op_7 (C : eCx B K dA D p l s mI args meth c m) {pc a b k : Nat} {v : Int} {tg : List Nat} {ls st ls' st' : List eV} {n e0 : Nat} {pp : Nat → Nat → Nat} {hh : Nat → Nat → Int} {μ' : eM} {pc' : Nat} (hk : chk m pc (7, a, b, k, v, tg) = true) (hw : eWf ls st (n, e0, pp, hh)) (hs : eSel ewK ewL ewT X pc (7, a, b, k, v, tg) ls st (n, e0, pp, hh) = some (.inl (pc', ls', st', μ'))) (kk : eVv B K dA D p l e R s mI args below meth c Q m cells slots pc' ls' st' μ') : eVv B K dA D p l e R s mI args below meth c Q m cells slots pc ls st (n, e0, pp, hh) := by
  obtain ⟨hx, hb, hr, hml, hown, hts, hlk, htb, hnm, hst, hK, hC⟩ := C
  unfold eSel eSem at hs
  unfold chk at hk
  dsimp only at hs hk
  split at hk
  next off hd =>
    cases hs
    intro H locs lsA hR hS hL
    exact lv_goto hx hb hd (tg1 hk) (kk H locs lsA hR hS hL)
  · cases hk
set_option maxHeartbeats 1000000 in
theorem op_8 (C : eCx B K dA D p l s mI args meth c m) {pc a b k : Nat} {v : Int} {tg : List Nat} {ls st ls' st' : List eV} {n e0 : Nat} {pp : Nat → Nat → Nat} {hh : Nat → Nat → Int} {μ' : eM} {pc' : Nat} (hk : chk m pc (8, a, b, k, v, tg) = true) (hw : eWf ls st (n, e0, pp, hh)) (hs : eSel ewK ewL ewT X pc (8, a, b, k, v, tg) ls st (n, e0, pp, hh) = some (.inl (pc', ls', st', μ'))) (kk : eVv B K dA D p l e R s mI args below meth c Q m cells slots pc' ls' st' μ') : eVv B K dA D p l e R s mI args below meth c Q m cells slots pc ls st (n, e0, pp, hh) := by
  obtain ⟨hx, hb, hr, hml, hown, hts, hlk, htb, hnm, hst, hK, hC⟩ := C
  unfold eSel eSem at hs
  unfold chk at hk
  dsimp only at hs hk
  split at hs
  next y x st2 =>
    split at hk
    next hd =>
      cases hs
      intro H locs lsA hR hS hL
      have h1 := kk H locs lsA hR hS hL
      rw [nx1 hk] at h1
      refine lv_iadd hx hb hd ?_
      rw [oI_add]
      exact h1
    · cases hk
  · cases hs
set_option maxHeartbeats 1000000 in
theorem op_18 (C : eCx B K dA D p l s mI args meth c m) {pc a b k : Nat} {v : Int} {tg : List Nat} {ls st ls' st' : List eV} {n e0 : Nat} {pp : Nat → Nat → Nat} {hh : Nat → Nat → Int} {μ' : eM} {pc' : Nat} (hk : chk m pc (18, a, b, k, v, tg) = true) (hw : eWf ls st (n, e0, pp, hh)) (hs : eSel ewK ewL ewT X pc (18, a, b, k, v, tg) ls st (n, e0, pp, hh) = some (.inl (pc', ls', st', μ'))) (kk : eVv B K dA D p l e R s mI args below meth c Q m cells slots pc' ls' st' μ') : eVv B K dA D p l e R s mI args below meth c Q m cells slots pc ls st (n, e0, pp, hh) := by
  obtain ⟨hx, hb, hr, hml, hown, hts, hlk, htb, hnm, hst, hK, hC⟩ := C
  unfold eSel eSem at hs
  unfold chk at hk
  dsimp only at hs hk
  split at hs
  next y x st2 =>
    split at hk
    next hd =>
      cases hs
      intro H locs lsA hR hS hL
      have h1 := kk H locs lsA hR hS hL
      rw [nx1 hk] at h1
      refine lv_isub hx hb hd ?_
      rw [oI_sub]
      exact h1
    · cases hk
  · cases hs
set_option maxHeartbeats 1000000 in
theorem op_22 (C : eCx B K dA D p l s mI args meth c m) {pc a b k : Nat} {v : Int} {tg : List Nat} {ls st ls' st' : List eV} {n e0 : Nat} {pp : Nat → Nat → Nat} {hh : Nat → Nat → Int} {μ' : eM} {pc' : Nat} (hk : chk m pc (22, a, b, k, v, tg) = true) (hw : eWf ls st (n, e0, pp, hh)) (hs : eSel ewK ewL ewT X pc (22, a, b, k, v, tg) ls st (n, e0, pp, hh) = some (.inl (pc', ls', st', μ'))) (kk : eVv B K dA D p l e R s mI args below meth c Q m cells slots pc' ls' st' μ') : eVv B K dA D p l e R s mI args below meth c Q m cells slots pc ls st (n, e0, pp, hh) := by
  obtain ⟨hx, hb, hr, hml, hown, hts, hlk, htb, hnm, hst, hK, hC⟩ := C
  unfold eSel eSem at hs
  unfold chk at hk
  dsimp only at hs hk
  split at hs
  next y x st2 =>
    split at hk
    next hd =>
      cases hs
      intro H locs lsA hR hS hL
      have h1 := kk H locs lsA hR hS hL
      rw [nx1 hk] at h1
      refine lv_imul hx hb hd ?_
      rw [oI_mul]
      exact h1
    · cases hk
  · cases hs
set_option maxHeartbeats 1000000 in
theorem op_9 (C : eCx B K dA D p l s mI args meth c m) {pc a b k : Nat} {v : Int} {tg : List Nat} {ls st ls' st' : List eV} {n e0 : Nat} {pp : Nat → Nat → Nat} {hh : Nat → Nat → Int} {μ' : eM} {pc' : Nat} (hk : chk m pc (9, a, b, k, v, tg) = true) (hw : eWf ls st (n, e0, pp, hh)) (hs : eSel ewK ewL ewT X pc (9, a, b, k, v, tg) ls st (n, e0, pp, hh) = some (.inl (pc', ls', st', μ'))) (kk : eVv B K dA D p l e R s mI args below meth c Q m cells slots pc' ls' st' μ') : eVv B K dA D p l e R s mI args below meth c Q m cells slots pc ls st (n, e0, pp, hh) := by
  obtain ⟨hx, hb, hr, hml, hown, hts, hlk, htb, hnm, hst, hK, hC⟩ := C
  unfold eSel eSem at hs
  unfold chk at hk
  dsimp only at hs hk
  split at hs
  next x st2 =>
    have w1 : inR x := hw.2.1 _ List.mem_cons_self
    split at hk
    next off hd =>
      simp only [Bool.and_eq_true, decide_eq_true_eq] at hk
      obtain ⟨⟨hn, rfl⟩, ht⟩ := hk
      dsimp only at hs
      intro H locs lsA hR hS hL
      refine lv_if_eq hx hb hd (tg1 ht) (fun hc => ?_) (fun hc => ?_)
      · have hc' : x = 0 := (oI_eq0 w1).mp hc
        rw [if_pos hc'] at hs
        cases hs
        exact kk H locs lsA hR hS hL
      · have hc' : ¬ x = 0 := fun q => hc ((oI_eq0 w1).mpr q)
        rw [if_neg hc'] at hs
        cases hs
        have h1 := kk H locs lsA hR hS hL
        rw [nx1 hn] at h1
        exact h1
    next off hd =>
      simp only [Bool.and_eq_true, decide_eq_true_eq] at hk
      obtain ⟨⟨hn, rfl⟩, ht⟩ := hk
      dsimp only at hs
      intro H locs lsA hR hS hL
      refine lv_if_ne hx hb hd (tg1 ht) (fun hc => ?_) (fun hc => ?_)
      · have hc' : ¬ x = 0 := fun q => hc ((oI_eq0 w1).mpr q)
        rw [if_neg hc'] at hs
        cases hs
        exact kk H locs lsA hR hS hL
      · have hc' : x = 0 := Decidable.byContradiction fun q => hc (fun q2 => q ((oI_eq0 w1).mp q2))
        rw [if_pos hc'] at hs
        cases hs
        have h1 := kk H locs lsA hR hS hL
        rw [nx1 hn] at h1
        exact h1
    next off hd =>
      simp only [Bool.and_eq_true, decide_eq_true_eq] at hk
      obtain ⟨⟨hn, rfl⟩, ht⟩ := hk
      dsimp only at hs
      intro H locs lsA hR hS hL
      refine lv_if_lt hx hb hd (tg1 ht) (fun hc => ?_) (fun hc => ?_)
      · have hc' : x < 0 := (oI_lt w1 in0).mp hc
        rw [if_pos hc'] at hs
        cases hs
        exact kk H locs lsA hR hS hL
      · have hc' : ¬ x < 0 := fun q => hc ((oI_lt w1 in0).mpr q)
        rw [if_neg hc'] at hs
        cases hs
        have h1 := kk H locs lsA hR hS hL
        rw [nx1 hn] at h1
        exact h1
    next off hd =>
      simp only [Bool.and_eq_true, decide_eq_true_eq] at hk
      obtain ⟨⟨hn, rfl⟩, ht⟩ := hk
      dsimp only at hs
      intro H locs lsA hR hS hL
      refine lv_if_ge hx hb hd (tg1 ht) (fun hc => ?_) (fun hc => ?_)
      · have hc' : ¬ x < 0 := Int.not_lt.mpr ((oI_le in0 w1).mp hc)
        rw [if_neg hc'] at hs
        cases hs
        exact kk H locs lsA hR hS hL
      · have hc' : x < 0 := Decidable.byContradiction fun q => hc ((oI_le in0 w1).mpr (Int.not_lt.mp q))
        rw [if_pos hc'] at hs
        cases hs
        have h1 := kk H locs lsA hR hS hL
        rw [nx1 hn] at h1
        exact h1
    next off hd =>
      simp only [Bool.and_eq_true, decide_eq_true_eq] at hk
      obtain ⟨⟨hn, rfl⟩, ht⟩ := hk
      dsimp only at hs
      intro H locs lsA hR hS hL
      refine lv_if_gt hx hb hd (tg1 ht) (fun hc => ?_) (fun hc => ?_)
      · have hc' : ¬ x ≤ 0 := Int.not_le.mpr ((oI_lt in0 w1).mp hc)
        rw [if_neg hc'] at hs
        cases hs
        exact kk H locs lsA hR hS hL
      · have hc' : x ≤ 0 := Decidable.byContradiction fun q => hc ((oI_lt in0 w1).mpr (Int.not_le.mp q))
        rw [if_pos hc'] at hs
        cases hs
        have h1 := kk H locs lsA hR hS hL
        rw [nx1 hn] at h1
        exact h1
    next off hd =>
      simp only [Bool.and_eq_true, decide_eq_true_eq] at hk
      obtain ⟨⟨hn, rfl⟩, ht⟩ := hk
      dsimp only at hs
      intro H locs lsA hR hS hL
      refine lv_if_le hx hb hd (tg1 ht) (fun hc => ?_) (fun hc => ?_)
      · have hc' : x ≤ 0 := (oI_le w1 in0).mp hc
        rw [if_pos hc'] at hs
        cases hs
        exact kk H locs lsA hR hS hL
      · have hc' : ¬ x ≤ 0 := fun q => hc ((oI_le w1 in0).mpr q)
        rw [if_neg hc'] at hs
        cases hs
        have h1 := kk H locs lsA hR hS hL
        rw [nx1 hn] at h1
        exact h1
    · cases hk
  · cases hs
set_option maxHeartbeats 1000000 in
theorem op_10 (C : eCx B K dA D p l s mI args meth c m) {pc a b k : Nat} {v : Int} {tg : List Nat} {ls st ls' st' : List eV} {n e0 : Nat} {pp : Nat → Nat → Nat} {hh : Nat → Nat → Int} {μ' : eM} {pc' : Nat} (hk : chk m pc (10, a, b, k, v, tg) = true) (hw : eWf ls st (n, e0, pp, hh)) (hs : eSel ewK ewL ewT X pc (10, a, b, k, v, tg) ls st (n, e0, pp, hh) = some (.inl (pc', ls', st', μ'))) (kk : eVv B K dA D p l e R s mI args below meth c Q m cells slots pc' ls' st' μ') : eVv B K dA D p l e R s mI args below meth c Q m cells slots pc ls st (n, e0, pp, hh) := by
  obtain ⟨hx, hb, hr, hml, hown, hts, hlk, htb, hnm, hst, hK, hC⟩ := C
  unfold eSel eSem at hs
  unfold chk at hk
  dsimp only at hs hk
  split at hs
  next y x st2 =>
    have w1 : inR y := hw.2.1 _ List.mem_cons_self
    have w2 : inR x := hw.2.1 _ (List.mem_cons_of_mem _ List.mem_cons_self)
    split at hk
    next off hd =>
      simp only [Bool.and_eq_true, decide_eq_true_eq] at hk
      obtain ⟨⟨hn, rfl⟩, ht⟩ := hk
      dsimp only at hs
      intro H locs lsA hR hS hL
      refine lv_icmp_eq hx hb hd (tg1 ht) (fun hc => ?_) (fun hc => ?_)
      · have hc' : x = y := (oI_eq w2 w1).mp hc
        rw [if_pos hc'] at hs
        cases hs
        exact kk H locs lsA hR hS hL
      · have hc' : ¬ x = y := fun q => hc ((oI_eq w2 w1).mpr q)
        rw [if_neg hc'] at hs
        cases hs
        have h1 := kk H locs lsA hR hS hL
        rw [nx1 hn] at h1
        exact h1
    next off hd =>
      simp only [Bool.and_eq_true, decide_eq_true_eq] at hk
      obtain ⟨⟨hn, rfl⟩, ht⟩ := hk
      dsimp only at hs
      intro H locs lsA hR hS hL
      refine lv_icmp_ne hx hb hd (tg1 ht) (fun hc => ?_) (fun hc => ?_)
      · have hc' : ¬ x = y := fun q => hc ((oI_eq w2 w1).mpr q)
        rw [if_neg hc'] at hs
        cases hs
        exact kk H locs lsA hR hS hL
      · have hc' : x = y := Decidable.byContradiction fun q => hc (fun q2 => q ((oI_eq w2 w1).mp q2))
        rw [if_pos hc'] at hs
        cases hs
        have h1 := kk H locs lsA hR hS hL
        rw [nx1 hn] at h1
        exact h1
    next off hd =>
      simp only [Bool.and_eq_true, decide_eq_true_eq] at hk
      obtain ⟨⟨hn, rfl⟩, ht⟩ := hk
      dsimp only at hs
      intro H locs lsA hR hS hL
      refine lv_icmp_lt hx hb hd (tg1 ht) (fun hc => ?_) (fun hc => ?_)
      · have hc' : x < y := (oI_lt w2 w1).mp hc
        rw [if_pos hc'] at hs
        cases hs
        exact kk H locs lsA hR hS hL
      · have hc' : ¬ x < y := fun q => hc ((oI_lt w2 w1).mpr q)
        rw [if_neg hc'] at hs
        cases hs
        have h1 := kk H locs lsA hR hS hL
        rw [nx1 hn] at h1
        exact h1
    next off hd =>
      simp only [Bool.and_eq_true, decide_eq_true_eq] at hk
      obtain ⟨⟨hn, rfl⟩, ht⟩ := hk
      dsimp only at hs
      intro H locs lsA hR hS hL
      refine lv_icmp_ge hx hb hd (tg1 ht) (fun hc => ?_) (fun hc => ?_)
      · have hc' : ¬ x < y := Int.not_lt.mpr ((oI_le w1 w2).mp hc)
        rw [if_neg hc'] at hs
        cases hs
        exact kk H locs lsA hR hS hL
      · have hc' : x < y := Decidable.byContradiction fun q => hc ((oI_le w1 w2).mpr (Int.not_lt.mp q))
        rw [if_pos hc'] at hs
        cases hs
        have h1 := kk H locs lsA hR hS hL
        rw [nx1 hn] at h1
        exact h1
    next off hd =>
      simp only [Bool.and_eq_true, decide_eq_true_eq] at hk
      obtain ⟨⟨hn, rfl⟩, ht⟩ := hk
      dsimp only at hs
      intro H locs lsA hR hS hL
      refine lv_icmp_gt hx hb hd (tg1 ht) (fun hc => ?_) (fun hc => ?_)
      · have hc' : ¬ x ≤ y := Int.not_le.mpr ((oI_lt w1 w2).mp hc)
        rw [if_neg hc'] at hs
        cases hs
        exact kk H locs lsA hR hS hL
      · have hc' : x ≤ y := Decidable.byContradiction fun q => hc ((oI_lt w1 w2).mpr (Int.not_le.mp q))
        rw [if_pos hc'] at hs
        cases hs
        have h1 := kk H locs lsA hR hS hL
        rw [nx1 hn] at h1
        exact h1
    next off hd =>
      simp only [Bool.and_eq_true, decide_eq_true_eq] at hk
      obtain ⟨⟨hn, rfl⟩, ht⟩ := hk
      dsimp only at hs
      intro H locs lsA hR hS hL
      refine lv_icmp_le hx hb hd (tg1 ht) (fun hc => ?_) (fun hc => ?_)
      · have hc' : x ≤ y := (oI_le w2 w1).mp hc
        rw [if_pos hc'] at hs
        cases hs
        exact kk H locs lsA hR hS hL
      · have hc' : ¬ x ≤ y := fun q => hc ((oI_le w2 w1).mpr q)
        rw [if_neg hc'] at hs
        cases hs
        have h1 := kk H locs lsA hR hS hL
        rw [nx1 hn] at h1
        exact h1
    · cases hk
  · cases hs
set_option maxHeartbeats 1000000 in
theorem op_14 (C : eCx B K dA D p l s mI args meth c m) {pc a b k : Nat} {v : Int} {tg : List Nat} {ls st ls' st' : List eV} {n e0 : Nat} {pp : Nat → Nat → Nat} {hh : Nat → Nat → Int} {μ' : eM} {pc' : Nat} (hk : chk m pc (14, a, b, k, v, tg) = true) (hw : eWf ls st (n, e0, pp, hh)) (hs : eSel ewK ewL ewT X pc (14, a, b, k, v, tg) ls st (n, e0, pp, hh) = some (.inl (pc', ls', st', μ'))) (kk : eVv B K dA D p l e R s mI args below meth c Q m cells slots pc' ls' st' μ') : eVv B K dA D p l e R s mI args below meth c Q m cells slots pc ls st (n, e0, pp, hh) := by
  obtain ⟨hx, hb, hr, hml, hown, hts, hlk, htb, hnm, hst, hK, hC⟩ := C
  unfold eSel eSem at hs
  unfold chk at hk
  dsimp only at hs hk
  split at hs
  next x st2 =>
    split at hs
    next hlt =>
      split at hk
      next j hd =>
        simp only [Bool.and_eq_true, decide_eq_true_eq] at hk
        obtain ⟨hj, hn⟩ := hk
        cases hs
        intro H locs lsA hR hS hL
        have hlt2 : a < ewMax m := by rw [← hL.2.2.1]; exact hlt
        exact lv_istore_n hx hb hd hj (eLR.has B K hL) hlt2 rfl (fun ls2 hl2 => by
            have h1 := kk H locs ls2 hR hS (eLR.put B K (w := vI x) hL hl2)
            rw [nx1 hn] at h1
            exact h1)
      next j hd =>
        simp only [Bool.and_eq_true, decide_eq_true_eq] at hk
        obtain ⟨rfl, hn⟩ := hk
        cases hs
        intro H locs lsA hR hS hL
        have hlt2 : j < ewMax m := by rw [← hL.2.2.1]; exact hlt
        exact lv_istore hx hb hd (eLR.has B K hL) hlt2 rfl (fun ls2 hl2 => by
            have h1 := kk H locs ls2 hR hS (eLR.put B K (w := vI x) hL hl2)
            rw [nx1 hn] at h1
            exact h1)
      · cases hk
    · cases hs
  · cases hs
set_option maxHeartbeats 1000000 in
theorem op_21 (C : eCx B K dA D p l s mI args meth c m) {pc a b k : Nat} {v : Int} {tg : List Nat} {ls st ls' st' : List eV} {n e0 : Nat} {pp : Nat → Nat → Nat} {hh : Nat → Nat → Int} {μ' : eM} {pc' : Nat} (hk : chk m pc (21, a, b, k, v, tg) = true) (hw : eWf ls st (n, e0, pp, hh)) (hs : eSel ewK ewL ewT X pc (21, a, b, k, v, tg) ls st (n, e0, pp, hh) = some (.inl (pc', ls', st', μ'))) (kk : eVv B K dA D p l e R s mI args below meth c Q m cells slots pc' ls' st' μ') : eVv B K dA D p l e R s mI args below meth c Q m cells slots pc ls st (n, e0, pp, hh) := by
  obtain ⟨hx, hb, hr, hml, hown, hts, hlk, htb, hnm, hst, hK, hC⟩ := C
  unfold eSel eSem at hs
  unfold chk at hk
  dsimp only at hs hk
  split at hs
  next x st2 =>
    split at hs
    next hlt =>
      split at hk
      next j hd =>
        simp only [Bool.and_eq_true, decide_eq_true_eq] at hk
        obtain ⟨hj, hn⟩ := hk
        cases hs
        intro H locs lsA hR hS hL
        have hlt2 : a < ewMax m := by rw [← hL.2.2.1]; exact hlt
        by_cases hz : x = 0
        · subst hz
          exact lv_astore_nN hx hb hd hj (eLR.has B K hL) hlt2 rfl (fun ls2 hl2 => by
            have h1 := kk H locs ls2 hR hS (eLR.put B K (w := vR 0) hL hl2)
            rw [nx1 hn] at h1
            exact h1)
        · obtain ⟨q, hq⟩ := rv_ref (B := B) (K := K) hz
          show W p l e R s mI args below meth c H locs cells slots Q (F0 mI (mPc m pc) lsA (rv B K x :: st2.map (cv B K)))
          rw [hq]
          exact lv_astore_n hx hb hd hj (eLR.has B K hL) hlt2 rfl (fun ls2 hl2 => by
            have h1 := kk H locs ls2 hR hS (eLR.put B K (w := vR x) hL (by show lv_has ls2 _ ((_, rv B K x) :: _); rw [hq]; exact hl2))
            rw [nx1 hn] at h1
            exact h1)
      next j hd =>
        simp only [Bool.and_eq_true, decide_eq_true_eq] at hk
        obtain ⟨rfl, hn⟩ := hk
        cases hs
        intro H locs lsA hR hS hL
        have hlt2 : j < ewMax m := by rw [← hL.2.2.1]; exact hlt
        by_cases hz : x = 0
        · subst hz
          exact lv_astoreN hx hb hd (eLR.has B K hL) hlt2 rfl (fun ls2 hl2 => by
            have h1 := kk H locs ls2 hR hS (eLR.put B K (w := vR 0) hL hl2)
            rw [nx1 hn] at h1
            exact h1)
        · obtain ⟨q, hq⟩ := rv_ref (B := B) (K := K) hz
          show W p l e R s mI args below meth c H locs cells slots Q (F0 mI (mPc m pc) lsA (rv B K x :: st2.map (cv B K)))
          rw [hq]
          exact lv_astore hx hb hd (eLR.has B K hL) hlt2 rfl (fun ls2 hl2 => by
            have h1 := kk H locs ls2 hR hS (eLR.put B K (w := vR x) hL (by show lv_has ls2 _ ((_, rv B K x) :: _); rw [hq]; exact hl2))
            rw [nx1 hn] at h1
            exact h1)
      · cases hk
    · cases hs
  · cases hs
set_option maxHeartbeats 1000000 in
theorem op_65 (C : eCx B K dA D p l s mI args meth c m) {pc a b k : Nat} {v : Int} {tg : List Nat} {ls st ls' st' : List eV} {n e0 : Nat} {pp : Nat → Nat → Nat} {hh : Nat → Nat → Int} {μ' : eM} {pc' : Nat} (hk : chk m pc (65, a, b, k, v, tg) = true) (hw : eWf ls st (n, e0, pp, hh)) (hs : eSel ewK ewL ewT X pc (65, a, b, k, v, tg) ls st (n, e0, pp, hh) = some (.inl (pc', ls', st', μ'))) (kk : eVv B K dA D p l e R s mI args below meth c Q m cells slots pc' ls' st' μ') : eVv B K dA D p l e R s mI args below meth c Q m cells slots pc ls st (n, e0, pp, hh) := by
  obtain ⟨hx, hb, hr, hml, hown, hts, hlk, htb, hnm, hst, hK, hC⟩ := C
  unfold eSel eSem at hs
  unfold chk at hk
  dsimp only at hs hk
  split at hs
  next x st2 =>
    split at hs
    next hlt =>
      split at hk
      next j hd =>
        simp only [Bool.and_eq_true, decide_eq_true_eq] at hk
        obtain ⟨rfl, hn⟩ := hk
        cases hs
        intro H locs lsA hR hS hL
        have hlt2 : j < ewMax m := by rw [← hL.2.2.1]; exact hlt
        exact lv_fstore hx hb hd (eLR.has B K hL) hlt2 rfl (fun ls2 hl2 => by
            have h1 := kk H locs ls2 hR hS (eLR.put B K (w := vF x) hL hl2)
            rw [nx1 hn] at h1
            exact h1)
      · cases hk
    · cases hs
  · cases hs
set_option maxHeartbeats 1000000 in
theorem op_15 (C : eCx B K dA D p l s mI args meth c m) {pc a b k : Nat} {v : Int} {tg : List Nat} {ls st ls' st' : List eV} {n e0 : Nat} {pp : Nat → Nat → Nat} {hh : Nat → Nat → Int} {μ' : eM} {pc' : Nat} (hk : chk m pc (15, a, b, k, v, tg) = true) (hw : eWf ls st (n, e0, pp, hh)) (hs : eSel ewK ewL ewT X pc (15, a, b, k, v, tg) ls st (n, e0, pp, hh) = some (.inl (pc', ls', st', μ'))) (kk : eVv B K dA D p l e R s mI args below meth c Q m cells slots pc' ls' st' μ') : eVv B K dA D p l e R s mI args below meth c Q m cells slots pc ls st (n, e0, pp, hh) := by
  obtain ⟨hx, hb, hr, hml, hown, hts, hlk, htb, hnm, hst, hK, hC⟩ := C
  unfold eSel eSem at hs
  unfold chk at hk
  dsimp only at hs hk
  have hc1 : ∀ x : Nat, (cv B K (vR x)).category = 1 := by
    intro x
    show (rv B K x).category = 1
    unfold rv
    split
    · rfl
    · split <;> rfl
  split at hs
  next x st2 =>
    split at hk
    next hd =>
      cases hs
      intro H locs lsA hR hS hL
      have h1 := kk H locs lsA hR hS hL
      rw [nx1 hk] at h1
      exact lv_dup hx hb hd rfl h1
    · cases hk
  next x st2 =>
    split at hk
    next hd =>
      cases hs
      intro H locs lsA hR hS hL
      have h1 := kk H locs lsA hR hS hL
      rw [nx1 hk] at h1
      exact lv_dup hx hb hd (hc1 x) h1
    · cases hk
  · cases hs
set_option maxHeartbeats 1000000 in
theorem op_16 (C : eCx B K dA D p l s mI args meth c m) {pc a b k : Nat} {v : Int} {tg : List Nat} {ls st ls' st' : List eV} {n e0 : Nat} {pp : Nat → Nat → Nat} {hh : Nat → Nat → Int} {μ' : eM} {pc' : Nat} (hk : chk m pc (16, a, b, k, v, tg) = true) (hw : eWf ls st (n, e0, pp, hh)) (hs : eSel ewK ewL ewT X pc (16, a, b, k, v, tg) ls st (n, e0, pp, hh) = some (.inl (pc', ls', st', μ'))) (kk : eVv B K dA D p l e R s mI args below meth c Q m cells slots pc' ls' st' μ') : eVv B K dA D p l e R s mI args below meth c Q m cells slots pc ls st (n, e0, pp, hh) := by
  obtain ⟨hx, hb, hr, hml, hown, hts, hlk, htb, hnm, hst, hK, hC⟩ := C
  unfold eSel eSem at hs
  unfold chk at hk
  dsimp only at hs hk
  split at hs
  next x hl9 =>
    split at hk
    next j q hd =>
      simp only [Bool.and_eq_true, decide_eq_true_eq] at hk
      obtain ⟨⟨rfl, rfl⟩, hn⟩ := hk
      cases hs
      intro H locs lsA hR hS hL
      have hlt : j < ls.length := (List.getElem?_eq_some_iff.mp hl9).1
      have hm1 := (eKn_mem B K (L := ls) (k := j) (w := .int (Int32.ofInt x))).mpr ⟨_, hl9, rfl, rfl⟩
      obtain ⟨t, ht⟩ := List.getElem?_of_mem hm1
      exact lv_iinc (v := Int32.ofInt (wr (x + q))) hx hb hd (eLR.has B K hL) ht (by rw [← oI_add]) (by rw [← hL.2.2.1]; exact hlt) rfl (fun ls2 hl2 => by
            have h1 := kk H locs ls2 hR hS (eLR.put B K (w := vI (wr (x + q))) hL hl2)
            rw [nx1 hn] at h1
            exact h1)
    · cases hk
  · cases hs
set_option maxHeartbeats 1000000 in
theorem op_19 (C : eCx B K dA D p l s mI args meth c m) {pc a b k : Nat} {v : Int} {tg : List Nat} {ls st ls' st' : List eV} {n e0 : Nat} {pp : Nat → Nat → Nat} {hh : Nat → Nat → Int} {μ' : eM} {pc' : Nat} (hk : chk m pc (19, a, b, k, v, tg) = true) (hw : eWf ls st (n, e0, pp, hh)) (hs : eSel ewK ewL ewT X pc (19, a, b, k, v, tg) ls st (n, e0, pp, hh) = some (.inl (pc', ls', st', μ'))) (kk : eVv B K dA D p l e R s mI args below meth c Q m cells slots pc' ls' st' μ') : eVv B K dA D p l e R s mI args below meth c Q m cells slots pc ls st (n, e0, pp, hh) := by
  obtain ⟨hx, hb, hr, hml, hown, hts, hlk, htb, hnm, hst, hK, hC⟩ := C
  unfold eSel eSem at hs
  unfold chk at hk
  dsimp only at hs hk
  split at hs
  next x st2 =>
    have w1 : inR x := hw.2.1 _ List.mem_cons_self
    split at hk
    next hd =>
      cases hs
      intro H locs lsA hR hS hL
      have h1 := kk H locs lsA hR hS hL
      rw [nx1 hk] at h1
      exact lv_i2l hx hb hd (oI_i2l w1) h1
    · cases hk
  · cases hs
set_option maxHeartbeats 1000000 in
theorem op_29 (C : eCx B K dA D p l s mI args meth c m) {pc a b k : Nat} {v : Int} {tg : List Nat} {ls st ls' st' : List eV} {n e0 : Nat} {pp : Nat → Nat → Nat} {hh : Nat → Nat → Int} {μ' : eM} {pc' : Nat} (hk : chk m pc (29, a, b, k, v, tg) = true) (hw : eWf ls st (n, e0, pp, hh)) (hs : eSel ewK ewL ewT X pc (29, a, b, k, v, tg) ls st (n, e0, pp, hh) = some (.inl (pc', ls', st', μ'))) (kk : eVv B K dA D p l e R s mI args below meth c Q m cells slots pc' ls' st' μ') : eVv B K dA D p l e R s mI args below meth c Q m cells slots pc ls st (n, e0, pp, hh) := by
  obtain ⟨hx, hb, hr, hml, hown, hts, hlk, htb, hnm, hst, hK, hC⟩ := C
  unfold eSel eSem at hs
  unfold chk at hk
  dsimp only at hs hk
  split at hs
  next y x st2 =>
    have w1 : inR y := hw.2.1 _ List.mem_cons_self
    have w2 : inR x := hw.2.1 _ (List.mem_cons_of_mem _ List.mem_cons_self)
    split at hk
    next hd =>
      cases hs
      intro H locs lsA hR hS hL
      have h1 := kk H locs lsA hR hS hL
      rw [nx1 hk] at h1
      refine W.lcmp hx hb hd ?_
      have hc : lg_cmp (Int64.ofInt x) (Int64.ofInt y) = Int32.ofInt (if x = y then 0 else if x < y then -1 else 1) := by
        unfold lg_cmp
        have e1 : (Int64.ofInt x = Int64.ofInt y) ↔ x = y := by
          constructor
          · intro h
            have := congrArg Int64.toInt h
            rw [oL_toInt w2, oL_toInt w1] at this
            exact this
          · intro h; rw [h]
        have e2 : (Int64.ofInt x < Int64.ofInt y) ↔ x < y := by
          rw [Int64.lt_iff_toInt_lt, oL_toInt w2, oL_toInt w1]
        have e3 : (Int64.ofInt y < Int64.ofInt x) ↔ y < x := by
          rw [Int64.lt_iff_toInt_lt, oL_toInt w2, oL_toInt w1]
        by_cases q1 : x = y
        · subst q1
          simp
        · by_cases q2 : x < y
          · simp [e1, e2, e3, q1, q2]
          · have q3 : y < x := by omega
            simp [e1, e2, e3, q1, q2, q3]
      rw [hc]
      exact h1
    · cases hk
  · cases hs
set_option maxHeartbeats 1000000 in
theorem op_32 (C : eCx B K dA D p l s mI args meth c m) {pc a b k : Nat} {v : Int} {tg : List Nat} {ls st ls' st' : List eV} {n e0 : Nat} {pp : Nat → Nat → Nat} {hh : Nat → Nat → Int} {μ' : eM} {pc' : Nat} (hk : chk m pc (32, a, b, k, v, tg) = true) (hw : eWf ls st (n, e0, pp, hh)) (hs : eSel ewK ewL ewT X pc (32, a, b, k, v, tg) ls st (n, e0, pp, hh) = some (.inl (pc', ls', st', μ'))) (kk : eVv B K dA D p l e R s mI args below meth c Q m cells slots pc' ls' st' μ') : eVv B K dA D p l e R s mI args below meth c Q m cells slots pc ls st (n, e0, pp, hh) := by
  obtain ⟨hx, hb, hr, hml, hown, hts, hlk, htb, hnm, hst, hK, hC⟩ := C
  unfold eSel eSem at hs
  unfold chk at hk
  dsimp only at hs hk
  split at hs
  next x st2 =>
    split at hk
    next off hd =>
      simp only [Bool.and_eq_true] at hk
      intro H locs lsA hR hS hL
      by_cases hz : x = 0
      · subst hz
        rw [if_pos rfl] at hs
        cases hs
        have h1 := kk H locs lsA hR hS hL
        rw [nx1 hk.1] at h1
        exact lv_ifnonnullN hx hb hd h1
      · rw [if_neg hz] at hs
        cases hs
        have h1 := kk H locs lsA hR hS hL
        obtain ⟨q, hq⟩ := rv_ref (B := B) (K := K) hz
        show W p l e R s mI args below meth c H locs cells slots Q (F0 mI (mPc m pc) lsA (rv B K x :: st2.map (cv B K)))
        rw [hq]
        exact lv_ifnonnull hx hb hd (tg1 hk.2) h1
    · cases hk
  · cases hs
set_option maxHeartbeats 1000000 in
theorem op_33 (C : eCx B K dA D p l s mI args meth c m) {pc a b k : Nat} {v : Int} {tg : List Nat} {ls st ls' st' : List eV} {n e0 : Nat} {pp : Nat → Nat → Nat} {hh : Nat → Nat → Int} {μ' : eM} {pc' : Nat} (hk : chk m pc (33, a, b, k, v, tg) = true) (hw : eWf ls st (n, e0, pp, hh)) (hs : eSel ewK ewL ewT X pc (33, a, b, k, v, tg) ls st (n, e0, pp, hh) = some (.inl (pc', ls', st', μ'))) (kk : eVv B K dA D p l e R s mI args below meth c Q m cells slots pc' ls' st' μ') : eVv B K dA D p l e R s mI args below meth c Q m cells slots pc ls st (n, e0, pp, hh) := by
  obtain ⟨hx, hb, hr, hml, hown, hts, hlk, htb, hnm, hst, hK, hC⟩ := C
  unfold eSel eSem at hs
  unfold chk at hk
  dsimp only at hs hk
  split at hs
  next x st2 =>
    split at hk
    next off hd =>
      simp only [Bool.and_eq_true] at hk
      intro H locs lsA hR hS hL
      by_cases hz : x = 0
      · subst hz
        rw [if_pos rfl] at hs
        cases hs
        have h1 := kk H locs lsA hR hS hL
        exact lv_ifnullN hx hb hd (tg1 hk.2) h1
      · rw [if_neg hz] at hs
        cases hs
        have h1 := kk H locs lsA hR hS hL
        obtain ⟨q, hq⟩ := rv_ref (B := B) (K := K) hz
        show W p l e R s mI args below meth c H locs cells slots Q (F0 mI (mPc m pc) lsA (rv B K x :: st2.map (cv B K)))
        rw [hq]
        rw [nx1 hk.1] at h1
        exact lv_ifnull hx hb hd h1
    · cases hk
  · cases hs
set_option maxHeartbeats 1000000 in
theorem op_34 (C : eCx B K dA D p l s mI args meth c m) {pc a b k : Nat} {v : Int} {tg : List Nat} {ls st ls' st' : List eV} {n e0 : Nat} {pp : Nat → Nat → Nat} {hh : Nat → Nat → Int} {μ' : eM} {pc' : Nat} (hk : chk m pc (34, a, b, k, v, tg) = true) (hw : eWf ls st (n, e0, pp, hh)) (hs : eSel ewK ewL ewT X pc (34, a, b, k, v, tg) ls st (n, e0, pp, hh) = some (.inl (pc', ls', st', μ'))) (kk : eVv B K dA D p l e R s mI args below meth c Q m cells slots pc' ls' st' μ') : eVv B K dA D p l e R s mI args below meth c Q m cells slots pc ls st (n, e0, pp, hh) := by
  obtain ⟨hx, hb, hr, hml, hown, hts, hlk, htb, hnm, hst, hK, hC⟩ := C
  unfold eSel eSem at hs
  unfold chk at hk
  dsimp only at hs hk
  split at hs
  next x st2 =>
    have w1 : inR x := hw.2.1 _ List.mem_cons_self
    split at hk
    next hd =>
      cases hs
      intro H locs lsA hR hS hL
      have h1 := kk H locs lsA hR hS hL
      rw [nx1 hk] at h1
      exact lv_i2c hx hb hd (oI_c w1) h1
    · cases hk
  · cases hs
set_option maxHeartbeats 1000000 in
theorem op_35 (C : eCx B K dA D p l s mI args meth c m) {pc a b k : Nat} {v : Int} {tg : List Nat} {ls st ls' st' : List eV} {n e0 : Nat} {pp : Nat → Nat → Nat} {hh : Nat → Nat → Int} {μ' : eM} {pc' : Nat} (hk : chk m pc (35, a, b, k, v, tg) = true) (hw : eWf ls st (n, e0, pp, hh)) (hs : eSel ewK ewL ewT X pc (35, a, b, k, v, tg) ls st (n, e0, pp, hh) = some (.inl (pc', ls', st', μ'))) (kk : eVv B K dA D p l e R s mI args below meth c Q m cells slots pc' ls' st' μ') : eVv B K dA D p l e R s mI args below meth c Q m cells slots pc ls st (n, e0, pp, hh) := by
  obtain ⟨hx, hb, hr, hml, hown, hts, hlk, htb, hnm, hst, hK, hC⟩ := C
  unfold eSel eSem at hs
  unfold chk at hk
  dsimp only at hs hk
  have hc1 : ∀ x : Nat, (cv B K (vR x)).category = 1 := by
    intro x
    show (rv B K x).category = 1
    unfold rv
    split
    · rfl
    · split <;> rfl
  split at hs
  next y x st2 =>
    split at hk
    next hd =>
      cases hs
      intro H locs lsA hR hS hL
      have h1 := kk H locs lsA hR hS hL
      rw [nx1 hk] at h1
      exact lv_dup2_11 hx hb hd rfl (hc1 x) h1
    · cases hk
  · cases hs
set_option maxHeartbeats 1000000 in
theorem op_39 (C : eCx B K dA D p l s mI args meth c m) {pc a b k : Nat} {v : Int} {tg : List Nat} {ls st ls' st' : List eV} {n e0 : Nat} {pp : Nat → Nat → Nat} {hh : Nat → Nat → Int} {μ' : eM} {pc' : Nat} (hk : chk m pc (39, a, b, k, v, tg) = true) (hw : eWf ls st (n, e0, pp, hh)) (hs : eSel ewK ewL ewT X pc (39, a, b, k, v, tg) ls st (n, e0, pp, hh) = some (.inl (pc', ls', st', μ'))) (kk : eVv B K dA D p l e R s mI args below meth c Q m cells slots pc' ls' st' μ') : eVv B K dA D p l e R s mI args below meth c Q m cells slots pc ls st (n, e0, pp, hh) := by
  obtain ⟨hx, hb, hr, hml, hown, hts, hlk, htb, hnm, hst, hK, hC⟩ := C
  unfold eSel eSem at hs
  unfold chk at hk
  dsimp only at hs hk
  cases hs
  split at hk
  next q hd =>
    simp only [Bool.and_eq_true, decide_eq_true_eq] at hk
    intro H locs lsA hR hS hL
    have h1 := kk H locs lsA hR hS hL
    rw [nx1 hk.1] at h1
    exact lv_lconst hx hb hd (by rw [← hk.2]; rfl) h1
  · cases hk
set_option maxHeartbeats 1000000 in
theorem op_42 (C : eCx B K dA D p l s mI args meth c m) {pc a b k : Nat} {v : Int} {tg : List Nat} {ls st ls' st' : List eV} {n e0 : Nat} {pp : Nat → Nat → Nat} {hh : Nat → Nat → Int} {μ' : eM} {pc' : Nat} (hk : chk m pc (42, a, b, k, v, tg) = true) (hw : eWf ls st (n, e0, pp, hh)) (hs : eSel ewK ewL ewT X pc (42, a, b, k, v, tg) ls st (n, e0, pp, hh) = some (.inl (pc', ls', st', μ'))) (kk : eVv B K dA D p l e R s mI args below meth c Q m cells slots pc' ls' st' μ') : eVv B K dA D p l e R s mI args below meth c Q m cells slots pc ls st (n, e0, pp, hh) := by
  obtain ⟨hx, hb, hr, hml, hown, hts, hlk, htb, hnm, hst, hK, hC⟩ := C
  unfold eSel eSem at hs
  unfold chk at hk
  dsimp only at hs hk
  split at hs
  next y x st2 =>
    have w1 : inR y := hw.2.1 _ List.mem_cons_self
    have w2 : inR x := hw.2.1 _ (List.mem_cons_of_mem _ List.mem_cons_self)
    split at hs
    · cases hs
    next hz =>
      split at hk
      next hd =>
        cases hs
        intro H locs lsA hR hS hL
        have h1 := kk H locs lsA hR hS hL
        rw [nx1 hk] at h1
        refine lv_irem hx hb hd (fun q => hz ((oI_eq0 w1).mp q)) ?_
        rw [oI_rem w2 w1 hz]
        exact h1
      · cases hk
  · cases hs
set_option maxHeartbeats 1000000 in
theorem op_45 (C : eCx B K dA D p l s mI args meth c m) {pc a b k : Nat} {v : Int} {tg : List Nat} {ls st ls' st' : List eV} {n e0 : Nat} {pp : Nat → Nat → Nat} {hh : Nat → Nat → Int} {μ' : eM} {pc' : Nat} (hk : chk m pc (45, a, b, k, v, tg) = true) (hw : eWf ls st (n, e0, pp, hh)) (hs : eSel ewK ewL ewT X pc (45, a, b, k, v, tg) ls st (n, e0, pp, hh) = some (.inl (pc', ls', st', μ'))) (kk : eVv B K dA D p l e R s mI args below meth c Q m cells slots pc' ls' st' μ') : eVv B K dA D p l e R s mI args below meth c Q m cells slots pc ls st (n, e0, pp, hh) := by
  obtain ⟨hx, hb, hr, hml, hown, hts, hlk, htb, hnm, hst, hK, hC⟩ := C
  unfold eSel eSem at hs
  unfold chk at hk
  dsimp only at hs hk
  split at hs
  next y x st2 =>
    have w1 : inR y := hw.2.1 _ List.mem_cons_self
    have w2 : inR x := hw.2.1 _ (List.mem_cons_of_mem _ List.mem_cons_self)
    split at hs
    · cases hs
    next hz =>
      split at hk
      next hd =>
        cases hs
        intro H locs lsA hR hS hL
        have h1 := kk H locs lsA hR hS hL
        rw [nx1 hk] at h1
        refine lv_idiv hx hb hd (fun q => hz ((oI_eq0 w1).mp q)) ?_
        rw [oI_div w2 w1]
        exact h1
      · cases hk
  · cases hs
set_option maxHeartbeats 1000000 in
theorem op_43 (C : eCx B K dA D p l s mI args meth c m) {pc a b k : Nat} {v : Int} {tg : List Nat} {ls st ls' st' : List eV} {n e0 : Nat} {pp : Nat → Nat → Nat} {hh : Nat → Nat → Int} {μ' : eM} {pc' : Nat} (hk : chk m pc (43, a, b, k, v, tg) = true) (hw : eWf ls st (n, e0, pp, hh)) (hs : eSel ewK ewL ewT X pc (43, a, b, k, v, tg) ls st (n, e0, pp, hh) = some (.inl (pc', ls', st', μ'))) (kk : eVv B K dA D p l e R s mI args below meth c Q m cells slots pc' ls' st' μ') : eVv B K dA D p l e R s mI args below meth c Q m cells slots pc ls st (n, e0, pp, hh) := by
  obtain ⟨hx, hb, hr, hml, hown, hts, hlk, htb, hnm, hst, hK, hC⟩ := C
  unfold eSel eSem at hs
  unfold chk at hk
  dsimp only at hs hk
  have hc1 : ∀ x : Nat, (cv B K (vR x)).category = 1 := by
    intro x
    show (rv B K x).category = 1
    unfold rv
    split
    · rfl
    · split <;> rfl
  split at hs
  next x st2 =>
    split at hk
    next hd =>
      cases hs
      intro H locs lsA hR hS hL
      have h1 := kk H locs lsA hR hS hL
      rw [nx1 hk] at h1
      exact lv_pop hx hb hd rfl h1
    · cases hk
  next x st2 =>
    split at hk
    next hd =>
      cases hs
      intro H locs lsA hR hS hL
      have h1 := kk H locs lsA hR hS hL
      rw [nx1 hk] at h1
      exact lv_pop hx hb hd (hc1 x) h1
    · cases hk
  · cases hs
set_option maxHeartbeats 1000000 in
theorem op_50 (C : eCx B K dA D p l s mI args meth c m) {pc a b k : Nat} {v : Int} {tg : List Nat} {ls st ls' st' : List eV} {n e0 : Nat} {pp : Nat → Nat → Nat} {hh : Nat → Nat → Int} {μ' : eM} {pc' : Nat} (hk : chk m pc (50, a, b, k, v, tg) = true) (hw : eWf ls st (n, e0, pp, hh)) (hs : eSel ewK ewL ewT X pc (50, a, b, k, v, tg) ls st (n, e0, pp, hh) = some (.inl (pc', ls', st', μ'))) (kk : eVv B K dA D p l e R s mI args below meth c Q m cells slots pc' ls' st' μ') : eVv B K dA D p l e R s mI args below meth c Q m cells slots pc ls st (n, e0, pp, hh) := by
  obtain ⟨hx, hb, hr, hml, hown, hts, hlk, htb, hnm, hst, hK, hC⟩ := C
  unfold eSel eSem at hs
  unfold chk at hk
  dsimp only at hs hk
  split at hk
  next hd =>
      cases hs
      intro H locs lsA hR hS hL
      have h1 := kk H locs lsA hR hS hL
      rw [nx1 hk] at h1
      exact lv_null hx hb hd h1
  · cases hk
set_option maxHeartbeats 1000000 in
theorem op_52 (C : eCx B K dA D p l s mI args meth c m) {pc a b k : Nat} {v : Int} {tg : List Nat} {ls st ls' st' : List eV} {n e0 : Nat} {pp : Nat → Nat → Nat} {hh : Nat → Nat → Int} {μ' : eM} {pc' : Nat} (hk : chk m pc (52, a, b, k, v, tg) = true) (hw : eWf ls st (n, e0, pp, hh)) (hs : eSel ewK ewL ewT X pc (52, a, b, k, v, tg) ls st (n, e0, pp, hh) = some (.inl (pc', ls', st', μ'))) (kk : eVv B K dA D p l e R s mI args below meth c Q m cells slots pc' ls' st' μ') : eVv B K dA D p l e R s mI args below meth c Q m cells slots pc ls st (n, e0, pp, hh) := by
  obtain ⟨hx, hb, hr, hml, hown, hts, hlk, htb, hnm, hst, hK, hC⟩ := C
  unfold eSel eSem at hs
  unfold chk at hk
  dsimp only at hs hk
  split at hs
  next y x st2 =>
    have w2 : inR x := hw.2.1 _ (List.mem_cons_of_mem _ List.mem_cons_self)
    split at hs
    next hz =>
      subst hz
      split at hk
      next hd =>
        cases hs
        intro H locs lsA hR hS hL
        have h1 := kk H locs lsA hR hS hL
        rw [nx1 hk] at h1
        refine lv_iand hx hb hd ?_
        rw [oI_63 w2]
        exact h1
      · cases hk
    · cases hs
  · cases hs
set_option maxHeartbeats 1000000 in
theorem op_46 (C : eCx B K dA D p l s mI args meth c m) {pc a b k : Nat} {v : Int} {tg : List Nat} {ls st ls' st' : List eV} {n e0 : Nat} {pp : Nat → Nat → Nat} {hh : Nat → Nat → Int} {μ' : eM} {pc' : Nat} (hk : chk m pc (46, a, b, k, v, tg) = true) (hw : eWf ls st (n, e0, pp, hh)) (hs : eSel ewK ewL ewT X pc (46, a, b, k, v, tg) ls st (n, e0, pp, hh) = some (.inl (pc', ls', st', μ'))) (kk : eVv B K dA D p l e R s mI args below meth c Q m cells slots pc' ls' st' μ') : eVv B K dA D p l e R s mI args below meth c Q m cells slots pc ls st (n, e0, pp, hh) := by
  obtain ⟨hx, hb, hr, hml, hown, hts, hlk, htb, hnm, hst, hK, hC⟩ := C
  unfold eSel eSem at hs
  unfold chk at hk
  dsimp only at hs hk
  split at hs
  next x st2 =>
    split at hk
    next hd =>
      cases hs
      intro H locs lsA hR hS hL
      have h1 := kk H locs lsA hR hS hL
      rw [nx1 hk] at h1
      exact lv_i2d hx hb hd h1
    · cases hk
  · cases hs
set_option maxHeartbeats 1000000 in
theorem op_47 (C : eCx B K dA D p l s mI args meth c m) {pc a b k : Nat} {v : Int} {tg : List Nat} {ls st ls' st' : List eV} {n e0 : Nat} {pp : Nat → Nat → Nat} {hh : Nat → Nat → Int} {μ' : eM} {pc' : Nat} (hk : chk m pc (47, a, b, k, v, tg) = true) (hw : eWf ls st (n, e0, pp, hh)) (hs : eSel ewK ewL ewT X pc (47, a, b, k, v, tg) ls st (n, e0, pp, hh) = some (.inl (pc', ls', st', μ'))) (kk : eVv B K dA D p l e R s mI args below meth c Q m cells slots pc' ls' st' μ') : eVv B K dA D p l e R s mI args below meth c Q m cells slots pc ls st (n, e0, pp, hh) := by
  obtain ⟨hx, hb, hr, hml, hown, hts, hlk, htb, hnm, hst, hK, hC⟩ := C
  unfold eSel eSem at hs
  unfold chk at hk
  dsimp only at hs hk
  split at hs
  next x st2 =>
    split at hk
    next hd =>
      cases hs
      intro H locs lsA hR hS hL
      have h1 := kk H locs lsA hR hS hL
      rw [nx1 hk] at h1
      exact lv_i2f hx hb hd h1
    · cases hk
  · cases hs
set_option maxHeartbeats 1000000 in
theorem op_48 (C : eCx B K dA D p l s mI args meth c m) {pc a b k : Nat} {v : Int} {tg : List Nat} {ls st ls' st' : List eV} {n e0 : Nat} {pp : Nat → Nat → Nat} {hh : Nat → Nat → Int} {μ' : eM} {pc' : Nat} (hk : chk m pc (48, a, b, k, v, tg) = true) (hw : eWf ls st (n, e0, pp, hh)) (hs : eSel ewK ewL ewT X pc (48, a, b, k, v, tg) ls st (n, e0, pp, hh) = some (.inl (pc', ls', st', μ'))) (kk : eVv B K dA D p l e R s mI args below meth c Q m cells slots pc' ls' st' μ') : eVv B K dA D p l e R s mI args below meth c Q m cells slots pc ls st (n, e0, pp, hh) := by
  obtain ⟨hx, hb, hr, hml, hown, hts, hlk, htb, hnm, hst, hK, hC⟩ := C
  unfold eSel eSem at hs
  unfold chk at hk
  dsimp only at hs hk
  split at hs
  next y x st2 =>
    split at hk
    next hd =>
      cases hs
      intro H locs lsA hR hS hL
      have h1 := kk H locs lsA hR hS hL
      rw [nx1 hk] at h1
      refine lv_dcmp hx hb hd ?_
      rw [show Op.cmpValue (FP.dcmp x y) .l = Int32.ofInt (Op.cmpValue (FP.dcmp x y) .l).toInt from (Int32.ofInt_toInt _).symm]
      exact h1
    · cases hk
  · cases hs
set_option maxHeartbeats 1000000 in
theorem op_66 (C : eCx B K dA D p l s mI args meth c m) {pc a b k : Nat} {v : Int} {tg : List Nat} {ls st ls' st' : List eV} {n e0 : Nat} {pp : Nat → Nat → Nat} {hh : Nat → Nat → Int} {μ' : eM} {pc' : Nat} (hk : chk m pc (66, a, b, k, v, tg) = true) (hw : eWf ls st (n, e0, pp, hh)) (hs : eSel ewK ewL ewT X pc (66, a, b, k, v, tg) ls st (n, e0, pp, hh) = some (.inl (pc', ls', st', μ'))) (kk : eVv B K dA D p l e R s mI args below meth c Q m cells slots pc' ls' st' μ') : eVv B K dA D p l e R s mI args below meth c Q m cells slots pc ls st (n, e0, pp, hh) := by
  obtain ⟨hx, hb, hr, hml, hown, hts, hlk, htb, hnm, hst, hK, hC⟩ := C
  unfold eSel eSem at hs
  unfold chk at hk
  dsimp only at hs hk
  split at hs
  next y x st2 =>
    split at hk
    next hd =>
      cases hs
      intro H locs lsA hR hS hL
      have h1 := kk H locs lsA hR hS hL
      rw [nx1 hk] at h1
      refine lv_fcmp hx hb hd ?_
      rw [show Op.cmpValue (FP.fcmp x y) .l = Int32.ofInt (Op.cmpValue (FP.fcmp x y) .l).toInt from (Int32.ofInt_toInt _).symm]
      exact h1
    · cases hk
  · cases hs
set_option maxHeartbeats 1000000 in
theorem op_55 (C : eCx B K dA D p l s mI args meth c m) {pc a b k : Nat} {v : Int} {tg : List Nat} {ls st ls' st' : List eV} {n e0 : Nat} {pp : Nat → Nat → Nat} {hh : Nat → Nat → Int} {μ' : eM} {pc' : Nat} (hk : chk m pc (55, a, b, k, v, tg) = true) (hw : eWf ls st (n, e0, pp, hh)) (hs : eSel ewK ewL ewT X pc (55, a, b, k, v, tg) ls st (n, e0, pp, hh) = some (.inl (pc', ls', st', μ'))) (kk : eVv B K dA D p l e R s mI args below meth c Q m cells slots pc' ls' st' μ') : eVv B K dA D p l e R s mI args below meth c Q m cells slots pc ls st (n, e0, pp, hh) := by
  obtain ⟨hx, hb, hr, hml, hown, hts, hlk, htb, hnm, hst, hK, hC⟩ := C
  unfold eSel eSem at hs
  unfold chk at hk
  dsimp only at hs hk
  split at hs
  next x hl9 =>
    split at hk
    next j hd =>
      simp only [Bool.and_eq_true, decide_eq_true_eq] at hk
      obtain ⟨rfl, hn⟩ := hk
      cases hs
      intro H locs lsA hR hS hL
      have h1 := kk H locs lsA hR hS hL
      rw [nx1 hn] at h1
      exact lv_dload hx hb hd (hL.2.2.2 j _ hl9 rfl) h1
    · cases hk
  · cases hs
set_option maxHeartbeats 1000000 in
theorem op_56 (C : eCx B K dA D p l s mI args meth c m) {pc a b k : Nat} {v : Int} {tg : List Nat} {ls st ls' st' : List eV} {n e0 : Nat} {pp : Nat → Nat → Nat} {hh : Nat → Nat → Int} {μ' : eM} {pc' : Nat} (hk : chk m pc (56, a, b, k, v, tg) = true) (hw : eWf ls st (n, e0, pp, hh)) (hs : eSel ewK ewL ewT X pc (56, a, b, k, v, tg) ls st (n, e0, pp, hh) = some (.inl (pc', ls', st', μ'))) (kk : eVv B K dA D p l e R s mI args below meth c Q m cells slots pc' ls' st' μ') : eVv B K dA D p l e R s mI args below meth c Q m cells slots pc ls st (n, e0, pp, hh) := by
  obtain ⟨hx, hb, hr, hml, hown, hts, hlk, htb, hnm, hst, hK, hC⟩ := C
  unfold eSel eSem at hs
  unfold chk at hk
  dsimp only at hs hk
  split at hs
  next x hl9 =>
    split at hk
    next j hd =>
      simp only [Bool.and_eq_true, decide_eq_true_eq] at hk
      obtain ⟨rfl, hn⟩ := hk
      cases hs
      intro H locs lsA hR hS hL
      have h1 := kk H locs lsA hR hS hL
      rw [nx1 hn] at h1
      exact lv_fload hx hb hd (hL.2.2.2 j _ hl9 rfl) h1
    · cases hk
  · cases hs
set_option maxHeartbeats 1000000 in
theorem op_58 (C : eCx B K dA D p l s mI args meth c m) {pc a b k : Nat} {v : Int} {tg : List Nat} {ls st ls' st' : List eV} {n e0 : Nat} {pp : Nat → Nat → Nat} {hh : Nat → Nat → Int} {μ' : eM} {pc' : Nat} (hk : chk m pc (58, a, b, k, v, tg) = true) (hw : eWf ls st (n, e0, pp, hh)) (hs : eSel ewK ewL ewT X pc (58, a, b, k, v, tg) ls st (n, e0, pp, hh) = some (.inl (pc', ls', st', μ'))) (kk : eVv B K dA D p l e R s mI args below meth c Q m cells slots pc' ls' st' μ') : eVv B K dA D p l e R s mI args below meth c Q m cells slots pc ls st (n, e0, pp, hh) := by
  obtain ⟨hx, hb, hr, hml, hown, hts, hlk, htb, hnm, hst, hK, hC⟩ := C
  unfold eSel eSem at hs
  unfold chk at hk
  dsimp only at hs hk
  split at hs
  next y x st2 =>
    split at hs
    next hz =>
      split at hk
      next hd =>
        cases hs
        intro H locs lsA hR hS hL
        have h1 := kk H locs lsA hR hS hL
        rw [nx1 hk] at h1
        exact lv_ddiv hx hb hd hz h1
      · cases hk
    · cases hs
  · cases hs
set_option maxHeartbeats 1000000 in
theorem op_60 (C : eCx B K dA D p l s mI args meth c m) {pc a b k : Nat} {v : Int} {tg : List Nat} {ls st ls' st' : List eV} {n e0 : Nat} {pp : Nat → Nat → Nat} {hh : Nat → Nat → Int} {μ' : eM} {pc' : Nat} (hk : chk m pc (60, a, b, k, v, tg) = true) (hw : eWf ls st (n, e0, pp, hh)) (hs : eSel ewK ewL ewT X pc (60, a, b, k, v, tg) ls st (n, e0, pp, hh) = some (.inl (pc', ls', st', μ'))) (kk : eVv B K dA D p l e R s mI args below meth c Q m cells slots pc' ls' st' μ') : eVv B K dA D p l e R s mI args below meth c Q m cells slots pc ls st (n, e0, pp, hh) := by
  obtain ⟨hx, hb, hr, hml, hown, hts, hlk, htb, hnm, hst, hK, hC⟩ := C
  unfold eSel eSem at hs
  unfold chk at hk
  dsimp only at hs hk
  split at hs
  next y x st2 =>
    split at hs
    next hz =>
      split at hk
      next hd =>
        cases hs
        intro H locs lsA hR hS hL
        have h1 := kk H locs lsA hR hS hL
        rw [nx1 hk] at h1
        exact lv_fdiv hx hb hd hz h1
      · cases hk
    · cases hs
  · cases hs
set_option maxHeartbeats 1000000 in
theorem op_63 (C : eCx B K dA D p l s mI args meth c m) {pc a b k : Nat} {v : Int} {tg : List Nat} {ls st ls' st' : List eV} {n e0 : Nat} {pp : Nat → Nat → Nat} {hh : Nat → Nat → Int} {μ' : eM} {pc' : Nat} (hk : chk m pc (63, a, b, k, v, tg) = true) (hw : eWf ls st (n, e0, pp, hh)) (hs : eSel ewK ewL ewT X pc (63, a, b, k, v, tg) ls st (n, e0, pp, hh) = some (.inl (pc', ls', st', μ'))) (kk : eVv B K dA D p l e R s mI args below meth c Q m cells slots pc' ls' st' μ') : eVv B K dA D p l e R s mI args below meth c Q m cells slots pc ls st (n, e0, pp, hh) := by
  obtain ⟨hx, hb, hr, hml, hown, hts, hlk, htb, hnm, hst, hK, hC⟩ := C
  unfold eSel eSem at hs
  unfold chk at hk
  dsimp only at hs hk
  split at hs
  next x st2 =>
    split at hs
    next hz =>
      split at hk
      next hd =>
        cases hs
        intro H locs lsA hR hS hL
        have h1 := kk H locs lsA hR hS hL
        rw [nx1 hk] at h1
        exact lv_f2d hx hb hd hz h1
      · cases hk
    · cases hs
  · cases hs
end
