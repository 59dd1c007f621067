/-! one lemma an instruction: what holds behind it holds ahead of it -/
def eVw (v : eV) : Prop := match v with
  | .inl x => inR x
  | .inr (.inr (.inl x)) => inR8 x
  | .inr (.inr (.inr (.inr (.inr (some _))))) => False
  | _ => True
/-- the same of a local, which may be a text -/
def eVl (v : eV) : Prop := match v with
  | .inr (.inr (.inr (.inr (.inr (some t))))) => ∀ x ∈ t, 0 ≤ x ∧ x < 128
  | .inr (.inr (.inr (.inr (.inr none)))) => True
  | v => eVw v
def eIsT (v : eV) : Bool := match v with
  | .inr (.inr (.inr (.inr (.inr (some _))))) => true
  | _ => false
theorem eVw_T {v : eV} (h : eVw v) : eIsT v = false := by
  match v with
  | .inl x => rfl
  | .inr (.inl a) => rfl
  | .inr (.inr (.inl x)) => rfl
  | .inr (.inr (.inr (.inl x))) => rfl
  | .inr (.inr (.inr (.inr (.inl x)))) => rfl
  | .inr (.inr (.inr (.inr (.inr none)))) => rfl
  | .inr (.inr (.inr (.inr (.inr (some x))))) => exact h.elim
theorem eVw_l {v : eV} (h : eVw v) : eVl v := by
  match v with
  | .inl x => exact h
  | .inr (.inl a) => exact h
  | .inr (.inr (.inl x)) => exact h
  | .inr (.inr (.inr (.inl x))) => exact h
  | .inr (.inr (.inr (.inr (.inl x)))) => exact h
  | .inr (.inr (.inr (.inr (.inr none)))) => trivial
  | .inr (.inr (.inr (.inr (.inr (some x))))) => exact h.elim
def eWf (ls st : List eV) (μ : eM) : Prop := (∀ v ∈ ls, eVl v) ∧ (∀ v ∈ st, eVw v) ∧ (∀ a k, ¬ ewK a = 24 → inR (μ.2.2.2 a k)) ∧ μ.1 ≤ 576
section
variable (B : Nat) (K : Nat → Nat) (dA : Nat → ClassId) (D : va_G)
def eIsJ (v : eV) : Bool := match v with
  | .inr (.inr (.inr (.inr (.inr _)))) => true
  | _ => false
/-- a text in the heap, as the machine's own methods want it, and as the library's do -/
def tSl (_ : State) (_ : Heap) (_ : Nat) (_ : Nat) (_ : List Int) : Prop := B = B
def tVa (s : State) (H : Heap) (a : Nat) (t : List Int) : Prop := ∃ b : Nat, va_O "java/lang/String" a (eAd B) s H ∧ va_OF "java/lang/String" "coder" "B" (.int 0) a (eAd B) s H ∧ va_OF "java/lang/String" "value" "[B" (.ref b) a (eAd B) s H ∧ va_T .byte b t.length (fun i => .int (Int32.ofInt (t.getD i 0))) (eAd B) s H
def tTx (s : State) (H : Heap) (a : Nat) (t : List Int) : Prop := t.length ≤ 21 ∧ (∀ x ∈ t, 0 ≤ x ∧ x < 128) ∧ tVa B s H a t ∧ tSl B s H a t.length t
/-- the texts among the locals: in one method alone -/
def eTx (s : State) (m : Nat) (H : Heap) (lsA : Array Slot) (L : List eV) : Prop := m = m_L_sounds → ∀ (k : Nat) (t : List Int), k = 17 → L[k]? = some (vT t) → ∃ a : Nat, lsA[k]? = some (.val (.ref a)) ∧ tTx B s H a t
def eLR (s : State) (m : Nat) (H : Heap) (lsA : Array Slot) (nL : Nat) (L : List eV) : Prop := lsA.size = nL ∧ lv_wf lsA ∧ L.length = nL ∧ (∀ (k : Nat) (v : eV), L[k]? = some v → eIsJ v = false → lsA[k]? = some (.val (cv B K v))) ∧ eTx B s m H lsA L
def eKn (lsA : Array Slot) (L : List eV) : List (Nat × Value) := L.zipIdx.filterMap (fun q => if eIsT q.1 then (match (lsA[q.2]? : Option Slot) with | some (.val w) => some (q.2, w) | _ => none) else if eIsJ q.1 then none else some (q.2, cv B K q.1))
def ewL4 : List Cond := lw_tbl.filter (fun w => goodWord w || ewBad4 w)
theorem in4 {w : Cond} (h : w ∈ lw_tbl) (h2 : (goodWord w || ewBad4 w) = true) : w ∈ ewL4 := List.mem_filter.mpr ⟨h, h2⟩
def eCs2 (s : State) : Prop :=
  va_En "EchoWells$Order" "LEchoWells$Order;" ordNm [("java/lang/Enum", "ordinal", "I", (List.range 12).map Int32.ofNat)] (fun i => K (1010 + i)) (eAd B) s s.heap ∧
  (∀ f, f < 2 → va_Ef 12 "EchoWells$Order" (if f = 0 then "name" else "form") "Ljava/lang/String;" (fun i => .ref (K (1100 + 12 * f + i))) (fun i => K (1010 + i)) (eAd B) s s.heap) ∧
  va_Z "EchoWells$1" "$SwitchMap$EchoWells$Order" "[I" (.ref (K 1002)) (eAd B) s s.heap ∧ va_T .int (K 1002) 12 (fun j => .int (Int32.ofNat (if j = 11 then 0 else j + 1))) (eAd B) s s.heap ∧
  va_Z "EchoWells" "ORDERS" "[LEchoWells$Order;" (.ref (K 1001)) (eAd B) s s.heap ∧ va_T (.object "EchoWells$Order") (K 1001) 12 (fun j => .ref (K (1010 + j))) (eAd B) s s.heap ∧
  (∀ j, j < 41 → va_O "java/lang/String" (K (1100 + j)) (eAd B) s s.heap ∧ va_OF "java/lang/String" "coder" "B" (.int 0) (K (1100 + j)) (eAd B) s s.heap ∧
    va_OF "java/lang/String" "value" "[B" (.ref (K (1200 + j))) (K (1100 + j)) (eAd B) s s.heap ∧ va_T .byte (K (1200 + j)) (ewT j).length (fun i => .int (Int32.ofInt ((ewT j).getD i 0))) (eAd B) s s.heap) ∧
  va_Z "java/lang/String" "COMPACT_STRINGS" "Z" (.int 1) (eAd B) s s.heap ∧ va_Zq "jdk/internal/util/Preconditions" "SIOOBE_FORMATTER" "Ljava/util/function/BiFunction;" (eAd B) s s.heap ∧
  (∀ i j, 1 ≤ i → i ≤ 5 → 1 ≤ j → j ≤ 5 → i ≠ j → va_Nc (ewEx i) (ewEx j) s) ∧
  va_Z "EchoWellsLaw" "TEXTS" "[Ljava/lang/String;" (.ref (K 1003)) (eAd B) s s.heap ∧ va_T (.object "java/lang/String") (K 1003) 8 (fun j => .ref (K (1124 + j))) (eAd B) s s.heap ∧
  va_Z "EchoWellsLaw" "WORDS" "[Ljava/lang/String;" (.ref (K 1004)) (eAd B) s s.heap ∧ va_T (.object "java/lang/String") (K 1004) 8 (fun j => .ref (K (1132 + j))) (eAd B) s s.heap ∧
  (va_X (K 1000) (K 1000000) (fun j => Int32.ofInt ((K (1000001 + j) : Int) - 2147483648)) s s.heap ∧ K 1000 ≤ B) ∧ tSl B s s.heap (K 1140) 0 [] ∧ vk_R "EchoWellsLaw" 286 "" (K 1140) s
/-- what the start of the law gives of constants and the machine's own statics -/
def eCst (s : State) : Prop := vx_Zq Bundle.tN "UNASSIGNED_STACK" Bundle.steD (eAd B) s s.heap ∧ vx_Zq Bundle.tN "SUPPRESSED_SENTINEL" Bundle.listD (eAd B) s s.heap ∧ va_AO "EchoWells$Well" s ∧ va_AO "EchoWells$Rope" s ∧ va_AO "EchoWells$World" s ∧ eCs2 B K s
theorem va_X_lt {b L : Nat} {xs : Nat → Int32} {U : State} {H : Heap} (h : va_X b L xs U H) : b < H.size := by
  obtain ⟨scr, h1, -⟩ := h
  exact (Array.getElem?_eq_some_iff.mp h1).1
theorem tSl_moved {B : Nat} {s U : State} {H H1 : Heap} {a n : Nat} {t : List Int} (hA : s.vm.Alike U.vm) (hk : ∀ q : Nat, q < H.size → ¬ eAd B q → H1[q]? = H[q]?) (h : tSl B s H a n t) : tSl B U H1 a n t := by
  exact rfl
theorem tTx_moved {B : Nat} {s U : State} {H H1 : Heap} {a : Nat} {t : List Int} (hA : s.vm.Alike U.vm) (hk : ∀ q : Nat, q < H.size → ¬ eAd B q → H1[q]? = H[q]?) (h : tTx B s H a t) : tTx B U H1 a t := by
  obtain ⟨h1, h2, ⟨b, i1, i2, i3, i4⟩, h3⟩ := h
  exact ⟨h1, h2, ⟨b, (va_O.moved hA i1).kept hk, (va_OF.moved hA i2).kept hk, (va_OF.moved hA i3).kept hk, (va_T.moved hA i4).kept hk⟩, tSl_moved hA hk h3⟩
theorem eCs2_moved {B : Nat} {K : Nat → Nat} {s U : State} (hW : s.WarmedH U.vm) (hk : ∀ q : Nat, q < s.heap.size → ¬ eAd B q → U.heap[q]? = s.heap[q]?) (h : eCs2 B K s) : eCs2 B K U := by
  have hA := hW.alike
  obtain ⟨h1, h2, h3, h4, h5, h6, h7, h8, h9, h10, h11, h12, h13, h14, ⟨h15, h15b⟩, h16, h17⟩ := h
  refine ⟨(va_En.moved hA h1).kept hk, fun f hf => (va_Ef.moved hA (h2 f hf)).kept hk, (va_Z.moved hA h3).kept hk, (va_T.moved hA h4).kept hk, (va_Z.moved hA h5).kept hk, (va_T.moved hA h6).kept hk, fun j hj => ?_, (va_Z.moved hA h8).kept hk, (va_Zq.moved hA h9).kept hk, fun i j a1 a2 a3 a4 a5 => va_Nc.moved hA (h10 i j a1 a2 a3 a4 a5), (va_Z.moved hA h11).kept hk, (va_T.moved hA h12).kept hk, (va_Z.moved hA h13).kept hk, (va_T.moved hA h14).kept hk, ⟨(va_X.moved hA h15).kept (hk _ (va_X_lt h15) (fun z => by have := z.1; omega)), h15b⟩, tSl_moved hA hk h16, h17.warm hW⟩
  obtain ⟨i1, i2, i3, i4⟩ := h7 j hj
  exact ⟨(va_O.moved hA i1).kept hk, (va_OF.moved hA i2).kept hk, (va_OF.moved hA i3).kept hk, (va_T.moved hA i4).kept hk⟩
theorem eCst_moved {B : Nat} {K : Nat → Nat} {s U : State} (hW : s.WarmedH U.vm) (hk : ∀ q : Nat, q < s.heap.size → ¬ eAd B q → U.heap[q]? = s.heap[q]?) (h : eCst B K s) : eCst B K U := by
  have hA := hW.alike
  obtain ⟨h1, h2, h3, h4, h5, h6⟩ := h
  exact ⟨(vx_Zq.moved hA h1).kept hk, (vx_Zq.moved hA h2).kept hk, va_AO.moved hA h3, va_AO.moved hA h4, va_AO.moved hA h5, eCs2_moved hW hk h6⟩
def eCx (p : Program) (l : Launch) (s : State) (mI : MethodId) (args : Array Value) (meth : Method) (c : Code) (m : Nat) : Prop :=
  p.tables.exec = Jvm.exec ∧ c.code = mBy m ∧ meth.sig.returnType = mRt m ∧ c.maxLocals = ewMax m ∧ s.vm.findClass (mNm m).cls = some mI.cls ∧ (∀ w ∈ ewL4, w.before args s = true) ∧ meth.locks = false ∧ c.exceptionTable.toList = tableOf (mHh m) ∧ meth.name = (mNm m).name ∧ l.stackTraces = false ∧ B + 1 ≤ s.heap.size ∧ va_K D eCl (eTys dA) s ∧ eCst B K s
def eVv (p : Program) (l : Launch) (e : Env) (R : Room) (s : State) (mI : MethodId) (args : Array Value) (below : List Frame) (meth : Method) (c : Code) (Q : State → Prop) (m : Nat) (cells slots : Nat) (pc : Nat) (ls st : List eV) (μ : eM) : Prop :=
  ∀ H locs lsA, eRep B K dA D μ H → va_S (eAd B) s.heap H locs → eLR B K s m H lsA (ewMax m) ls → W p l e R s mI args below meth c H locs cells slots Q (F0 mI (mPc m pc) lsA (st.map (cv B K)))
theorem eKn_mem {lsA : Array Slot} {L : List eV} {k : Nat} {w : Value} : (k, w) ∈ eKn B K lsA L ↔ ∃ v, L[k]? = some v ∧ ((eIsT v = true ∧ lsA[k]? = some (.val w)) ∨ (eIsT v = false ∧ eIsJ v = false ∧ w = cv B K v)) := by
  unfold eKn
  rw [List.mem_filterMap]
  constructor
  · rintro ⟨⟨v, j⟩, h1, h2⟩
    have h3 := List.mem_zipIdx_iff_getElem?.mp h1
    simp only at h2 h3
    split at h2
    next ht =>
      split at h2
      next w9 h9 =>
        cases h2
        exact ⟨v, h3, Or.inl ⟨ht, h9⟩⟩
      · cases h2
    next ht =>
      split at h2
      · cases h2
      next h4 =>
        cases h2
        exact ⟨v, h3, Or.inr ⟨by simpa using ht, by simpa using h4, rfl⟩⟩
  · rintro ⟨v, h1, h2⟩
    refine ⟨(v, k), List.mem_zipIdx_iff_getElem?.mpr h1, ?_⟩
    rcases h2 with ⟨h2, h3⟩ | ⟨h2, h3, rfl⟩
    · simp [h2, h3]
    · simp [h2, h3]
theorem eLR.has {s : State} {m : Nat} {H : Heap} {lsA : Array Slot} {nL : Nat} {L : List eV} (h : eLR B K s m H lsA nL L) : lv_has lsA nL (eKn B K lsA L) := by
  obtain ⟨h1, h2, h3, h4, -⟩ := h
  refine ⟨h1, h2, ?_⟩
  rintro ⟨k, w⟩ hq
  obtain ⟨v, e1, e2⟩ := (eKn_mem B K).mp hq
  rcases e2 with ⟨e2, e3⟩ | ⟨e2, e3, rfl⟩
  · exact e3
  · exact h4 k v e1 e3
/-- where there are no texts, the heap is none of the locals' business -/
theorem eLR.mv {s : State} {m : Nat} {H H1 : Heap} {lsA : Array Slot} {nL : Nat} {L : List eV} (h : eLR B K s m H lsA nL L) (hm : ¬ m = m_L_sounds) : eLR B K s m H1 lsA nL L :=
  ⟨h.1, h.2.1, h.2.2.1, h.2.2.2.1, fun z => absurd z hm⟩
theorem eLR.fr {s : State} {m : Nat} {H H1 : Heap} {lsA : Array Slot} {nL : Nat} {L : List eV} (h : eLR B K s m H lsA nL L) (hk : ∀ q : Nat, q < H.size → ¬ eAd B q → H1[q]? = H[q]?) : eLR B K s m H1 lsA nL L :=
  ⟨h.1, h.2.1, h.2.2.1, h.2.2.2.1, fun z k t h17 ht => by
    obtain ⟨a, h1, h2⟩ := h.2.2.2.2 z k t h17 ht
    exact ⟨a, h1, tTx_moved ⟨rfl, rfl, fun _ k hk => ⟨k, hk, rfl⟩⟩ hk h2⟩⟩
theorem cv_cat (v : eV) (hj : eIsJ v = false) : (cv B K v).category = 2 ↔ eIsD v = true := by
  match v with
  | .inl x => simp [cv, eIsD, Value.category]
  | .inr (.inl a) => simp only [cv, rv, eIsD]; split <;> (try split) <;> simp [Value.category]
  | .inr (.inr (.inl x)) => simp [cv, eIsD, Value.category]
  | .inr (.inr (.inr (.inl x))) => simp [cv, eIsD, Value.category]
  | .inr (.inr (.inr (.inr (.inl x)))) => simp [cv, eIsD, Value.category]
  | .inr (.inr (.inr (.inr (.inr x)))) => simp [eIsJ] at hj
theorem eSt_len (L : List eV) (i : Nat) (w : eV) : (eSt L i w).length = L.length := by
  unfold eSt
  split
  · simp
  · split <;> simp
theorem eSt_at {L : List eV} {i k : Nat} {w v : eV} (h : (eSt L i w)[k]? = some v) (hj : v ≠ vJ) : (k = i ∧ v = w ∧ i < L.length) ∨ (k ≠ i ∧ L[k]? = some v ∧ (k + 1 = i → eIsD v = false)) := by
  unfold eSt at h
  split at h
  · rw [List.getElem?_set] at h
    split at h
    next hk =>
      split at h
      next hl => cases h; exact Or.inl ⟨hk.symm, rfl, hl⟩
      · cases h
    next hk => exact Or.inr ⟨fun z => hk z.symm, h, fun z => by omega⟩
  next j =>
    split at h
    next hd =>
      rw [List.getElem?_set] at h
      split at h
      next hk =>
        split at h
        next hl => cases h; simp at hl; exact Or.inl ⟨hk.symm, rfl, hl⟩
        · cases h
      next hk =>
        rw [List.getElem?_set] at h
        split at h
        next hk2 =>
          split at h
          · cases h; exact absurd rfl hj
          · cases h
        next hk2 => exact Or.inr ⟨fun z => hk z.symm, h, fun z => absurd (by omega) hk2⟩
    next hd =>
      rw [List.getElem?_set] at h
      split at h
      next hk =>
        split at h
        next hl => cases h; exact Or.inl ⟨hk.symm, rfl, hl⟩
        · cases h
      next hk =>
        refine Or.inr ⟨fun z => hk z.symm, h, fun z => ?_⟩
        have : k = j := by omega
        subst this
        cases hv : eIsD v with
        | false => rfl
        | true =>
          exfalso
          apply hd
          show eIsD (L.getD k vJ) = true
          rw [List.getD_eq_getElem?_getD, h]
          exact hv
theorem nJ_of {v : eV} (h : eIsJ v = false) : v ≠ vJ := by
  rintro rfl
  cases h
theorem eKn_fl {lsA : Array Slot} {L : List eV} {i k : Nat} {v : eV} {x : Value} (hl : L[k]? = some v) (hx : (eIsT v = true ∧ lsA[k]? = some (.val x) ∧ x.category = 1) ∨ (eIsT v = false ∧ eIsJ v = false ∧ x = cv B K v)) (hne : k ≠ i) (hd : k + 1 = i → eIsD v = false) :
    (k, x) ∈ (eKn B K lsA L).filter (fun q => !(q.1 == i) && !(q.1 + 1 == i && q.2.category == 2)) := by
  refine List.mem_filter.mpr ⟨(eKn_mem B K).mpr ⟨v, hl, ?_⟩, ?_⟩
  · rcases hx with ⟨a, b, -⟩ | h
    · exact Or.inl ⟨a, b⟩
    · exact Or.inr h
  · have hc : ¬ (k + 1 = i ∧ x.category = 2) := by
      rintro ⟨z1, z2⟩
      rcases hx with ⟨a, b, c⟩ | ⟨a, b, rfl⟩
      · omega
      · rw [cv_cat B K v b, hd z1] at z2
        cases z2
    have a1 : (k == i) = false := by simpa using hne
    have a2 : (k + 1 == i && x.category == 2) = false := by
      cases hq : (k + 1 == i && x.category == 2) with
      | false => rfl
      | true =>
        rw [Bool.and_eq_true, beq_iff_eq, beq_iff_eq] at hq
        exact absurd hq hc
    show (!(k == i) && !(k + 1 == i && x.category == 2)) = true
    rw [a1, a2]
    rfl
theorem eJT {v : eV} (h : eIsJ v = false) : eIsT v = false := by
  match v with
  | .inl x => rfl
  | .inr (.inl a) => rfl
  | .inr (.inr (.inl x)) => rfl
  | .inr (.inr (.inr (.inl x))) => rfl
  | .inr (.inr (.inr (.inr (.inl x)))) => rfl
  | .inr (.inr (.inr (.inr (.inr x)))) => cases h
theorem eLR.put {s : State} {m : Nat} {H : Heap} {lsA ls' : Array Slot} {nL i : Nat} {L : List eV} {w : eV} (h : eLR B K s m H lsA nL L) (h' : lv_has ls' nL ((i, cv B K w) :: (eKn B K lsA L).filter (fun q => !(q.1 == i) && !(q.1 + 1 == i && q.2.category == 2)))) (hw : eIsT w = false := by rfl) : eLR B K s m H ls' nL (eSt L i w) := by
  obtain ⟨h1, h2, h3⟩ := h'
  refine ⟨h1, h2, by rw [eSt_len]; exact h.2.2.1, ?_, ?_⟩
  · intro k v hk hj
    rcases eSt_at hk (nJ_of hj) with ⟨rfl, rfl, -⟩ | ⟨hne, hl, hd⟩
    · exact h3 _ List.mem_cons_self
    · exact h3 (k, cv B K v) (List.mem_cons_of_mem _ (eKn_fl B K hl (Or.inr ⟨eJT hj, hj, rfl⟩) hne hd))
  · intro hm k t h17 hk
    rcases eSt_at hk (fun z => by cases z) with ⟨-, rfl, -⟩ | ⟨hne, hl, hd⟩
    · cases hw
    · obtain ⟨a, h4, h5⟩ := h.2.2.2.2 hm k t h17 hl
      exact ⟨a, h3 (k, .ref a) (List.mem_cons_of_mem _ (eKn_fl B K hl (Or.inl ⟨rfl, h4, rfl⟩) hne hd)), h5⟩
end
abbrev eNx (pc : Nat) (ls st : List eV) (μ : eM) : eA := some (.inl (pc, ls, st, μ))
abbrev eEd (o : eO) (μ : eM) : eA := some (.inr (.inr (o, μ)))
theorem nx1 {m i len : Nat} (h : nxt m i len = true) : mPc m (i + 1) = mPc m i + len := by simpa [nxt] using h
theorem tg1 {m i t : Nat} {off : Int} (h : tgO m i off t = true) : (mPc m i : Int) + off = (mPc m t : Int) := by simpa [tgO] using h
theorem rv_cell {B : Nat} {K : Nat → Nat} {a : Nat} (h1 : 1 ≤ a) (h2 : a < 1000) : rv B K a = .ref (B + a) := by
  unfold rv
  rw [if_neg (by omega), if_pos h2]
theorem rv_ref {B : Nat} {K : Nat → Nat} {a : Nat} (h : ¬ a = 0) : ∃ q : Nat, rv B K a = .ref q := by
  unfold rv
  rw [if_neg h]
  split
  · exact ⟨_, rfl⟩
  · exact ⟨_, rfl⟩
theorem rv_null {B : Nat} {K : Nat → Nat} : rv B K 0 = .null := rfl
theorem ewK_big : ∀ a, ewK a ≠ 0 → 1 ≤ a ∧ a < 1000 := by
  intro a h
  have h0 : ewK 0 = 0 := by decide +kernel
  refine ⟨?_, ?_⟩
  · rcases Nat.eq_zero_or_pos a with q | q
    · subst q; exact absurd h0 h
    · exact q
  · rcases Nat.lt_or_ge a 1000 with q | q
    · exact q
    · exfalso
      apply h
      have h1 : kdTbl.length = 19 := by decide +kernel
      unfold ewK
      have h2 : kdTbl.getD (a / 32) [] = [] := by
        rw [List.getD_eq_getElem?_getD, List.getElem?_eq_none (by omega)]
        rfl
      rw [h2]; rfl
theorem kn_of {n a k : Nat} (hk : ¬ k = 0) (h : kn ewK n a = k) : 1 ≤ a ∧ a ≤ n ∧ a < 1000 ∧ ewK a = k := by
  unfold kn at h
  split at h
  next hn =>
    have := ewK_big a (by omega)
    exact ⟨this.1, hn, this.2, h⟩
  · exact absurd h.symm hk
section
variable {B : Nat} {K : Nat → Nat} {dA : Nat → ClassId} {D : va_G} {X : eX}
variable {p : Program} {l : Launch} {e : Env} {R : Room} {s : State} {mI : MethodId} {args : Array Value} {below : List Frame} {meth : Method} {c : Code} {cells slots : Nat} {Q : State → Prop} {m : Nat}
theorem sl_0 {X : eX} {pc a b k : Nat} {v : Int} {tg : List Nat} {ls st : List eV} {n e : Nat} {p : Nat → Nat → Nat} {h : Nat → Nat → Int} : eSel ewK ewL ewT X pc (0, a, b, k, v, tg) ls st (n, e, p, h) = (match ls[a]? with
    | some (.inr (.inl x)) => eNx (pc + 1) ls (vR x :: st)  (n, e, p, h)
    | _ => none) := rfl
theorem ck_0 {m i a b k : Nat} {v : Int} {tg : List Nat} : chk m i (0, a, b, k, v, tg) = (match ewD m i with
    | .ok (.aload_n j, 1) => decide ((j : Nat) = a) && nxt m i 1
    | .ok (.aload j, 2) => decide (j = a) && nxt m i 2
    | _ => false) := rfl
set_option maxHeartbeats 1000000 in
theorem op_0 (C : eCx B K dA D p l s mI args meth c m) {pc a b k : Nat} {v : Int} {tg : List Nat} {ls st ls' st' : List eV} {n e0 : Nat} {pp : Nat → Nat → Nat} {hh : Nat → Nat → Int} {μ' : eM} {pc' : Nat} (hk : chk m pc (0, a, b, k, v, tg) = true) (hw : eWf ls st (n, e0, pp, hh)) (hs : eSel ewK ewL ewT X pc (0, a, b, k, v, tg) ls st (n, e0, pp, hh) = some (.inl (pc', ls', st', μ'))) (kk : eVv B K dA D p l e R s mI args below meth c Q m cells slots pc' ls' st' μ') : eVv B K dA D p l e R s mI args below meth c Q m cells slots pc ls st (n, e0, pp, hh) := by
  obtain ⟨hx, hb, hr, hml, hown, hts, hlk, htb, hnm, hst, hB1, hK, hC⟩ := C
  rw [sl_0] at hs
  rw [ck_0] at hk
  split at hs
  next x hl9 =>
    have hl0 : ∀ (H : Heap) (lsA : Array Slot), eLR B K s m H lsA (ewMax m) ls → lsA[a]? = some (.val (rv B K x)) := fun H lsA hL => hL.2.2.2.1 a _ hl9 rfl
    split at hk
    next j hd =>
      simp only [Bool.and_eq_true, decide_eq_true_eq] at hk
      cases hs
      intro H locs lsA hR hS hL
      have h1 := kk H locs lsA hR hS hL
      rw [nx1 hk.2] at h1
      have h2 := hl0 H lsA hL
      by_cases hz : x = 0
      · subst hz
        exact lv_aload_nN hx hb hd hk.1 h2 h1
      · obtain ⟨q, hq⟩ := rv_ref (B := B) (K := K) hz
        rw [hq] at h2
        exact lv_aload_n hx hb hd hk.1 h2 (by rw [← hq]; exact h1)
    next j hd =>
      simp only [Bool.and_eq_true, decide_eq_true_eq] at hk
      obtain ⟨rfl, hn⟩ := hk
      cases hs
      intro H locs lsA hR hS hL
      have h1 := kk H locs lsA hR hS hL
      rw [nx1 hn] at h1
      have h2 := hl0 H lsA hL
      by_cases hz : x = 0
      · subst hz
        exact lv_aloadN hx hb hd h2 h1
      · obtain ⟨q, hq⟩ := rv_ref (B := B) (K := K) hz
        rw [hq] at h2
        exact lv_aload hx hb hd h2 (by rw [← hq]; exact h1)
    · cases hk
  · cases hs
theorem sl_1 {X : eX} {pc a b k : Nat} {v : Int} {tg : List Nat} {ls st : List eV} {n e : Nat} {p : Nat → Nat → Nat} {h : Nat → Nat → Int} : eSel ewK ewL ewT X pc (1, a, b, k, v, tg) ls st (n, e, p, h) = (match ls[a]? with
    | some (.inl x) => eNx (pc + 1) ls (vI x :: st)  (n, e, p, h)
    | _ => none) := rfl
theorem ck_1 {m i a b k : Nat} {v : Int} {tg : List Nat} : chk m i (1, a, b, k, v, tg) = (match ewD m i with
    | .ok (.iload_n j, 1) => decide ((j : Nat) = a) && nxt m i 1
    | .ok (.iload j, 2) => decide (j = a) && nxt m i 2
    | _ => false) := rfl
set_option maxHeartbeats 1000000 in
theorem op_1 (C : eCx B K dA D p l s mI args meth c m) {pc a b k : Nat} {v : Int} {tg : List Nat} {ls st ls' st' : List eV} {n e0 : Nat} {pp : Nat → Nat → Nat} {hh : Nat → Nat → Int} {μ' : eM} {pc' : Nat} (hk : chk m pc (1, a, b, k, v, tg) = true) (hw : eWf ls st (n, e0, pp, hh)) (hs : eSel ewK ewL ewT X pc (1, a, b, k, v, tg) ls st (n, e0, pp, hh) = some (.inl (pc', ls', st', μ'))) (kk : eVv B K dA D p l e R s mI args below meth c Q m cells slots pc' ls' st' μ') : eVv B K dA D p l e R s mI args below meth c Q m cells slots pc ls st (n, e0, pp, hh) := by
  obtain ⟨hx, hb, hr, hml, hown, hts, hlk, htb, hnm, hst, hB1, hK, hC⟩ := C
  rw [sl_1] at hs
  rw [ck_1] at hk
  split at hs
  next x hl9 =>
    have hl0 : ∀ (H : Heap) (lsA : Array Slot), eLR B K s m H lsA (ewMax m) ls → lsA[a]? = some (.val (.int (Int32.ofInt x))) := fun H lsA hL => hL.2.2.2.1 a _ hl9 rfl
    split at hk
    next j hd =>
      simp only [Bool.and_eq_true, decide_eq_true_eq] at hk
      cases hs
      intro H locs lsA hR hS hL
      have h1 := kk H locs lsA hR hS hL
      rw [nx1 hk.2] at h1
      exact lv_iload_n hx hb hd hk.1 (hl0 H lsA hL) h1
    next j hd =>
      simp only [Bool.and_eq_true, decide_eq_true_eq] at hk
      obtain ⟨rfl, hn⟩ := hk
      cases hs
      intro H locs lsA hR hS hL
      have h1 := kk H locs lsA hR hS hL
      rw [nx1 hn] at h1
      exact lv_iload hx hb hd (hl0 H lsA hL) h1
    · cases hk
  · cases hs
theorem sl_2 {X : eX} {pc a b k : Nat} {v : Int} {tg : List Nat} {ls st : List eV} {n e : Nat} {p : Nat → Nat → Nat} {h : Nat → Nat → Int} : eSel ewK ewL ewT X pc (2, a, b, k, v, tg) ls st (n, e, p, h) = (eNx (pc + 1) ls (vI v :: st)  (n, e, p, h)) := rfl
theorem ck_2 {m i a b k : Nat} {v : Int} {tg : List Nat} : chk m i (2, a, b, k, v, tg) = (inB v && match ewD m i with
    | .ok (.iconst n, 1) => decide (Int32.ofInt n = Int32.ofInt v) && nxt m i 1
    | .ok (.bipush n, 2) => decide ((Int8.ofInt n).toInt32 = Int32.ofInt v) && nxt m i 2
    | .ok (.sipush n, 3) => decide ((Int16.ofInt n).toInt32 = Int32.ofInt v) && nxt m i 3
    | .ok (.ldc idx, 2) => decide (wd k = some (.constant (mNm m).cls idx (Int32.ofInt v))) && nxt m i 2
    | _ => false) := rfl
set_option maxHeartbeats 1000000 in
theorem op_2 (C : eCx B K dA D p l s mI args meth c m) {pc a b k : Nat} {v : Int} {tg : List Nat} {ls st ls' st' : List eV} {n e0 : Nat} {pp : Nat → Nat → Nat} {hh : Nat → Nat → Int} {μ' : eM} {pc' : Nat} (hk : chk m pc (2, a, b, k, v, tg) = true) (hw : eWf ls st (n, e0, pp, hh)) (hs : eSel ewK ewL ewT X pc (2, a, b, k, v, tg) ls st (n, e0, pp, hh) = some (.inl (pc', ls', st', μ'))) (kk : eVv B K dA D p l e R s mI args below meth c Q m cells slots pc' ls' st' μ') : eVv B K dA D p l e R s mI args below meth c Q m cells slots pc ls st (n, e0, pp, hh) := by
  obtain ⟨hx, hb, hr, hml, hown, hts, hlk, htb, hnm, hst, hB1, hK, hC⟩ := C
  rw [sl_2] at hs
  rw [ck_2] at hk
  cases hs
  simp only [Bool.and_eq_true] at hk
  obtain ⟨hv, hk⟩ := hk
  split at hk
  next q hd =>
    simp only [Bool.and_eq_true, decide_eq_true_eq] at hk
    intro H locs lsA hR hS hL
    have h1 := kk H locs lsA hR hS hL
    rw [nx1 hk.2] at h1
    exact lv_iconst hx hb hd hk.1 h1
  next q hd =>
    simp only [Bool.and_eq_true, decide_eq_true_eq] at hk
    intro H locs lsA hR hS hL
    have h1 := kk H locs lsA hR hS hL
    rw [nx1 hk.2] at h1
    exact lv_bipush hx hb hd hk.1 h1
  next q hd =>
    simp only [Bool.and_eq_true, decide_eq_true_eq] at hk
    intro H locs lsA hR hS hL
    have h1 := kk H locs lsA hR hS hL
    rw [nx1 hk.2] at h1
    exact lv_sipush hx hb hd hk.1 h1
  next q hd =>
    simp only [Bool.and_eq_true, decide_eq_true_eq] at hk
    intro H locs lsA hR hS hL
    have h1 := kk H locs lsA hR hS hL
    rw [nx1 hk.2] at h1
    exact lv_ldc hx hb hown (hts _ (in4 (wd_mem hk.1) rfl)) hd h1
  · cases hk
theorem sl_7 {X : eX} {pc a b k : Nat} {v : Int} {tg : List Nat} {ls st : List eV} {n e : Nat} {p : Nat → Nat → Nat} {h : Nat → Nat → Int} : eSel ewK ewL ewT X pc (7, a, b, k, v, tg) ls st (n, e, p, h) = (eNx a ls st  (n, e, p, h)) := rfl
theorem ck_7 {m i a b k : Nat} {v : Int} {tg : List Nat} : chk m i (7, a, b, k, v, tg) = (match ewD m i with
    | .ok (.goto off, 3) => tgO m i off a
    | _ => false) := rfl
set_option maxHeartbeats 1000000 in
theorem op_7 (C : eCx B K dA D p l s mI args meth c m) {pc a b k : Nat} {v : Int} {tg : List Nat} {ls st ls' st' : List eV} {n e0 : Nat} {pp : Nat → Nat → Nat} {hh : Nat → Nat → Int} {μ' : eM} {pc' : Nat} (hk : chk m pc (7, a, b, k, v, tg) = true) (hw : eWf ls st (n, e0, pp, hh)) (hs : eSel ewK ewL ewT X pc (7, a, b, k, v, tg) ls st (n, e0, pp, hh) = some (.inl (pc', ls', st', μ'))) (kk : eVv B K dA D p l e R s mI args below meth c Q m cells slots pc' ls' st' μ') : eVv B K dA D p l e R s mI args below meth c Q m cells slots pc ls st (n, e0, pp, hh) := by
  obtain ⟨hx, hb, hr, hml, hown, hts, hlk, htb, hnm, hst, hB1, hK, hC⟩ := C
  rw [sl_7] at hs
  rw [ck_7] at hk
  split at hk
  next off hd =>
    cases hs
    intro H locs lsA hR hS hL
    exact lv_goto hx hb hd (tg1 hk) (kk H locs lsA hR hS hL)
  · cases hk
theorem sl_8 {X : eX} {pc a b k : Nat} {v : Int} {tg : List Nat} {ls st : List eV} {n e : Nat} {p : Nat → Nat → Nat} {h : Nat → Nat → Int} : eSel ewK ewL ewT X pc (8, a, b, k, v, tg) ls st (n, e, p, h) = (match st with
    | .inl y :: .inl x :: st => eNx (pc + 1) ls (vI (wr (x + y)) :: st)  (n, e, p, h)
    | _ => none) := rfl
theorem ck_8 {m i a b k : Nat} {v : Int} {tg : List Nat} : chk m i (8, a, b, k, v, tg) = (match ewD m i with
    | .ok (.iadd, 1) => nxt m i 1
    | _ => false) := rfl
set_option maxHeartbeats 1000000 in
theorem op_8 (C : eCx B K dA D p l s mI args meth c m) {pc a b k : Nat} {v : Int} {tg : List Nat} {ls st ls' st' : List eV} {n e0 : Nat} {pp : Nat → Nat → Nat} {hh : Nat → Nat → Int} {μ' : eM} {pc' : Nat} (hk : chk m pc (8, a, b, k, v, tg) = true) (hw : eWf ls st (n, e0, pp, hh)) (hs : eSel ewK ewL ewT X pc (8, a, b, k, v, tg) ls st (n, e0, pp, hh) = some (.inl (pc', ls', st', μ'))) (kk : eVv B K dA D p l e R s mI args below meth c Q m cells slots pc' ls' st' μ') : eVv B K dA D p l e R s mI args below meth c Q m cells slots pc ls st (n, e0, pp, hh) := by
  obtain ⟨hx, hb, hr, hml, hown, hts, hlk, htb, hnm, hst, hB1, hK, hC⟩ := C
  rw [sl_8] at hs
  rw [ck_8] at hk
  split at hs
  next y x st2 =>
    split at hk
    next hd =>
      cases hs
      intro H locs lsA hR hS hL
      have h1 := kk H locs lsA hR hS hL
      rw [nx1 hk] at h1
      refine lv_iadd hx hb hd ?_
      rw [oI_add]
      exact h1
    · cases hk
  · cases hs
theorem sl_18 {X : eX} {pc a b k : Nat} {v : Int} {tg : List Nat} {ls st : List eV} {n e : Nat} {p : Nat → Nat → Nat} {h : Nat → Nat → Int} : eSel ewK ewL ewT X pc (18, a, b, k, v, tg) ls st (n, e, p, h) = (match st with
    | .inl y :: .inl x :: st => eNx (pc + 1) ls (vI (wr (x - y)) :: st)  (n, e, p, h)
    | _ => none) := rfl
theorem ck_18 {m i a b k : Nat} {v : Int} {tg : List Nat} : chk m i (18, a, b, k, v, tg) = (match ewD m i with
    | .ok (.isub, 1) => nxt m i 1
    | _ => false) := rfl
set_option maxHeartbeats 1000000 in
theorem op_18 (C : eCx B K dA D p l s mI args meth c m) {pc a b k : Nat} {v : Int} {tg : List Nat} {ls st ls' st' : List eV} {n e0 : Nat} {pp : Nat → Nat → Nat} {hh : Nat → Nat → Int} {μ' : eM} {pc' : Nat} (hk : chk m pc (18, a, b, k, v, tg) = true) (hw : eWf ls st (n, e0, pp, hh)) (hs : eSel ewK ewL ewT X pc (18, a, b, k, v, tg) ls st (n, e0, pp, hh) = some (.inl (pc', ls', st', μ'))) (kk : eVv B K dA D p l e R s mI args below meth c Q m cells slots pc' ls' st' μ') : eVv B K dA D p l e R s mI args below meth c Q m cells slots pc ls st (n, e0, pp, hh) := by
  obtain ⟨hx, hb, hr, hml, hown, hts, hlk, htb, hnm, hst, hB1, hK, hC⟩ := C
  rw [sl_18] at hs
  rw [ck_18] at hk
  split at hs
  next y x st2 =>
    split at hk
    next hd =>
      cases hs
      intro H locs lsA hR hS hL
      have h1 := kk H locs lsA hR hS hL
      rw [nx1 hk] at h1
      refine lv_isub hx hb hd ?_
      rw [oI_sub]
      exact h1
    · cases hk
  · cases hs
theorem sl_22 {X : eX} {pc a b k : Nat} {v : Int} {tg : List Nat} {ls st : List eV} {n e : Nat} {p : Nat → Nat → Nat} {h : Nat → Nat → Int} : eSel ewK ewL ewT X pc (22, a, b, k, v, tg) ls st (n, e, p, h) = (match st with
    | .inl y :: .inl x :: st => eNx (pc + 1) ls (vI (wr (x * y)) :: st)  (n, e, p, h)
    | _ => none) := rfl
theorem ck_22 {m i a b k : Nat} {v : Int} {tg : List Nat} : chk m i (22, a, b, k, v, tg) = (match ewD m i with
    | .ok (.imul, 1) => nxt m i 1
    | _ => false) := rfl
set_option maxHeartbeats 1000000 in
theorem op_22 (C : eCx B K dA D p l s mI args meth c m) {pc a b k : Nat} {v : Int} {tg : List Nat} {ls st ls' st' : List eV} {n e0 : Nat} {pp : Nat → Nat → Nat} {hh : Nat → Nat → Int} {μ' : eM} {pc' : Nat} (hk : chk m pc (22, a, b, k, v, tg) = true) (hw : eWf ls st (n, e0, pp, hh)) (hs : eSel ewK ewL ewT X pc (22, a, b, k, v, tg) ls st (n, e0, pp, hh) = some (.inl (pc', ls', st', μ'))) (kk : eVv B K dA D p l e R s mI args below meth c Q m cells slots pc' ls' st' μ') : eVv B K dA D p l e R s mI args below meth c Q m cells slots pc ls st (n, e0, pp, hh) := by
  obtain ⟨hx, hb, hr, hml, hown, hts, hlk, htb, hnm, hst, hB1, hK, hC⟩ := C
  rw [sl_22] at hs
  rw [ck_22] at hk
  split at hs
  next y x st2 =>
    split at hk
    next hd =>
      cases hs
      intro H locs lsA hR hS hL
      have h1 := kk H locs lsA hR hS hL
      rw [nx1 hk] at h1
      refine lv_imul hx hb hd ?_
      rw [oI_mul]
      exact h1
    · cases hk
  · cases hs
theorem sl_9 {X : eX} {pc a b k : Nat} {v : Int} {tg : List Nat} {ls st : List eV} {n e : Nat} {p : Nat → Nat → Nat} {h : Nat → Nat → Int} : eSel ewK ewL ewT X pc (9, a, b, k, v, tg) ls st (n, e, p, h) = (match st with
    | .inl x :: st => match a with
      | 0 => if x = 0 then eNx b ls st  (n, e, p, h) else eNx (pc + 1) ls st  (n, e, p, h)
      | 1 => if x = 0 then eNx (pc + 1) ls st  (n, e, p, h) else eNx b ls st  (n, e, p, h)
      | 2 => if x < 0 then eNx b ls st  (n, e, p, h) else eNx (pc + 1) ls st  (n, e, p, h)
      | 3 => if x < 0 then eNx (pc + 1) ls st  (n, e, p, h) else eNx b ls st  (n, e, p, h)
      | 4 => if x ≤ 0 then eNx (pc + 1) ls st  (n, e, p, h) else eNx b ls st  (n, e, p, h)
      | _ => if x ≤ 0 then eNx b ls st  (n, e, p, h) else eNx (pc + 1) ls st  (n, e, p, h)
    | _ => none) := rfl
theorem ck_9 {m i a b k : Nat} {v : Int} {tg : List Nat} : chk m i (9, a, b, k, v, tg) = (match ewD m i with
    | .ok (.ifCond .eq off, 3) => nxt m i 3 && decide (a = 0) && tgO m i off b
    | .ok (.ifCond .ne off, 3) => nxt m i 3 && decide (a = 1) && tgO m i off b
    | .ok (.ifCond .lt off, 3) => nxt m i 3 && decide (a = 2) && tgO m i off b
    | .ok (.ifCond .ge off, 3) => nxt m i 3 && decide (a = 3) && tgO m i off b
    | .ok (.ifCond .gt off, 3) => nxt m i 3 && decide (a = 4) && tgO m i off b
    | .ok (.ifCond .le off, 3) => nxt m i 3 && decide (a = 5) && tgO m i off b
    | _ => false) := rfl
set_option maxHeartbeats 1000000 in
theorem op_9 (C : eCx B K dA D p l s mI args meth c m) {pc a b k : Nat} {v : Int} {tg : List Nat} {ls st ls' st' : List eV} {n e0 : Nat} {pp : Nat → Nat → Nat} {hh : Nat → Nat → Int} {μ' : eM} {pc' : Nat} (hk : chk m pc (9, a, b, k, v, tg) = true) (hw : eWf ls st (n, e0, pp, hh)) (hs : eSel ewK ewL ewT X pc (9, a, b, k, v, tg) ls st (n, e0, pp, hh) = some (.inl (pc', ls', st', μ'))) (kk : eVv B K dA D p l e R s mI args below meth c Q m cells slots pc' ls' st' μ') : eVv B K dA D p l e R s mI args below meth c Q m cells slots pc ls st (n, e0, pp, hh) := by
  obtain ⟨hx, hb, hr, hml, hown, hts, hlk, htb, hnm, hst, hB1, hK, hC⟩ := C
  rw [sl_9] at hs
  rw [ck_9] at hk
  split at hs
  next x st2 =>
    have w1 : inR x := hw.2.1 _ List.mem_cons_self
    split at hk
    next off hd =>
      simp only [Bool.and_eq_true, decide_eq_true_eq] at hk
      obtain ⟨⟨hn, rfl⟩, ht⟩ := hk
      replace hs : (if x = 0 then eNx b ls _ _ else eNx (pc + 1) ls _ _) = _ := hs
      intro H locs lsA hR hS hL
      refine lv_if_eq hx hb hd (tg1 ht) (fun hc => ?_) (fun hc => ?_)
      · have hc' : x = 0 := (oI_eq0 w1).mp hc
        rw [if_pos hc'] at hs
        cases hs
        exact kk H locs lsA hR hS hL
      · have hc' : ¬ x = 0 := fun q => hc ((oI_eq0 w1).mpr q)
        rw [if_neg hc'] at hs
        cases hs
        have h1 := kk H locs lsA hR hS hL
        rw [nx1 hn] at h1
        exact h1
    next off hd =>
      simp only [Bool.and_eq_true, decide_eq_true_eq] at hk
      obtain ⟨⟨hn, rfl⟩, ht⟩ := hk
      replace hs : (if x = 0 then eNx (pc + 1) ls _ _ else eNx b ls _ _) = _ := hs
      intro H locs lsA hR hS hL
      refine lv_if_ne hx hb hd (tg1 ht) (fun hc => ?_) (fun hc => ?_)
      · have hc' : ¬ x = 0 := fun q => hc ((oI_eq0 w1).mpr q)
        rw [if_neg hc'] at hs
        cases hs
        exact kk H locs lsA hR hS hL
      · have hc' : x = 0 := (oI_eq0 w1).mp hc
        rw [if_pos hc'] at hs
        cases hs
        have h1 := kk H locs lsA hR hS hL
        rw [nx1 hn] at h1
        exact h1
    next off hd =>
      simp only [Bool.and_eq_true, decide_eq_true_eq] at hk
      obtain ⟨⟨hn, rfl⟩, ht⟩ := hk
      replace hs : (if x < 0 then eNx b ls _ _ else eNx (pc + 1) ls _ _) = _ := hs
      intro H locs lsA hR hS hL
      refine lv_if_lt hx hb hd (tg1 ht) (fun hc => ?_) (fun hc => ?_)
      · have hc' : x < 0 := (oI_lt w1 in0).mp hc
        rw [if_pos hc'] at hs
        cases hs
        exact kk H locs lsA hR hS hL
      · have hc' : ¬ x < 0 := fun q => hc ((oI_lt w1 in0).mpr q)
        rw [if_neg hc'] at hs
        cases hs
        have h1 := kk H locs lsA hR hS hL
        rw [nx1 hn] at h1
        exact h1
    next off hd =>
      simp only [Bool.and_eq_true, decide_eq_true_eq] at hk
      obtain ⟨⟨hn, rfl⟩, ht⟩ := hk
      replace hs : (if x < 0 then eNx (pc + 1) ls _ _ else eNx b ls _ _) = _ := hs
      intro H locs lsA hR hS hL
      refine lv_if_ge hx hb hd (tg1 ht) (fun hc => ?_) (fun hc => ?_)
      · have hc' : ¬ x < 0 := Int.not_lt.mpr ((oI_le in0 w1).mp hc)
        rw [if_neg hc'] at hs
        cases hs
        exact kk H locs lsA hR hS hL
      · have hc' : x < 0 := Decidable.byContradiction fun q => hc ((oI_le in0 w1).mpr (Int.not_lt.mp q))
        rw [if_pos hc'] at hs
        cases hs
        have h1 := kk H locs lsA hR hS hL
        rw [nx1 hn] at h1
        exact h1
    next off hd =>
      simp only [Bool.and_eq_true, decide_eq_true_eq] at hk
      obtain ⟨⟨hn, rfl⟩, ht⟩ := hk
      replace hs : (if x ≤ 0 then eNx (pc + 1) ls _ _ else eNx b ls _ _) = _ := hs
      intro H locs lsA hR hS hL
      refine lv_if_gt hx hb hd (tg1 ht) (fun hc => ?_) (fun hc => ?_)
      · have hc' : ¬ x ≤ 0 := Int.not_le.mpr ((oI_lt in0 w1).mp hc)
        rw [if_neg hc'] at hs
        cases hs
        exact kk H locs lsA hR hS hL
      · have hc' : x ≤ 0 := Decidable.byContradiction fun q => hc ((oI_lt in0 w1).mpr (Int.not_le.mp q))
        rw [if_pos hc'] at hs
        cases hs
        have h1 := kk H locs lsA hR hS hL
        rw [nx1 hn] at h1
        exact h1
    next off hd =>
      simp only [Bool.and_eq_true, decide_eq_true_eq] at hk
      obtain ⟨⟨hn, rfl⟩, ht⟩ := hk
      replace hs : (if x ≤ 0 then eNx b ls _ _ else eNx (pc + 1) ls _ _) = _ := hs
      intro H locs lsA hR hS hL
      refine lv_if_le hx hb hd (tg1 ht) (fun hc => ?_) (fun hc => ?_)
      · have hc' : x ≤ 0 := (oI_le w1 in0).mp hc
        rw [if_pos hc'] at hs
        cases hs
        exact kk H locs lsA hR hS hL
      · have hc' : ¬ x ≤ 0 := fun q => hc ((oI_le w1 in0).mpr q)
        rw [if_neg hc'] at hs
        cases hs
        have h1 := kk H locs lsA hR hS hL
        rw [nx1 hn] at h1
        exact h1
    · cases hk
  · cases hs
theorem sl_10 {X : eX} {pc a b k : Nat} {v : Int} {tg : List Nat} {ls st : List eV} {n e : Nat} {p : Nat → Nat → Nat} {h : Nat → Nat → Int} : eSel ewK ewL ewT X pc (10, a, b, k, v, tg) ls st (n, e, p, h) = (match st with
    | .inl y :: .inl x :: st => match a with
      | 0 => if x = y then eNx b ls st  (n, e, p, h) else eNx (pc + 1) ls st  (n, e, p, h)
      | 1 => if x = y then eNx (pc + 1) ls st  (n, e, p, h) else eNx b ls st  (n, e, p, h)
      | 2 => if x < y then eNx b ls st  (n, e, p, h) else eNx (pc + 1) ls st  (n, e, p, h)
      | 3 => if x < y then eNx (pc + 1) ls st  (n, e, p, h) else eNx b ls st  (n, e, p, h)
      | 4 => if x ≤ y then eNx (pc + 1) ls st  (n, e, p, h) else eNx b ls st  (n, e, p, h)
      | _ => if x ≤ y then eNx b ls st  (n, e, p, h) else eNx (pc + 1) ls st  (n, e, p, h)
    | _ => none) := rfl
theorem ck_10 {m i a b k : Nat} {v : Int} {tg : List Nat} : chk m i (10, a, b, k, v, tg) = (match ewD m i with
    | .ok (.if_icmp .eq off, 3) => nxt m i 3 && decide (a = 0) && tgO m i off b
    | .ok (.if_icmp .ne off, 3) => nxt m i 3 && decide (a = 1) && tgO m i off b
    | .ok (.if_icmp .lt off, 3) => nxt m i 3 && decide (a = 2) && tgO m i off b
    | .ok (.if_icmp .ge off, 3) => nxt m i 3 && decide (a = 3) && tgO m i off b
    | .ok (.if_icmp .gt off, 3) => nxt m i 3 && decide (a = 4) && tgO m i off b
    | .ok (.if_icmp .le off, 3) => nxt m i 3 && decide (a = 5) && tgO m i off b
    | _ => false) := rfl
set_option maxHeartbeats 1000000 in
theorem op_10 (C : eCx B K dA D p l s mI args meth c m) {pc a b k : Nat} {v : Int} {tg : List Nat} {ls st ls' st' : List eV} {n e0 : Nat} {pp : Nat → Nat → Nat} {hh : Nat → Nat → Int} {μ' : eM} {pc' : Nat} (hk : chk m pc (10, a, b, k, v, tg) = true) (hw : eWf ls st (n, e0, pp, hh)) (hs : eSel ewK ewL ewT X pc (10, a, b, k, v, tg) ls st (n, e0, pp, hh) = some (.inl (pc', ls', st', μ'))) (kk : eVv B K dA D p l e R s mI args below meth c Q m cells slots pc' ls' st' μ') : eVv B K dA D p l e R s mI args below meth c Q m cells slots pc ls st (n, e0, pp, hh) := by
  obtain ⟨hx, hb, hr, hml, hown, hts, hlk, htb, hnm, hst, hB1, hK, hC⟩ := C
  rw [sl_10] at hs
  rw [ck_10] at hk
  split at hs
  next y x st2 =>
    have w1 : inR y := hw.2.1 _ List.mem_cons_self
    have w2 : inR x := hw.2.1 _ (List.mem_cons_of_mem _ List.mem_cons_self)
    split at hk
    next off hd =>
      simp only [Bool.and_eq_true, decide_eq_true_eq] at hk
      obtain ⟨⟨hn, rfl⟩, ht⟩ := hk
      replace hs : (if x = y then eNx b ls _ _ else eNx (pc + 1) ls _ _) = _ := hs
      intro H locs lsA hR hS hL
      refine lv_icmp_eq hx hb hd (tg1 ht) (fun hc => ?_) (fun hc => ?_)
      · have hc' : x = y := (oI_eq w2 w1).mp hc
        rw [if_pos hc'] at hs
        cases hs
        exact kk H locs lsA hR hS hL
      · have hc' : ¬ x = y := fun q => hc ((oI_eq w2 w1).mpr q)
        rw [if_neg hc'] at hs
        cases hs
        have h1 := kk H locs lsA hR hS hL
        rw [nx1 hn] at h1
        exact h1
    next off hd =>
      simp only [Bool.and_eq_true, decide_eq_true_eq] at hk
      obtain ⟨⟨hn, rfl⟩, ht⟩ := hk
      replace hs : (if x = y then eNx (pc + 1) ls _ _ else eNx b ls _ _) = _ := hs
      intro H locs lsA hR hS hL
      refine lv_icmp_ne hx hb hd (tg1 ht) (fun hc => ?_) (fun hc => ?_)
      · have hc' : ¬ x = y := fun q => hc ((oI_eq w2 w1).mpr q)
        rw [if_neg hc'] at hs
        cases hs
        exact kk H locs lsA hR hS hL
      · have hc' : x = y := (oI_eq w2 w1).mp hc
        rw [if_pos hc'] at hs
        cases hs
        have h1 := kk H locs lsA hR hS hL
        rw [nx1 hn] at h1
        exact h1
    next off hd =>
      simp only [Bool.and_eq_true, decide_eq_true_eq] at hk
      obtain ⟨⟨hn, rfl⟩, ht⟩ := hk
      replace hs : (if x < y then eNx b ls _ _ else eNx (pc + 1) ls _ _) = _ := hs
      intro H locs lsA hR hS hL
      refine lv_icmp_lt hx hb hd (tg1 ht) (fun hc => ?_) (fun hc => ?_)
      · have hc' : x < y := (oI_lt w2 w1).mp hc
        rw [if_pos hc'] at hs
        cases hs
        exact kk H locs lsA hR hS hL
      · have hc' : ¬ x < y := fun q => hc ((oI_lt w2 w1).mpr q)
        rw [if_neg hc'] at hs
        cases hs
        have h1 := kk H locs lsA hR hS hL
        rw [nx1 hn] at h1
        exact h1
    next off hd =>
      simp only [Bool.and_eq_true, decide_eq_true_eq] at hk
      obtain ⟨⟨hn, rfl⟩, ht⟩ := hk
      replace hs : (if x < y then eNx (pc + 1) ls _ _ else eNx b ls _ _) = _ := hs
      intro H locs lsA hR hS hL
      refine lv_icmp_ge hx hb hd (tg1 ht) (fun hc => ?_) (fun hc => ?_)
      · have hc' : ¬ x < y := Int.not_lt.mpr ((oI_le w1 w2).mp hc)
        rw [if_neg hc'] at hs
        cases hs
        exact kk H locs lsA hR hS hL
      · have hc' : x < y := Decidable.byContradiction fun q => hc ((oI_le w1 w2).mpr (Int.not_lt.mp q))
        rw [if_pos hc'] at hs
        cases hs
        have h1 := kk H locs lsA hR hS hL
        rw [nx1 hn] at h1
        exact h1
    next off hd =>
      simp only [Bool.and_eq_true, decide_eq_true_eq] at hk
      obtain ⟨⟨hn, rfl⟩, ht⟩ := hk
      replace hs : (if x ≤ y then eNx (pc + 1) ls _ _ else eNx b ls _ _) = _ := hs
      intro H locs lsA hR hS hL
      refine lv_icmp_gt hx hb hd (tg1 ht) (fun hc => ?_) (fun hc => ?_)
      · have hc' : ¬ x ≤ y := Int.not_le.mpr ((oI_lt w1 w2).mp hc)
        rw [if_neg hc'] at hs
        cases hs
        exact kk H locs lsA hR hS hL
      · have hc' : x ≤ y := Decidable.byContradiction fun q => hc ((oI_lt w1 w2).mpr (Int.not_le.mp q))
        rw [if_pos hc'] at hs
        cases hs
        have h1 := kk H locs lsA hR hS hL
        rw [nx1 hn] at h1
        exact h1
    next off hd =>
      simp only [Bool.and_eq_true, decide_eq_true_eq] at hk
      obtain ⟨⟨hn, rfl⟩, ht⟩ := hk
      replace hs : (if x ≤ y then eNx b ls _ _ else eNx (pc + 1) ls _ _) = _ := hs
      intro H locs lsA hR hS hL
      refine lv_icmp_le hx hb hd (tg1 ht) (fun hc => ?_) (fun hc => ?_)
      · have hc' : x ≤ y := (oI_le w2 w1).mp hc
        rw [if_pos hc'] at hs
        cases hs
        exact kk H locs lsA hR hS hL
      · have hc' : ¬ x ≤ y := fun q => hc ((oI_le w2 w1).mpr q)
        rw [if_neg hc'] at hs
        cases hs
        have h1 := kk H locs lsA hR hS hL
        rw [nx1 hn] at h1
        exact h1
    · cases hk
  · cases hs
theorem sl_14 {X : eX} {pc a b k : Nat} {v : Int} {tg : List Nat} {ls st : List eV} {n e : Nat} {p : Nat → Nat → Nat} {h : Nat → Nat → Int} : eSel ewK ewL ewT X pc (14, a, b, k, v, tg) ls st (n, e, p, h) = (match st with
    | .inl x :: st => if a < ls.length then eNx (pc + 1) (eSt ls a (vI x)) st  (n, e, p, h) else none
    | _ => none) := rfl
theorem ck_14 {m i a b k : Nat} {v : Int} {tg : List Nat} : chk m i (14, a, b, k, v, tg) = (match ewD m i with
    | .ok (.istore_n j, 1) => decide ((j : Nat) = a) && nxt m i 1
    | .ok (.istore j, 2) => decide (j = a) && nxt m i 2
    | _ => false) := rfl
set_option maxHeartbeats 1000000 in
theorem op_14 (C : eCx B K dA D p l s mI args meth c m) {pc a b k : Nat} {v : Int} {tg : List Nat} {ls st ls' st' : List eV} {n e0 : Nat} {pp : Nat → Nat → Nat} {hh : Nat → Nat → Int} {μ' : eM} {pc' : Nat} (hk : chk m pc (14, a, b, k, v, tg) = true) (hw : eWf ls st (n, e0, pp, hh)) (hs : eSel ewK ewL ewT X pc (14, a, b, k, v, tg) ls st (n, e0, pp, hh) = some (.inl (pc', ls', st', μ'))) (kk : eVv B K dA D p l e R s mI args below meth c Q m cells slots pc' ls' st' μ') : eVv B K dA D p l e R s mI args below meth c Q m cells slots pc ls st (n, e0, pp, hh) := by
  obtain ⟨hx, hb, hr, hml, hown, hts, hlk, htb, hnm, hst, hB1, hK, hC⟩ := C
  rw [sl_14] at hs
  rw [ck_14] at hk
  split at hs
  next x st2 =>
    split at hs
    next hlt =>
      split at hk
      next j hd =>
        simp only [Bool.and_eq_true, decide_eq_true_eq] at hk
        obtain ⟨hj, hn⟩ := hk
        cases hs
        intro H locs lsA hR hS hL
        have hlt2 : a < ewMax m := by rw [← hL.2.2.1]; exact hlt
        exact lv_istore_n hx hb hd hj (eLR.has B K hL) hlt2 rfl (fun ls2 hl2 => by
            have h1 := kk H locs ls2 hR hS (eLR.put B K (w := vI x) hL hl2)
            rw [nx1 hn] at h1
            exact h1)
      next j hd =>
        simp only [Bool.and_eq_true, decide_eq_true_eq] at hk
        obtain ⟨rfl, hn⟩ := hk
        cases hs
        intro H locs lsA hR hS hL
        have hlt2 : j < ewMax m := by rw [← hL.2.2.1]; exact hlt
        exact lv_istore hx hb hd (eLR.has B K hL) hlt2 rfl (fun ls2 hl2 => by
            have h1 := kk H locs ls2 hR hS (eLR.put B K (w := vI x) hL hl2)
            rw [nx1 hn] at h1
            exact h1)
      · cases hk
    · cases hs
  · cases hs
theorem sl_21 {X : eX} {pc a b k : Nat} {v : Int} {tg : List Nat} {ls st : List eV} {n e : Nat} {p : Nat → Nat → Nat} {h : Nat → Nat → Int} : eSel ewK ewL ewT X pc (21, a, b, k, v, tg) ls st (n, e, p, h) = (match st with
    | .inr (.inl x) :: st => if a < ls.length then eNx (pc + 1) (eSt ls a (vR x)) st  (n, e, p, h) else none
    | _ => none) := rfl
theorem ck_21 {m i a b k : Nat} {v : Int} {tg : List Nat} : chk m i (21, a, b, k, v, tg) = (match ewD m i with
    | .ok (.astore_n j, 1) => decide ((j : Nat) = a) && nxt m i 1
    | .ok (.astore j, 2) => decide (j = a) && nxt m i 2
    | _ => false) := rfl
set_option maxHeartbeats 1000000 in
theorem op_21 (C : eCx B K dA D p l s mI args meth c m) {pc a b k : Nat} {v : Int} {tg : List Nat} {ls st ls' st' : List eV} {n e0 : Nat} {pp : Nat → Nat → Nat} {hh : Nat → Nat → Int} {μ' : eM} {pc' : Nat} (hk : chk m pc (21, a, b, k, v, tg) = true) (hw : eWf ls st (n, e0, pp, hh)) (hs : eSel ewK ewL ewT X pc (21, a, b, k, v, tg) ls st (n, e0, pp, hh) = some (.inl (pc', ls', st', μ'))) (kk : eVv B K dA D p l e R s mI args below meth c Q m cells slots pc' ls' st' μ') : eVv B K dA D p l e R s mI args below meth c Q m cells slots pc ls st (n, e0, pp, hh) := by
  obtain ⟨hx, hb, hr, hml, hown, hts, hlk, htb, hnm, hst, hB1, hK, hC⟩ := C
  rw [sl_21] at hs
  rw [ck_21] at hk
  split at hs
  next x st2 =>
    split at hs
    next hlt =>
      split at hk
      next j hd =>
        simp only [Bool.and_eq_true, decide_eq_true_eq] at hk
        obtain ⟨hj, hn⟩ := hk
        cases hs
        intro H locs lsA hR hS hL
        have hlt2 : a < ewMax m := by rw [← hL.2.2.1]; exact hlt
        by_cases hz : x = 0
        · subst hz
          exact lv_astore_nN hx hb hd hj (eLR.has B K hL) hlt2 rfl (fun ls2 hl2 => by
            have h1 := kk H locs ls2 hR hS (eLR.put B K (w := vR 0) hL hl2)
            rw [nx1 hn] at h1
            exact h1)
        · obtain ⟨q, hq⟩ := rv_ref (B := B) (K := K) hz
          show W p l e R s mI args below meth c H locs cells slots Q (F0 mI (mPc m pc) lsA (rv B K x :: List.map (cv B K) _))
          rw [hq]
          exact lv_astore_n hx hb hd hj (eLR.has B K hL) hlt2 rfl (fun ls2 hl2 => by
            have h1 := kk H locs ls2 hR hS (eLR.put B K (w := vR x) hL (by show lv_has ls2 _ ((_, rv B K x) :: _); rw [hq]; exact hl2))
            rw [nx1 hn] at h1
            exact h1)
      next j hd =>
        simp only [Bool.and_eq_true, decide_eq_true_eq] at hk
        obtain ⟨rfl, hn⟩ := hk
        cases hs
        intro H locs lsA hR hS hL
        have hlt2 : j < ewMax m := by rw [← hL.2.2.1]; exact hlt
        by_cases hz : x = 0
        · subst hz
          exact lv_astoreN hx hb hd (eLR.has B K hL) hlt2 rfl (fun ls2 hl2 => by
            have h1 := kk H locs ls2 hR hS (eLR.put B K (w := vR 0) hL hl2)
            rw [nx1 hn] at h1
            exact h1)
        · obtain ⟨q, hq⟩ := rv_ref (B := B) (K := K) hz
          show W p l e R s mI args below meth c H locs cells slots Q (F0 mI (mPc m pc) lsA (rv B K x :: List.map (cv B K) _))
          rw [hq]
          exact lv_astore hx hb hd (eLR.has B K hL) hlt2 rfl (fun ls2 hl2 => by
            have h1 := kk H locs ls2 hR hS (eLR.put B K (w := vR x) hL (by show lv_has ls2 _ ((_, rv B K x) :: _); rw [hq]; exact hl2))
            rw [nx1 hn] at h1
            exact h1)
      · cases hk
    · cases hs
  · cases hs
theorem sl_15 {X : eX} {pc a b k : Nat} {v : Int} {tg : List Nat} {ls st : List eV} {n e : Nat} {p : Nat → Nat → Nat} {h : Nat → Nat → Int} : eSel ewK ewL ewT X pc (15, a, b, k, v, tg) ls st (n, e, p, h) = (match st with
    | .inl x :: st => eNx (pc + 1) ls (vI x :: vI x :: st)  (n, e, p, h)
    | .inr (.inl x) :: st => eNx (pc + 1) ls (vR x :: vR x :: st)  (n, e, p, h)
    | _ => none) := rfl
theorem ck_15 {m i a b k : Nat} {v : Int} {tg : List Nat} : chk m i (15, a, b, k, v, tg) = (match ewD m i with
    | .ok (.dup, 1) => nxt m i 1
    | _ => false) := rfl
set_option maxHeartbeats 1000000 in
theorem op_15 (C : eCx B K dA D p l s mI args meth c m) {pc a b k : Nat} {v : Int} {tg : List Nat} {ls st ls' st' : List eV} {n e0 : Nat} {pp : Nat → Nat → Nat} {hh : Nat → Nat → Int} {μ' : eM} {pc' : Nat} (hk : chk m pc (15, a, b, k, v, tg) = true) (hw : eWf ls st (n, e0, pp, hh)) (hs : eSel ewK ewL ewT X pc (15, a, b, k, v, tg) ls st (n, e0, pp, hh) = some (.inl (pc', ls', st', μ'))) (kk : eVv B K dA D p l e R s mI args below meth c Q m cells slots pc' ls' st' μ') : eVv B K dA D p l e R s mI args below meth c Q m cells slots pc ls st (n, e0, pp, hh) := by
  obtain ⟨hx, hb, hr, hml, hown, hts, hlk, htb, hnm, hst, hB1, hK, hC⟩ := C
  rw [sl_15] at hs
  rw [ck_15] at hk
  have hc1 : ∀ x : Nat, (cv B K (vR x)).category = 1 := by
    intro x
    show (rv B K x).category = 1
    unfold rv
    split
    · rfl
    · split <;> rfl
  split at hs
  next x st2 =>
    split at hk
    next hd =>
      cases hs
      intro H locs lsA hR hS hL
      have h1 := kk H locs lsA hR hS hL
      rw [nx1 hk] at h1
      exact lv_dup hx hb hd rfl h1
    · cases hk
  next x st2 =>
    split at hk
    next hd =>
      cases hs
      intro H locs lsA hR hS hL
      have h1 := kk H locs lsA hR hS hL
      rw [nx1 hk] at h1
      exact lv_dup hx hb hd (hc1 x) h1
    · cases hk
  · cases hs
theorem sl_16 {X : eX} {pc a b k : Nat} {v : Int} {tg : List Nat} {ls st : List eV} {n e : Nat} {p : Nat → Nat → Nat} {h : Nat → Nat → Int} : eSel ewK ewL ewT X pc (16, a, b, k, v, tg) ls st (n, e, p, h) = (match ls[a]? with
    | some (.inl x) => eNx (pc + 1) (eSt ls a (vI (wr (x + v)))) st  (n, e, p, h)
    | _ => none) := rfl
theorem ck_16 {m i a b k : Nat} {v : Int} {tg : List Nat} : chk m i (16, a, b, k, v, tg) = (match ewD m i with
    | .ok (.iinc j n, 3) => decide (j = a) && decide (n = v) && nxt m i 3
    | _ => false) := rfl
set_option maxHeartbeats 1000000 in
theorem op_16 (C : eCx B K dA D p l s mI args meth c m) {pc a b k : Nat} {v : Int} {tg : List Nat} {ls st ls' st' : List eV} {n e0 : Nat} {pp : Nat → Nat → Nat} {hh : Nat → Nat → Int} {μ' : eM} {pc' : Nat} (hk : chk m pc (16, a, b, k, v, tg) = true) (hw : eWf ls st (n, e0, pp, hh)) (hs : eSel ewK ewL ewT X pc (16, a, b, k, v, tg) ls st (n, e0, pp, hh) = some (.inl (pc', ls', st', μ'))) (kk : eVv B K dA D p l e R s mI args below meth c Q m cells slots pc' ls' st' μ') : eVv B K dA D p l e R s mI args below meth c Q m cells slots pc ls st (n, e0, pp, hh) := by
  obtain ⟨hx, hb, hr, hml, hown, hts, hlk, htb, hnm, hst, hB1, hK, hC⟩ := C
  rw [sl_16] at hs
  rw [ck_16] at hk
  split at hs
  next x hl9 =>
    split at hk
    next j q hd =>
      simp only [Bool.and_eq_true, decide_eq_true_eq] at hk
      obtain ⟨⟨rfl, rfl⟩, hn⟩ := hk
      cases hs
      intro H locs lsA hR hS hL
      have hlt : j < ls.length := (List.getElem?_eq_some_iff.mp hl9).1
      have hm1 := (eKn_mem B K (lsA := lsA) (L := ls) (k := j) (w := .int (Int32.ofInt x))).mpr ⟨_, hl9, Or.inr ⟨rfl, rfl, rfl⟩⟩
      obtain ⟨t, ht⟩ := List.getElem?_of_mem hm1
      exact lv_iinc (v := Int32.ofInt (wr (x + q))) hx hb hd (eLR.has B K hL) ht (by rw [← oI_add]) (by rw [← hL.2.2.1]; exact hlt) rfl (fun ls2 hl2 => by
            have h1 := kk H locs ls2 hR hS (eLR.put B K (w := vI (wr (x + q))) hL hl2)
            rw [nx1 hn] at h1
            exact h1)
    · cases hk
  · cases hs
theorem sl_19 {X : eX} {pc a b k : Nat} {v : Int} {tg : List Nat} {ls st : List eV} {n e : Nat} {p : Nat → Nat → Nat} {h : Nat → Nat → Int} : eSel ewK ewL ewT X pc (19, a, b, k, v, tg) ls st (n, e, p, h) = (match st with
    | .inl x :: st => eNx (pc + 1) ls (vL x :: st)  (n, e, p, h)
    | _ => none) := rfl
theorem ck_19 {m i a b k : Nat} {v : Int} {tg : List Nat} : chk m i (19, a, b, k, v, tg) = (match ewD m i with
    | .ok (.i2l, 1) => nxt m i 1
    | _ => false) := rfl
set_option maxHeartbeats 1000000 in
theorem op_19 (C : eCx B K dA D p l s mI args meth c m) {pc a b k : Nat} {v : Int} {tg : List Nat} {ls st ls' st' : List eV} {n e0 : Nat} {pp : Nat → Nat → Nat} {hh : Nat → Nat → Int} {μ' : eM} {pc' : Nat} (hk : chk m pc (19, a, b, k, v, tg) = true) (hw : eWf ls st (n, e0, pp, hh)) (hs : eSel ewK ewL ewT X pc (19, a, b, k, v, tg) ls st (n, e0, pp, hh) = some (.inl (pc', ls', st', μ'))) (kk : eVv B K dA D p l e R s mI args below meth c Q m cells slots pc' ls' st' μ') : eVv B K dA D p l e R s mI args below meth c Q m cells slots pc ls st (n, e0, pp, hh) := by
  obtain ⟨hx, hb, hr, hml, hown, hts, hlk, htb, hnm, hst, hB1, hK, hC⟩ := C
  rw [sl_19] at hs
  rw [ck_19] at hk
  split at hs
  next x st2 =>
    have w1 : inR x := hw.2.1 _ List.mem_cons_self
    split at hk
    next hd =>
      cases hs
      intro H locs lsA hR hS hL
      have h1 := kk H locs lsA hR hS hL
      rw [nx1 hk] at h1
      exact lv_i2l hx hb hd (oI_i2l w1) h1
    · cases hk
  · cases hs
theorem sl_29 {X : eX} {pc a b k : Nat} {v : Int} {tg : List Nat} {ls st : List eV} {n e : Nat} {p : Nat → Nat → Nat} {h : Nat → Nat → Int} : eSel ewK ewL ewT X pc (29, a, b, k, v, tg) ls st (n, e, p, h) = (match st with
    | .inr (.inr (.inl y)) :: .inr (.inr (.inl x)) :: st => eNx (pc + 1) ls (vI (if x = y then 0 else if x < y then -1 else 1) :: st)  (n, e, p, h)
    | _ => none) := rfl
theorem ck_29 {m i a b k : Nat} {v : Int} {tg : List Nat} : chk m i (29, a, b, k, v, tg) = (match ewD m i with
    | .ok (.lcmp, 1) => nxt m i 1
    | _ => false) := rfl
set_option maxHeartbeats 1000000 in
theorem op_29 (C : eCx B K dA D p l s mI args meth c m) {pc a b k : Nat} {v : Int} {tg : List Nat} {ls st ls' st' : List eV} {n e0 : Nat} {pp : Nat → Nat → Nat} {hh : Nat → Nat → Int} {μ' : eM} {pc' : Nat} (hk : chk m pc (29, a, b, k, v, tg) = true) (hw : eWf ls st (n, e0, pp, hh)) (hs : eSel ewK ewL ewT X pc (29, a, b, k, v, tg) ls st (n, e0, pp, hh) = some (.inl (pc', ls', st', μ'))) (kk : eVv B K dA D p l e R s mI args below meth c Q m cells slots pc' ls' st' μ') : eVv B K dA D p l e R s mI args below meth c Q m cells slots pc ls st (n, e0, pp, hh) := by
  obtain ⟨hx, hb, hr, hml, hown, hts, hlk, htb, hnm, hst, hB1, hK, hC⟩ := C
  rw [sl_29] at hs
  rw [ck_29] at hk
  split at hs
  next y x st2 =>
    have w1 : inR8 y := hw.2.1 _ List.mem_cons_self
    have w2 : inR8 x := hw.2.1 _ (List.mem_cons_of_mem _ List.mem_cons_self)
    split at hk
    next hd =>
      cases hs
      intro H locs lsA hR hS hL
      have h1 := kk H locs lsA hR hS hL
      rw [nx1 hk] at h1
      refine W.lcmp hx hb hd ?_
      have hc : lg_cmp (Int64.ofInt x) (Int64.ofInt y) = Int32.ofInt (if x = y then 0 else if x < y then -1 else 1) := by
        unfold lg_cmp
        have e1 : (Int64.ofInt x = Int64.ofInt y) ↔ x = y := by
          constructor
          · intro h
            have := congrArg Int64.toInt h
            rw [oL_to8 w2, oL_to8 w1] at this
            exact this
          · intro h; rw [h]
        have e2 : (Int64.ofInt x < Int64.ofInt y) ↔ x < y := by
          rw [Int64.lt_iff_toInt_lt, oL_to8 w2, oL_to8 w1]
        have e3 : (Int64.ofInt y < Int64.ofInt x) ↔ y < x := by
          rw [Int64.lt_iff_toInt_lt, oL_to8 w2, oL_to8 w1]
        by_cases q1 : x = y
        · subst q1
          rw [if_neg (fun z => absurd (e3.mp z) (Int.lt_irrefl _)), if_pos rfl, if_pos rfl]
          rfl
        · rw [if_neg q1]
          by_cases q2 : x < y
          · rw [if_neg (fun z => absurd (e3.mp z) (by omega)), if_neg (fun z => q1 (e1.mp z)), if_pos q2]
            rfl
          · rw [if_pos (e3.mpr (by omega)), if_neg q2]
            rfl
      rw [hc]
      exact h1
    · cases hk
  · cases hs
theorem sl_32 {X : eX} {pc a b k : Nat} {v : Int} {tg : List Nat} {ls st : List eV} {n e : Nat} {p : Nat → Nat → Nat} {h : Nat → Nat → Int} : eSel ewK ewL ewT X pc (32, a, b, k, v, tg) ls st (n, e, p, h) = (match st with
    | .inr (.inl x) :: st => if x = 0 then eNx (pc + 1) ls st  (n, e, p, h) else eNx b ls st  (n, e, p, h)
    | _ => none) := rfl
theorem ck_32 {m i a b k : Nat} {v : Int} {tg : List Nat} : chk m i (32, a, b, k, v, tg) = (match ewD m i with
    | .ok (.ifnonnull off, 3) => nxt m i 3 && tgO m i off b
    | _ => false) := rfl
set_option maxHeartbeats 1000000 in
theorem op_32 (C : eCx B K dA D p l s mI args meth c m) {pc a b k : Nat} {v : Int} {tg : List Nat} {ls st ls' st' : List eV} {n e0 : Nat} {pp : Nat → Nat → Nat} {hh : Nat → Nat → Int} {μ' : eM} {pc' : Nat} (hk : chk m pc (32, a, b, k, v, tg) = true) (hw : eWf ls st (n, e0, pp, hh)) (hs : eSel ewK ewL ewT X pc (32, a, b, k, v, tg) ls st (n, e0, pp, hh) = some (.inl (pc', ls', st', μ'))) (kk : eVv B K dA D p l e R s mI args below meth c Q m cells slots pc' ls' st' μ') : eVv B K dA D p l e R s mI args below meth c Q m cells slots pc ls st (n, e0, pp, hh) := by
  obtain ⟨hx, hb, hr, hml, hown, hts, hlk, htb, hnm, hst, hB1, hK, hC⟩ := C
  rw [sl_32] at hs
  rw [ck_32] at hk
  split at hs
  next x st2 =>
    split at hk
    next off hd =>
      simp only [Bool.and_eq_true] at hk
      intro H locs lsA hR hS hL
      by_cases hz : x = 0
      · subst hz
        rw [if_pos rfl] at hs
        cases hs
        have h1 := kk H locs lsA hR hS hL
        rw [nx1 hk.1] at h1
        exact lv_ifnonnullN hx hb hd h1
      · rw [if_neg hz] at hs
        cases hs
        have h1 := kk H locs lsA hR hS hL
        obtain ⟨q, hq⟩ := rv_ref (B := B) (K := K) hz
        show W p l e R s mI args below meth c H locs cells slots Q (F0 mI (mPc m pc) lsA (rv B K x :: List.map (cv B K) _))
        rw [hq]
        exact lv_ifnonnull hx hb hd (tg1 hk.2) h1
    · cases hk
  · cases hs
theorem sl_33 {X : eX} {pc a b k : Nat} {v : Int} {tg : List Nat} {ls st : List eV} {n e : Nat} {p : Nat → Nat → Nat} {h : Nat → Nat → Int} : eSel ewK ewL ewT X pc (33, a, b, k, v, tg) ls st (n, e, p, h) = (match st with
    | .inr (.inl x) :: st => if x = 0 then eNx b ls st  (n, e, p, h) else eNx (pc + 1) ls st  (n, e, p, h)
    | _ => none) := rfl
theorem ck_33 {m i a b k : Nat} {v : Int} {tg : List Nat} : chk m i (33, a, b, k, v, tg) = (match ewD m i with
    | .ok (.ifnull off, 3) => nxt m i 3 && tgO m i off b
    | _ => false) := rfl
set_option maxHeartbeats 1000000 in
theorem op_33 (C : eCx B K dA D p l s mI args meth c m) {pc a b k : Nat} {v : Int} {tg : List Nat} {ls st ls' st' : List eV} {n e0 : Nat} {pp : Nat → Nat → Nat} {hh : Nat → Nat → Int} {μ' : eM} {pc' : Nat} (hk : chk m pc (33, a, b, k, v, tg) = true) (hw : eWf ls st (n, e0, pp, hh)) (hs : eSel ewK ewL ewT X pc (33, a, b, k, v, tg) ls st (n, e0, pp, hh) = some (.inl (pc', ls', st', μ'))) (kk : eVv B K dA D p l e R s mI args below meth c Q m cells slots pc' ls' st' μ') : eVv B K dA D p l e R s mI args below meth c Q m cells slots pc ls st (n, e0, pp, hh) := by
  obtain ⟨hx, hb, hr, hml, hown, hts, hlk, htb, hnm, hst, hB1, hK, hC⟩ := C
  rw [sl_33] at hs
  rw [ck_33] at hk
  split at hs
  next x st2 =>
    split at hk
    next off hd =>
      simp only [Bool.and_eq_true] at hk
      intro H locs lsA hR hS hL
      by_cases hz : x = 0
      · subst hz
        rw [if_pos rfl] at hs
        cases hs
        have h1 := kk H locs lsA hR hS hL
        exact lv_ifnullN hx hb hd (tg1 hk.2) h1
      · rw [if_neg hz] at hs
        cases hs
        have h1 := kk H locs lsA hR hS hL
        obtain ⟨q, hq⟩ := rv_ref (B := B) (K := K) hz
        show W p l e R s mI args below meth c H locs cells slots Q (F0 mI (mPc m pc) lsA (rv B K x :: List.map (cv B K) _))
        rw [hq]
        rw [nx1 hk.1] at h1
        exact lv_ifnull hx hb hd h1
    · cases hk
  · cases hs
theorem sl_34 {X : eX} {pc a b k : Nat} {v : Int} {tg : List Nat} {ls st : List eV} {n e : Nat} {p : Nat → Nat → Nat} {h : Nat → Nat → Int} : eSel ewK ewL ewT X pc (34, a, b, k, v, tg) ls st (n, e, p, h) = (match st with
    | .inl x :: st => eNx (pc + 1) ls (vI (x % 65536) :: st)  (n, e, p, h)
    | _ => none) := rfl
theorem ck_34 {m i a b k : Nat} {v : Int} {tg : List Nat} : chk m i (34, a, b, k, v, tg) = (match ewD m i with
    | .ok (.i2c, 1) => nxt m i 1
    | _ => false) := rfl
set_option maxHeartbeats 1000000 in
theorem op_34 (C : eCx B K dA D p l s mI args meth c m) {pc a b k : Nat} {v : Int} {tg : List Nat} {ls st ls' st' : List eV} {n e0 : Nat} {pp : Nat → Nat → Nat} {hh : Nat → Nat → Int} {μ' : eM} {pc' : Nat} (hk : chk m pc (34, a, b, k, v, tg) = true) (hw : eWf ls st (n, e0, pp, hh)) (hs : eSel ewK ewL ewT X pc (34, a, b, k, v, tg) ls st (n, e0, pp, hh) = some (.inl (pc', ls', st', μ'))) (kk : eVv B K dA D p l e R s mI args below meth c Q m cells slots pc' ls' st' μ') : eVv B K dA D p l e R s mI args below meth c Q m cells slots pc ls st (n, e0, pp, hh) := by
  obtain ⟨hx, hb, hr, hml, hown, hts, hlk, htb, hnm, hst, hB1, hK, hC⟩ := C
  rw [sl_34] at hs
  rw [ck_34] at hk
  split at hs
  next x st2 =>
    have w1 : inR x := hw.2.1 _ List.mem_cons_self
    split at hk
    next hd =>
      cases hs
      intro H locs lsA hR hS hL
      have h1 := kk H locs lsA hR hS hL
      rw [nx1 hk] at h1
      exact lv_i2c hx hb hd (oI_c w1) h1
    · cases hk
  · cases hs
theorem sl_39 {X : eX} {pc a b k : Nat} {v : Int} {tg : List Nat} {ls st : List eV} {n e : Nat} {p : Nat → Nat → Nat} {h : Nat → Nat → Int} : eSel ewK ewL ewT X pc (39, a, b, k, v, tg) ls st (n, e, p, h) = (eNx (pc + 1) ls (vL v :: st)  (n, e, p, h)) := rfl
theorem ck_39 {m i a b k : Nat} {v : Int} {tg : List Nat} : chk m i (39, a, b, k, v, tg) = (inB8 v && match ewD m i with
    | .ok (.lconst n, 1) => nxt m i 1 && decide (((n : Nat) : Int) = v)
    | .ok (.ldc2_w idx, 3) => nxt m i 3 && decide (wd k = some (.constantLong (mNm m).cls idx (Int64.ofInt v)))
    | _ => false) := rfl
set_option maxHeartbeats 1000000 in
theorem op_39 (C : eCx B K dA D p l s mI args meth c m) {pc a b k : Nat} {v : Int} {tg : List Nat} {ls st ls' st' : List eV} {n e0 : Nat} {pp : Nat → Nat → Nat} {hh : Nat → Nat → Int} {μ' : eM} {pc' : Nat} (hk : chk m pc (39, a, b, k, v, tg) = true) (hw : eWf ls st (n, e0, pp, hh)) (hs : eSel ewK ewL ewT X pc (39, a, b, k, v, tg) ls st (n, e0, pp, hh) = some (.inl (pc', ls', st', μ'))) (kk : eVv B K dA D p l e R s mI args below meth c Q m cells slots pc' ls' st' μ') : eVv B K dA D p l e R s mI args below meth c Q m cells slots pc ls st (n, e0, pp, hh) := by
  obtain ⟨hx, hb, hr, hml, hown, hts, hlk, htb, hnm, hst, hB1, hK, hC⟩ := C
  rw [sl_39] at hs
  rw [ck_39] at hk
  cases hs
  simp only [Bool.and_eq_true] at hk
  obtain ⟨hv, hk⟩ := hk
  split at hk
  next q hd =>
    simp only [Bool.and_eq_true, decide_eq_true_eq] at hk
    intro H locs lsA hR hS hL
    have h1 := kk H locs lsA hR hS hL
    rw [nx1 hk.1] at h1
    exact lv_lconst hx hb hd (by rw [← hk.2]; rfl) h1
  next q hd =>
    simp only [Bool.and_eq_true, decide_eq_true_eq] at hk
    intro H locs lsA hR hS hL
    have h1 := kk H locs lsA hR hS hL
    rw [nx1 hk.1] at h1
    exact lv_ldc2 hx hb hown (hts _ (in4 (wd_mem hk.2) rfl)) hd h1
  · cases hk
theorem sl_42 {X : eX} {pc a b k : Nat} {v : Int} {tg : List Nat} {ls st : List eV} {n e : Nat} {p : Nat → Nat → Nat} {h : Nat → Nat → Int} : eSel ewK ewL ewT X pc (42, a, b, k, v, tg) ls st (n, e, p, h) = (match st with
    | .inl y :: .inl x :: st => if y = 0 then none else eNx (pc + 1) ls (vI (x.tmod y) :: st)  (n, e, p, h)
    | _ => none) := rfl
theorem ck_42 {m i a b k : Nat} {v : Int} {tg : List Nat} : chk m i (42, a, b, k, v, tg) = (match ewD m i with
    | .ok (.irem, 1) => nxt m i 1
    | _ => false) := rfl
set_option maxHeartbeats 1000000 in
theorem op_42 (C : eCx B K dA D p l s mI args meth c m) {pc a b k : Nat} {v : Int} {tg : List Nat} {ls st ls' st' : List eV} {n e0 : Nat} {pp : Nat → Nat → Nat} {hh : Nat → Nat → Int} {μ' : eM} {pc' : Nat} (hk : chk m pc (42, a, b, k, v, tg) = true) (hw : eWf ls st (n, e0, pp, hh)) (hs : eSel ewK ewL ewT X pc (42, a, b, k, v, tg) ls st (n, e0, pp, hh) = some (.inl (pc', ls', st', μ'))) (kk : eVv B K dA D p l e R s mI args below meth c Q m cells slots pc' ls' st' μ') : eVv B K dA D p l e R s mI args below meth c Q m cells slots pc ls st (n, e0, pp, hh) := by
  obtain ⟨hx, hb, hr, hml, hown, hts, hlk, htb, hnm, hst, hB1, hK, hC⟩ := C
  rw [sl_42] at hs
  rw [ck_42] at hk
  split at hs
  next y x st2 =>
    have w1 : inR y := hw.2.1 _ List.mem_cons_self
    have w2 : inR x := hw.2.1 _ (List.mem_cons_of_mem _ List.mem_cons_self)
    split at hs
    · cases hs
    next hz =>
      split at hk
      next hd =>
        cases hs
        intro H locs lsA hR hS hL
        have h1 := kk H locs lsA hR hS hL
        rw [nx1 hk] at h1
        refine lv_irem hx hb hd (fun q => hz ((oI_eq0 w1).mp q)) ?_
        rw [oI_rem w2 w1 hz]
        exact h1
      · cases hk
  · cases hs
theorem sl_45 {X : eX} {pc a b k : Nat} {v : Int} {tg : List Nat} {ls st : List eV} {n e : Nat} {p : Nat → Nat → Nat} {h : Nat → Nat → Int} : eSel ewK ewL ewT X pc (45, a, b, k, v, tg) ls st (n, e, p, h) = (match st with
    | .inl y :: .inl x :: st => if y = 0 then none else eNx (pc + 1) ls (vI (wr (x.tdiv y)) :: st)  (n, e, p, h)
    | _ => none) := rfl
theorem ck_45 {m i a b k : Nat} {v : Int} {tg : List Nat} : chk m i (45, a, b, k, v, tg) = (match ewD m i with
    | .ok (.idiv, 1) => nxt m i 1
    | _ => false) := rfl
set_option maxHeartbeats 1000000 in
theorem op_45 (C : eCx B K dA D p l s mI args meth c m) {pc a b k : Nat} {v : Int} {tg : List Nat} {ls st ls' st' : List eV} {n e0 : Nat} {pp : Nat → Nat → Nat} {hh : Nat → Nat → Int} {μ' : eM} {pc' : Nat} (hk : chk m pc (45, a, b, k, v, tg) = true) (hw : eWf ls st (n, e0, pp, hh)) (hs : eSel ewK ewL ewT X pc (45, a, b, k, v, tg) ls st (n, e0, pp, hh) = some (.inl (pc', ls', st', μ'))) (kk : eVv B K dA D p l e R s mI args below meth c Q m cells slots pc' ls' st' μ') : eVv B K dA D p l e R s mI args below meth c Q m cells slots pc ls st (n, e0, pp, hh) := by
  obtain ⟨hx, hb, hr, hml, hown, hts, hlk, htb, hnm, hst, hB1, hK, hC⟩ := C
  rw [sl_45] at hs
  rw [ck_45] at hk
  split at hs
  next y x st2 =>
    have w1 : inR y := hw.2.1 _ List.mem_cons_self
    have w2 : inR x := hw.2.1 _ (List.mem_cons_of_mem _ List.mem_cons_self)
    split at hs
    · cases hs
    next hz =>
      split at hk
      next hd =>
        cases hs
        intro H locs lsA hR hS hL
        have h1 := kk H locs lsA hR hS hL
        rw [nx1 hk] at h1
        refine lv_idiv hx hb hd (fun q => hz ((oI_eq0 w1).mp q)) ?_
        rw [oI_div w2 w1]
        exact h1
      · cases hk
  · cases hs
theorem sl_43 {X : eX} {pc a b k : Nat} {v : Int} {tg : List Nat} {ls st : List eV} {n e : Nat} {p : Nat → Nat → Nat} {h : Nat → Nat → Int} : eSel ewK ewL ewT X pc (43, a, b, k, v, tg) ls st (n, e, p, h) = (match st with
    | .inl _ :: st => eNx (pc + 1) ls st  (n, e, p, h)
    | .inr (.inl _) :: st => eNx (pc + 1) ls st  (n, e, p, h)
    | _ => none) := rfl
theorem ck_43 {m i a b k : Nat} {v : Int} {tg : List Nat} : chk m i (43, a, b, k, v, tg) = (match ewD m i with
    | .ok (.pop, 1) => nxt m i 1
    | _ => false) := rfl
set_option maxHeartbeats 1000000 in
theorem op_43 (C : eCx B K dA D p l s mI args meth c m) {pc a b k : Nat} {v : Int} {tg : List Nat} {ls st ls' st' : List eV} {n e0 : Nat} {pp : Nat → Nat → Nat} {hh : Nat → Nat → Int} {μ' : eM} {pc' : Nat} (hk : chk m pc (43, a, b, k, v, tg) = true) (hw : eWf ls st (n, e0, pp, hh)) (hs : eSel ewK ewL ewT X pc (43, a, b, k, v, tg) ls st (n, e0, pp, hh) = some (.inl (pc', ls', st', μ'))) (kk : eVv B K dA D p l e R s mI args below meth c Q m cells slots pc' ls' st' μ') : eVv B K dA D p l e R s mI args below meth c Q m cells slots pc ls st (n, e0, pp, hh) := by
  obtain ⟨hx, hb, hr, hml, hown, hts, hlk, htb, hnm, hst, hB1, hK, hC⟩ := C
  rw [sl_43] at hs
  rw [ck_43] at hk
  have hc1 : ∀ x : Nat, (cv B K (vR x)).category = 1 := by
    intro x
    show (rv B K x).category = 1
    unfold rv
    split
    · rfl
    · split <;> rfl
  split at hs
  next x st2 =>
    split at hk
    next hd =>
      cases hs
      intro H locs lsA hR hS hL
      have h1 := kk H locs lsA hR hS hL
      rw [nx1 hk] at h1
      exact lv_pop hx hb hd rfl h1
    · cases hk
  next x st2 =>
    split at hk
    next hd =>
      cases hs
      intro H locs lsA hR hS hL
      have h1 := kk H locs lsA hR hS hL
      rw [nx1 hk] at h1
      exact lv_pop hx hb hd (hc1 x) h1
    · cases hk
  · cases hs
theorem sl_50 {X : eX} {pc a b k : Nat} {v : Int} {tg : List Nat} {ls st : List eV} {n e : Nat} {p : Nat → Nat → Nat} {h : Nat → Nat → Int} : eSel ewK ewL ewT X pc (50, a, b, k, v, tg) ls st (n, e, p, h) = (eNx (pc + 1) ls (vR 0 :: st)  (n, e, p, h)) := rfl
theorem ck_50 {m i a b k : Nat} {v : Int} {tg : List Nat} : chk m i (50, a, b, k, v, tg) = (match ewD m i with
    | .ok (.aconst_null, 1) => nxt m i 1
    | _ => false) := rfl
set_option maxHeartbeats 1000000 in
theorem op_50 (C : eCx B K dA D p l s mI args meth c m) {pc a b k : Nat} {v : Int} {tg : List Nat} {ls st ls' st' : List eV} {n e0 : Nat} {pp : Nat → Nat → Nat} {hh : Nat → Nat → Int} {μ' : eM} {pc' : Nat} (hk : chk m pc (50, a, b, k, v, tg) = true) (hw : eWf ls st (n, e0, pp, hh)) (hs : eSel ewK ewL ewT X pc (50, a, b, k, v, tg) ls st (n, e0, pp, hh) = some (.inl (pc', ls', st', μ'))) (kk : eVv B K dA D p l e R s mI args below meth c Q m cells slots pc' ls' st' μ') : eVv B K dA D p l e R s mI args below meth c Q m cells slots pc ls st (n, e0, pp, hh) := by
  obtain ⟨hx, hb, hr, hml, hown, hts, hlk, htb, hnm, hst, hB1, hK, hC⟩ := C
  rw [sl_50] at hs
  rw [ck_50] at hk
  split at hk
  next hd =>
      cases hs
      intro H locs lsA hR hS hL
      have h1 := kk H locs lsA hR hS hL
      rw [nx1 hk] at h1
      exact lv_null hx hb hd h1
  · cases hk
theorem sl_83 {X : eX} {pc a b k : Nat} {v : Int} {tg : List Nat} {ls st : List eV} {n e : Nat} {p : Nat → Nat → Nat} {h : Nat → Nat → Int} : eSel ewK ewL ewT X pc (83, a, b, k, v, tg) ls st (n, e, p, h) = (match ls[a]? with
    | some (.inr (.inr (.inl x))) => eNx (pc + 1) ls (vL x :: st)  (n, e, p, h)
    | _ => none) := rfl
theorem ck_83 {m i a b k : Nat} {v : Int} {tg : List Nat} : chk m i (83, a, b, k, v, tg) = (match ewD m i with
    | .ok (.lload_n j, 1) => decide ((j : Nat) = a) && nxt m i 1
    | .ok (.lload j, 2) => decide (j = a) && nxt m i 2
    | _ => false) := rfl
set_option maxHeartbeats 1000000 in
theorem op_83 (C : eCx B K dA D p l s mI args meth c m) {pc a b k : Nat} {v : Int} {tg : List Nat} {ls st ls' st' : List eV} {n e0 : Nat} {pp : Nat → Nat → Nat} {hh : Nat → Nat → Int} {μ' : eM} {pc' : Nat} (hk : chk m pc (83, a, b, k, v, tg) = true) (hw : eWf ls st (n, e0, pp, hh)) (hs : eSel ewK ewL ewT X pc (83, a, b, k, v, tg) ls st (n, e0, pp, hh) = some (.inl (pc', ls', st', μ'))) (kk : eVv B K dA D p l e R s mI args below meth c Q m cells slots pc' ls' st' μ') : eVv B K dA D p l e R s mI args below meth c Q m cells slots pc ls st (n, e0, pp, hh) := by
  obtain ⟨hx, hb, hr, hml, hown, hts, hlk, htb, hnm, hst, hB1, hK, hC⟩ := C
  rw [sl_83] at hs
  rw [ck_83] at hk
  split at hs
  next x hl9 =>
    have hl0 : ∀ (H : Heap) (lsA : Array Slot), eLR B K s m H lsA (ewMax m) ls → lsA[a]? = some (.val (.long (Int64.ofInt x))) := fun H lsA hL => hL.2.2.2.1 a _ hl9 rfl
    split at hk
    next j hd =>
      simp only [Bool.and_eq_true, decide_eq_true_eq] at hk
      cases hs
      intro H locs lsA hR hS hL
      have h1 := kk H locs lsA hR hS hL
      rw [nx1 hk.2] at h1
      exact lv_lload_n hx hb hd hk.1 (hl0 H lsA hL) h1
    next j hd =>
      simp only [Bool.and_eq_true, decide_eq_true_eq] at hk
      obtain ⟨rfl, hn⟩ := hk
      cases hs
      intro H locs lsA hR hS hL
      have h1 := kk H locs lsA hR hS hL
      rw [nx1 hn] at h1
      exact lv_lload hx hb hd (hl0 H lsA hL) h1
    · cases hk
  · cases hs
theorem sl_85 {X : eX} {pc a b k : Nat} {v : Int} {tg : List Nat} {ls st : List eV} {n e : Nat} {p : Nat → Nat → Nat} {h : Nat → Nat → Int} : eSel ewK ewL ewT X pc (85, a, b, k, v, tg) ls st (n, e, p, h) = (match st with
    | .inr (.inr (.inl y)) :: .inr (.inr (.inl x)) :: st => eNx (pc + 1) ls (vL (wl (x + y)) :: st)  (n, e, p, h)
    | _ => none) := rfl
theorem ck_85 {m i a b k : Nat} {v : Int} {tg : List Nat} : chk m i (85, a, b, k, v, tg) = (match ewD m i with
    | .ok (.ladd, 1) => nxt m i 1
    | _ => false) := rfl
set_option maxHeartbeats 1000000 in
theorem op_85 (C : eCx B K dA D p l s mI args meth c m) {pc a b k : Nat} {v : Int} {tg : List Nat} {ls st ls' st' : List eV} {n e0 : Nat} {pp : Nat → Nat → Nat} {hh : Nat → Nat → Int} {μ' : eM} {pc' : Nat} (hk : chk m pc (85, a, b, k, v, tg) = true) (hw : eWf ls st (n, e0, pp, hh)) (hs : eSel ewK ewL ewT X pc (85, a, b, k, v, tg) ls st (n, e0, pp, hh) = some (.inl (pc', ls', st', μ'))) (kk : eVv B K dA D p l e R s mI args below meth c Q m cells slots pc' ls' st' μ') : eVv B K dA D p l e R s mI args below meth c Q m cells slots pc ls st (n, e0, pp, hh) := by
  obtain ⟨hx, hb, hr, hml, hown, hts, hlk, htb, hnm, hst, hB1, hK, hC⟩ := C
  rw [sl_85] at hs
  rw [ck_85] at hk
  split at hs
  next y x st2 =>
    split at hk
    next hd =>
      cases hs
      intro H locs lsA hR hS hL
      have h1 := kk H locs lsA hR hS hL
      rw [nx1 hk] at h1
      refine lv_ladd hx hb hd ?_
      rw [oL_add]
      exact h1
    · cases hk
  · cases hs
theorem sl_86 {X : eX} {pc a b k : Nat} {v : Int} {tg : List Nat} {ls st : List eV} {n e : Nat} {p : Nat → Nat → Nat} {h : Nat → Nat → Int} : eSel ewK ewL ewT X pc (86, a, b, k, v, tg) ls st (n, e, p, h) = (match st with
    | .inr (.inr (.inl y)) :: .inr (.inr (.inl x)) :: st => eNx (pc + 1) ls (vL (wl (x - y)) :: st)  (n, e, p, h)
    | _ => none) := rfl
theorem ck_86 {m i a b k : Nat} {v : Int} {tg : List Nat} : chk m i (86, a, b, k, v, tg) = (match ewD m i with
    | .ok (.lsub, 1) => nxt m i 1
    | _ => false) := rfl
set_option maxHeartbeats 1000000 in
theorem op_86 (C : eCx B K dA D p l s mI args meth c m) {pc a b k : Nat} {v : Int} {tg : List Nat} {ls st ls' st' : List eV} {n e0 : Nat} {pp : Nat → Nat → Nat} {hh : Nat → Nat → Int} {μ' : eM} {pc' : Nat} (hk : chk m pc (86, a, b, k, v, tg) = true) (hw : eWf ls st (n, e0, pp, hh)) (hs : eSel ewK ewL ewT X pc (86, a, b, k, v, tg) ls st (n, e0, pp, hh) = some (.inl (pc', ls', st', μ'))) (kk : eVv B K dA D p l e R s mI args below meth c Q m cells slots pc' ls' st' μ') : eVv B K dA D p l e R s mI args below meth c Q m cells slots pc ls st (n, e0, pp, hh) := by
  obtain ⟨hx, hb, hr, hml, hown, hts, hlk, htb, hnm, hst, hB1, hK, hC⟩ := C
  rw [sl_86] at hs
  rw [ck_86] at hk
  split at hs
  next y x st2 =>
    split at hk
    next hd =>
      cases hs
      intro H locs lsA hR hS hL
      have h1 := kk H locs lsA hR hS hL
      rw [nx1 hk] at h1
      refine lv_lsub hx hb hd ?_
      rw [oL_sub]
      exact h1
    · cases hk
  · cases hs
theorem sl_87 {X : eX} {pc a b k : Nat} {v : Int} {tg : List Nat} {ls st : List eV} {n e : Nat} {p : Nat → Nat → Nat} {h : Nat → Nat → Int} : eSel ewK ewL ewT X pc (87, a, b, k, v, tg) ls st (n, e, p, h) = (match st with
    | .inr (.inr (.inl y)) :: .inr (.inr (.inl x)) :: st => eNx (pc + 1) ls (vL (wl (x * y)) :: st)  (n, e, p, h)
    | _ => none) := rfl
theorem ck_87 {m i a b k : Nat} {v : Int} {tg : List Nat} : chk m i (87, a, b, k, v, tg) = (match ewD m i with
    | .ok (.lmul, 1) => nxt m i 1
    | _ => false) := rfl
set_option maxHeartbeats 1000000 in
theorem op_87 (C : eCx B K dA D p l s mI args meth c m) {pc a b k : Nat} {v : Int} {tg : List Nat} {ls st ls' st' : List eV} {n e0 : Nat} {pp : Nat → Nat → Nat} {hh : Nat → Nat → Int} {μ' : eM} {pc' : Nat} (hk : chk m pc (87, a, b, k, v, tg) = true) (hw : eWf ls st (n, e0, pp, hh)) (hs : eSel ewK ewL ewT X pc (87, a, b, k, v, tg) ls st (n, e0, pp, hh) = some (.inl (pc', ls', st', μ'))) (kk : eVv B K dA D p l e R s mI args below meth c Q m cells slots pc' ls' st' μ') : eVv B K dA D p l e R s mI args below meth c Q m cells slots pc ls st (n, e0, pp, hh) := by
  obtain ⟨hx, hb, hr, hml, hown, hts, hlk, htb, hnm, hst, hB1, hK, hC⟩ := C
  rw [sl_87] at hs
  rw [ck_87] at hk
  split at hs
  next y x st2 =>
    split at hk
    next hd =>
      cases hs
      intro H locs lsA hR hS hL
      have h1 := kk H locs lsA hR hS hL
      rw [nx1 hk] at h1
      refine lv_lmul hx hb hd ?_
      rw [oL_mul]
      exact h1
    · cases hk
  · cases hs
theorem sl_88 {X : eX} {pc a b k : Nat} {v : Int} {tg : List Nat} {ls st : List eV} {n e : Nat} {p : Nat → Nat → Nat} {h : Nat → Nat → Int} : eSel ewK ewL ewT X pc (88, a, b, k, v, tg) ls st (n, e, p, h) = (match st with
    | .inr (.inr (.inl x)) :: st => eNx (pc + 1) ls (vI (wr x) :: st)  (n, e, p, h)
    | _ => none) := rfl
theorem ck_88 {m i a b k : Nat} {v : Int} {tg : List Nat} : chk m i (88, a, b, k, v, tg) = (match ewD m i with
    | .ok (.l2i, 1) => nxt m i 1
    | _ => false) := rfl
set_option maxHeartbeats 1000000 in
theorem op_88 (C : eCx B K dA D p l s mI args meth c m) {pc a b k : Nat} {v : Int} {tg : List Nat} {ls st ls' st' : List eV} {n e0 : Nat} {pp : Nat → Nat → Nat} {hh : Nat → Nat → Int} {μ' : eM} {pc' : Nat} (hk : chk m pc (88, a, b, k, v, tg) = true) (hw : eWf ls st (n, e0, pp, hh)) (hs : eSel ewK ewL ewT X pc (88, a, b, k, v, tg) ls st (n, e0, pp, hh) = some (.inl (pc', ls', st', μ'))) (kk : eVv B K dA D p l e R s mI args below meth c Q m cells slots pc' ls' st' μ') : eVv B K dA D p l e R s mI args below meth c Q m cells slots pc ls st (n, e0, pp, hh) := by
  obtain ⟨hx, hb, hr, hml, hown, hts, hlk, htb, hnm, hst, hB1, hK, hC⟩ := C
  rw [sl_88] at hs
  rw [ck_88] at hk
  split at hs
  next x st2 =>
    have w1 : inR8 x := hw.2.1 _ List.mem_cons_self
    split at hk
    next hd =>
      cases hs
      intro H locs lsA hR hS hL
      have h1 := kk H locs lsA hR hS hL
      rw [nx1 hk] at h1
      exact lv_l2i hx hb hd (oL_l2i w1) h1
    · cases hk
  · cases hs
theorem sl_90 {X : eX} {pc a b k : Nat} {v : Int} {tg : List Nat} {ls st : List eV} {n e : Nat} {p : Nat → Nat → Nat} {h : Nat → Nat → Int} : eSel ewK ewL ewT X pc (90, a, b, k, v, tg) ls st (n, e, p, h) = (match st with
    | .inr (.inr (.inl _)) :: st => eNx (pc + 1) ls st  (n, e, p, h)
    | _ => none) := rfl
theorem ck_90 {m i a b k : Nat} {v : Int} {tg : List Nat} : chk m i (90, a, b, k, v, tg) = (match ewD m i with
    | .ok (.pop2, 1) => nxt m i 1
    | _ => false) := rfl
set_option maxHeartbeats 1000000 in
theorem op_90 (C : eCx B K dA D p l s mI args meth c m) {pc a b k : Nat} {v : Int} {tg : List Nat} {ls st ls' st' : List eV} {n e0 : Nat} {pp : Nat → Nat → Nat} {hh : Nat → Nat → Int} {μ' : eM} {pc' : Nat} (hk : chk m pc (90, a, b, k, v, tg) = true) (hw : eWf ls st (n, e0, pp, hh)) (hs : eSel ewK ewL ewT X pc (90, a, b, k, v, tg) ls st (n, e0, pp, hh) = some (.inl (pc', ls', st', μ'))) (kk : eVv B K dA D p l e R s mI args below meth c Q m cells slots pc' ls' st' μ') : eVv B K dA D p l e R s mI args below meth c Q m cells slots pc ls st (n, e0, pp, hh) := by
  obtain ⟨hx, hb, hr, hml, hown, hts, hlk, htb, hnm, hst, hB1, hK, hC⟩ := C
  rw [sl_90] at hs
  rw [ck_90] at hk
  split at hs
  next x st2 =>
    split at hk
    next hd =>
      cases hs
      intro H locs lsA hR hS hL
      have h1 := kk H locs lsA hR hS hL
      rw [nx1 hk] at h1
      exact lv_pop2_2 hx hb hd rfl h1
    · cases hk
  · cases hs
theorem sl_91 {X : eX} {pc a b k : Nat} {v : Int} {tg : List Nat} {ls st : List eV} {n e : Nat} {p : Nat → Nat → Nat} {h : Nat → Nat → Int} : eSel ewK ewL ewT X pc (91, a, b, k, v, tg) ls st (n, e, p, h) = (match st with
    | .inl y :: .inl x :: st => if 0 ≤ y ∧ y < 32 then eNx (pc + 1) ls (vI (x / 2 ^ y.toNat) :: st)  (n, e, p, h) else none
    | _ => none) := rfl
theorem ck_91 {m i a b k : Nat} {v : Int} {tg : List Nat} : chk m i (91, a, b, k, v, tg) = (match ewD m i with
    | .ok (.ishr, 1) => nxt m i 1
    | _ => false) := rfl
set_option maxHeartbeats 1000000 in
theorem op_91 (C : eCx B K dA D p l s mI args meth c m) {pc a b k : Nat} {v : Int} {tg : List Nat} {ls st ls' st' : List eV} {n e0 : Nat} {pp : Nat → Nat → Nat} {hh : Nat → Nat → Int} {μ' : eM} {pc' : Nat} (hk : chk m pc (91, a, b, k, v, tg) = true) (hw : eWf ls st (n, e0, pp, hh)) (hs : eSel ewK ewL ewT X pc (91, a, b, k, v, tg) ls st (n, e0, pp, hh) = some (.inl (pc', ls', st', μ'))) (kk : eVv B K dA D p l e R s mI args below meth c Q m cells slots pc' ls' st' μ') : eVv B K dA D p l e R s mI args below meth c Q m cells slots pc ls st (n, e0, pp, hh) := by
  obtain ⟨hx, hb, hr, hml, hown, hts, hlk, htb, hnm, hst, hB1, hK, hC⟩ := C
  rw [sl_91] at hs
  rw [ck_91] at hk
  split at hs
  next y x st2 =>
    have w1 : inR y := hw.2.1 _ List.mem_cons_self
    have w2 : inR x := hw.2.1 _ (List.mem_cons_of_mem _ List.mem_cons_self)
    split at hs
    next hg =>
      split at hk
      next hd =>
        cases hs
        intro H locs lsA hR hS hL
        have h1 := kk H locs lsA hR hS hL
        rw [nx1 hk] at h1
        refine lv_ishr hx hb hd ?_
        rw [oI_shr w2 hg.1 hg.2]
        exact h1
      · cases hk
    · cases hs
  · cases hs
theorem sl_92 {X : eX} {pc a b k : Nat} {v : Int} {tg : List Nat} {ls st : List eV} {n e : Nat} {p : Nat → Nat → Nat} {h : Nat → Nat → Int} : eSel ewK ewL ewT X pc (92, a, b, k, v, tg) ls st (n, e, p, h) = (match st with
    | .inl y :: .inl x :: st => if y = 2147483647 then eNx (pc + 1) ls (vI (x % 2147483648) :: st)  (n, e, p, h) else none
    | _ => none) := rfl
theorem ck_92 {m i a b k : Nat} {v : Int} {tg : List Nat} : chk m i (92, a, b, k, v, tg) = (match ewD m i with
    | .ok (.iand, 1) => nxt m i 1
    | _ => false) := rfl
set_option maxHeartbeats 1000000 in
theorem op_92 (C : eCx B K dA D p l s mI args meth c m) {pc a b k : Nat} {v : Int} {tg : List Nat} {ls st ls' st' : List eV} {n e0 : Nat} {pp : Nat → Nat → Nat} {hh : Nat → Nat → Int} {μ' : eM} {pc' : Nat} (hk : chk m pc (92, a, b, k, v, tg) = true) (hw : eWf ls st (n, e0, pp, hh)) (hs : eSel ewK ewL ewT X pc (92, a, b, k, v, tg) ls st (n, e0, pp, hh) = some (.inl (pc', ls', st', μ'))) (kk : eVv B K dA D p l e R s mI args below meth c Q m cells slots pc' ls' st' μ') : eVv B K dA D p l e R s mI args below meth c Q m cells slots pc ls st (n, e0, pp, hh) := by
  obtain ⟨hx, hb, hr, hml, hown, hts, hlk, htb, hnm, hst, hB1, hK, hC⟩ := C
  rw [sl_92] at hs
  rw [ck_92] at hk
  split at hs
  next y x st2 =>
    have w2 : inR x := hw.2.1 _ (List.mem_cons_of_mem _ List.mem_cons_self)
    split at hs
    next hg =>
      subst hg
      split at hk
      next hd =>
        cases hs
        intro H locs lsA hR hS hL
        have h1 := kk H locs lsA hR hS hL
        rw [nx1 hk] at h1
        refine lv_iand hx hb hd ?_
        rw [and31 w2]
        exact h1
      · cases hk
    · cases hs
  · cases hs
end
