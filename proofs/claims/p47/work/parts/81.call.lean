/-! calls: from the callee's body to the caller's goal -/
def mSwT : List (List Nat) := [[127, 414, 944, 656, 661, 213, 448, 732, 805, 801, 816, 453, 233, 457, 1185, 470], [493, 498, 506, 517, 546, 558, 567, 580, 477, 473, 133, 583, 426, 430, 422, 418], [606, 611, 636, 632, 619, 293, 1112, 1117, 1121, 1170, 1181, 1127, 1133, 1141, 1145, 1156], [1160, 1165, 1152, 1148, 239, 480, 104, 553, 410, 254, 587, 640, 601, 624, 629, 54], [488, 378, 520, 382, 386, 390, 394, 512, 524, 596, 592, 570, 574, 537, 541, 1228], [1233, 399, 47, 366, 370, 402, 484, 549, 501, 562, 757, 533, 529, 651, 375, 407], [39, 438, 978, 969, 987, 743, 996, 1005, 1011, 1020, 1029, 1038, 1202, 1210, 868, 899], [912, 925, 1266, 1273, 1287, 1294, 1429, 1536, 1280, 1254, 1243, 1544, 1219, 1100, 1108, 948], [956, 753, 782, 362, 812, 445, 1176, 873, 917, 1259, 1224, 1549, 1553, 509, 615, 820], [823, 1046, 1196, 827, 961, 1191, 1248, 1237, 1216, 434, 975, 966, 984, 740, 993, 1002], [1017, 1026, 1035, 1199, 1207, 832, 896, 909, 921, 1263, 1270, 1284, 1291, 1426, 1533, 1277], [1251, 1240, 1541, 1097, 1105, 953, 749, 778, 809, 99999]]
def mInT : List (List Nat) := [[5, 5, 5, 5, 5, 7, 7, 7, 7, 7, 7, 7, 8, 8, 8, 8], [8, 8, 8, 8, 8, 8, 8, 8, 8, 8, 6, 6, 6, 6, 6, 6], [6, 6, 6, 6, 6, 11, 11, 11, 11, 11, 11, 11, 11, 11, 11, 11], [11, 11, 11, 11, 9, 9, 4, 4, 4, 10, 10, 10, 10, 10, 10, 3], [3, 3, 3, 3, 3, 3, 3, 3, 3, 3, 3, 3, 3, 3, 3, 3], [3, 3, 2, 2, 2, 2, 2, 2, 2, 2, 2, 2, 2, 2, 2, 2], [1, 1, 1, 1, 1, 1, 1, 1, 1, 1, 1, 1, 1, 1, 1, 1], [1, 1, 1, 1, 1, 1, 1, 1, 1, 1, 1, 1, 1, 1, 1, 1], [1, 1, 1, 1, 1, 1, 1, 1, 1, 1, 1, 1, 1, 1, 1, 0], [0, 0, 0, 0, 0, 0, 0, 0, 0, 0, 0, 0, 0, 0, 0, 0], [0, 0, 0, 0, 0, 0, 0, 0, 0, 0, 0, 0, 0, 0, 0, 0], [0, 0, 0, 0, 0, 0, 0, 0, 0, 0]]
def mSw (m : Nat) : Nat := (mSwT.getD (m / 16) []).getD (m % 16) 99999
def mIn (m : Nat) : Nat := (mInT.getD (m / 16) []).getD (m % 16) 99999
def chM (a : Nat) : Bool := decide (wd (mSw a) = some (if mKd a = 0 then .static (mNm a) else .instanceMethod (mNm a))) && decide (wd (mIn a) = some (.initialized (mNm a).cls)) && plainName (mNm a).cls &&
  decide ((mNm a).cls ≠ "java/lang/invoke/MethodHandle") && decide ((mNm a).cls ≠ "java/lang/invoke/VarHandle") && decide ((parseMethodDescriptor (mNm a).desc).map (fun d => d.parameters.length) = some ((mAr a).length - (if mKd a = 0 then 0 else 1))) &&
  decide ((mAr a).length ≤ ewMax a) && decide (ewMax a ≤ 40) && decide (mPc a 0 = 0) && (decide (mKd a = 0) || decide (1 ≤ (mAr a).length))
set_option maxRecDepth 100000 in
theorem chM_all : ∀ a, a < m_L_law → chM a = true := by decide +kernel
theorem warm_refl (s : State) : s.WarmedH s.vm := ⟨rfl, rfl, fun _ k hk => ⟨k, hk, rfl, rfl, fun _ => Or.inl rfl, Or.inl ⟨rfl, rfl⟩⟩⟩
def ewN (s : State) : Prop := ∀ w ∈ ewL4, ∀ a' : Array Value, w.before a' s = true
theorem ewN_of {args : Array Value} {s U : State} (h : ∀ w ∈ ewL4, w.before args s = true) (hW : s.WarmedH U.vm) : ewN U := by
  intro w hw a'
  have h1 := (List.mem_filter.mp hw).2
  have h3 := h w hw
  rw [Bool.or_eq_true] at h1
  rcases h1 with h1 | h1
  · exact word_at hW (good_of_word h1) h3
  · unfold ewBad4 at h1
    split at h1
    · exact va_Nw.use rfl (va_Nw.warmF hW (va_Nw.of rfl h3))
    · exact va_Nw.use rfl (va_Nw.warmM hW (va_Nw.of rfl h3))
    · exact va_Nw.use rfl (va_Nw.warmD hW (va_Nw.of rfl h3))
    · exact va_Nw.use rfl (va_Nw.warmC hW (va_Nw.of rfl h3))
    · exact Cond.privateMethod_warm hW h3
    · cases h1
section
variable (B : Nat) (K : Nat → Nat) (dA : Nat → ClassId) (D : va_G)
def ewI (s : State) : Prop := ewN s ∧ va_K D eCl (eTys dA) s ∧ eCst B K s ∧ B + 1 ≤ s.heap.size
def ePc (as : List eV) (μ : eM) : Array Value → State → Prop := fun a st => a = (as.map (cv B K)).toArray ∧ ewI B K dA D st ∧ eRep B K dA D μ st.heap ∧ (μ.2.1 = 0 → st.heap.size = B + μ.1 + 1)
end
def eRm (a mc ms : Nat) : Room := { frames := mLv a, cells := mc, slots := ms, locals := 64 * mLv a }
section
variable {B : Nat} {K : Nat → Nat} {dA : Nat → ClassId} {D : va_G}
theorem ewI_moved {args : Array Value} {s U : State} (h : ∀ w ∈ ewL4, w.before args s = true) (hK : va_K D eCl (eTys dA) s) (hC : eCst B K s) (hB : B + 1 ≤ s.heap.size) (hW : s.WarmedH U.vm) (hz : s.heap.size ≤ U.heap.size) (hk : ∀ q : Nat, q < s.heap.size → ¬ eAd B q → U.heap[q]? = s.heap[q]?) : ewI B K dA D U :=
  ⟨ewN_of h hW, va_K.moved hW.alike hK, eCst_moved hW hk hC, Nat.le_trans hB hz⟩
theorem ewI_blind {U : State} {g : JFrame} {mk : MethodId} {a : Array Value} (h : ewI B K dA D U) : ewI B K dA D (U.calling g mk a) :=
  ewI_moved (args := #[]) (s := U) (U := U.calling g mk a) (fun w hw => h.1 w hw #[]) h.2.1 h.2.2.1 h.2.2.2 (warm_refl U) (Nat.le_refl _) (fun _ _ _ => rfl)
theorem ePc_blind {as : List eV} {μ : eM} : FrameBlind (ePc B K dA D as μ) := fun _ _ _ _ h => ⟨h.1, ewI_blind h.2.1, h.2.2.1, h.2.2.2⟩
theorem lg_sl_1 : ∀ vs : List Value, (∀ v ∈ vs, ¬ v.category = 2) → lg_sl vs = vs.map Slot.val := by
  intro vs
  induction vs with
  | nil => intro _; rfl
  | cons v r ih =>
    intro h
    have h1 := h v List.mem_cons_self
    have h2 := ih (fun w hw => h w (List.mem_cons_of_mem _ hw))
    simp only [lg_sl, List.flatMap_cons, List.map_cons, if_neg h1] at h2 ⊢
    rw [h2]
    rfl
theorem a2l_fold : ∀ (vs : List Value) (acc : Array Slot), (∀ v ∈ vs, ¬ v.category = 2) → vs.foldl (fun (acc : Array Slot) v => if v.category = 2 then (acc.push (.val v)).push .second else acc.push (.val v)) acc = acc ++ (vs.map Slot.val).toArray := by
  intro vs
  induction vs with
  | nil => intro acc _; simp
  | cons v r ih =>
    intro acc h
    rw [List.foldl_cons, if_neg (h v List.mem_cons_self), ih _ (fun w hw => h w (List.mem_cons_of_mem _ hw))]
    apply Array.ext'
    simp
theorem a2l (vs : List Value) (n : Nat) (h : ∀ v ∈ vs, ¬ v.category = 2) : argsToLocals vs.toArray n = (vs.map Slot.val ++ List.replicate (n - vs.length) Slot.unset).toArray := by
  unfold argsToLocals
  have h1 : vs.toArray.foldl (init := #[]) (fun (acc : Array Slot) v => if v.category = 2 then (acc.push (.val v)).push .second else acc.push (.val v)) = (vs.map Slot.val).toArray := by
    rw [List.foldl_toArray, a2l_fold vs #[] h]
    simp
  simp only [h1]
  apply Array.ext'
  simp
theorem cv_c1 {as : List eV} (h : as.all (fun v => !eIsD v) = true) : ∀ v ∈ as.map (cv B K), ¬ v.category = 2 := by
  intro w hw
  obtain ⟨v, hv, rfl⟩ := List.mem_map.mp hw
  have h1 := List.all_eq_true.mp h v hv
  intro hc
  cases hj : eIsJ v with
  | false =>
    rw [(cv_cat B K v hj).mp hc] at h1
    cases h1
  | true =>
    match v, hj with
    | .inr (.inr (.inr (.inr (.inr _)))), _ => simp [cv, Value.category] at hc
theorem eEnt_LR {s : State} {H : Heap} {a : Nat} {as : List eV} (h : as.all (fun v => !eIsD v) = true) (hl : as.length ≤ ewMax a) (hnt : ∀ x ∈ as, eIsT x = false) : eLR B K s a H (argsToLocals (as.map (cv B K)).toArray (ewMax a)) (ewMax a) (eEnt a as) := by
  have hc := cv_c1 (B := B) (K := K) h
  rw [a2l _ _ hc]
  have hsl := lg_sl_1 _ hc
  have hE := lv_entry (as.map (cv B K)) (n := ewMax a) (by rw [hsl]; simpa using hl)
  rw [hsl, List.length_map, List.length_map] at hE
  rw [List.length_map]
  refine ⟨hE.1, hE.2.1, by unfold eEnt; simp; omega, fun k v hk hj => ?_, fun _ k t _ hk => ?_⟩
  rotate_left
  · exfalso
    unfold eEnt at hk
    rcases List.mem_append.mp (List.mem_of_getElem? hk) with h9 | h9
    · have := hnt _ h9
      cases this
    · have := (List.mem_replicate.mp h9).2
      cases this
  unfold eEnt at hk
  by_cases hkl : k < as.length
  · rw [List.getElem?_append_left hkl] at hk
    simp only [List.getElem?_toArray]
    rw [List.getElem?_append_left (by simpa using hkl), List.getElem?_map, List.getElem?_map, hk]
    rfl
  · rw [List.getElem?_append_right (by omega)] at hk
    rw [List.getElem?_replicate] at hk
    split at hk
    · cases hk
      simp [eIsJ] at hj
    · cases hk
theorem wt_sum : ∀ st : List eV, ((st.map (cv B K)).map fun v => v.category).sum ≤ (st.map eWt).sum := by
  intro st
  induction st with
  | nil => simp
  | cons v r ih =>
    simp only [List.map_cons, List.sum_cons]
    have h : (cv B K v).category ≤ eWt v := by
      unfold eWt
      split
      · exact cat2 _
      next hd =>
        cases hj : eIsJ v with
        | false =>
          have h1 := cat2 (cv B K v)
          have h2 : ¬ (cv B K v).category = 2 := fun z => hd ((cv_cat B K v hj).mp z)
          omega
        | true =>
          match v, hj with
          | .inr (.inr (.inr (.inr (.inr _)))), _ => simp [cv, Value.category]
    omega
end
section
variable {B : Nat} {K : Nat → Nat} {dA : Nat → ClassId} {D : va_G}
variable {l : Launch}
/-- what is asked of a method's body, from its first instruction on -/
def eBd (B : Nat) (K : Nat → Nat) (dA : Nat → ClassId) (D : va_G) (l : Launch) (a : Nat) (as : List eV) (μ : eM) (o : eO) (μ1 : eM) (mc ms : Nat) : Prop :=
  ∀ (p : Program) (e : Env) (R : Room) (s : State) (mI : MethodId) (args : Array Value) (below : List Frame) (meth : Method) (c : Code), eCx B K dA D p l s mI args meth c a → mLv a ≤ R.frames → 64 * mLv a ≤ R.locals → mc ≤ R.cells → ms ≤ R.slots → (μ.2.1 = 0 → s.heap.size = B + μ.1 + 1) →
    eVv B K dA D p l e R s mI args below meth c (eQ B K dA D below args s o μ1 mc ms) a 0 0 0 (eEnt a as) [] μ
def eCw (a : Nat) : Cond := if a < m_L_dig then .code (mNm a) (mBy a) (ewMax a) (mRt a) else .codeWith (mNm a) (mBy a) (ewMax a) (mRt a) (mHh a)
def eMt (B : Nat) (K : Nat → Nat) (dA : Nat → ClassId) (D : va_G) (l : Launch) (a : Nat) (as : List eV) (μ : eM) (o : eO) (μ1 : eM) (mc ms : Nat) : Prop :=
  vx_Met l (mNm a) [eCw a] (eRm a mc ms) (ePc B K dA D as μ) (eQc B K dA D o μ1) (eXC B K dA D o μ1) mc ms (eAd B)
theorem chM_spec {a : Nat} (h : a < m_L_law) : Cond.initialized (mNm a).cls ∈ ewL4 ∧ plainName (mNm a).cls = true ∧ ((mNm a).cls ≠ "java/lang/invoke/MethodHandle" ∧ (mNm a).cls ≠ "java/lang/invoke/VarHandle") ∧ (parseMethodDescriptor (mNm a).desc).map (fun d => d.parameters.length) = some ((mAr a).length - (if mKd a = 0 then 0 else 1)) ∧
    (mAr a).length ≤ ewMax a ∧ ewMax a ≤ 40 ∧ mPc a 0 = 0 ∧ (mKd a = 0 ∨ 1 ≤ (mAr a).length) ∧ (mKd a = 0 → Cond.static (mNm a) ∈ ewL4) ∧ (¬ mKd a = 0 → Cond.instanceMethod (mNm a) ∈ ewL4) := by
  have h1 := chM_all a h
  unfold chM at h1
  simp only [Bool.and_eq_true, Bool.or_eq_true, decide_eq_true_eq] at h1
  obtain ⟨⟨⟨⟨⟨⟨⟨⟨⟨h1, h2⟩, h3⟩, h4⟩, h5⟩, h6⟩, h7⟩, h8⟩, h9⟩, h10⟩ := h1
  refine ⟨in4 (wd_mem h2) rfl, h3, ⟨h4, h5⟩, h6, h7, h8, h9, h10, fun hk => ?_, fun hk => ?_⟩
  · rw [if_pos hk] at h1; exact in4 (wd_mem h1) rfl
  · rw [if_neg hk] at h1; exact in4 (wd_mem h1) rfl
theorem eMt_of {a : Nat} {as : List eV} {μ μ1 : eM} {o : eO} {mc ms : Nat} (ha : a < m_L_law) (hst : l.stackTraces = false) (hd : as.all (fun v => !eIsD v) = true) (hl : as.length ≤ ewMax a) (hnt : ∀ x ∈ as, eIsT x = false) (hb : eBd B K dA D l a as μ o μ1 mc ms) : eMt B K dA D l a as μ o μ1 mc ms := by
  obtain ⟨-, hpn, -, -, -, -, hp0, -⟩ := chM_spec ha
  have key : ∀ (p : Program) (e : Env) (s s₁ : State) (m : MethodId) (args : Array Value) (below : List Frame) (meth : Method) (c : Code), BodyLoose p l (mNm a) (headSpec [eCw a] (eRm a mc ms)) (mBy a) (ewMax a) (mRt a) e s m args below meth c s₁ → c.maxLocals = ewMax a → c.exceptionTable.toList = tableOf (mHh a) → ePc B K dA D as μ args s →
      W p l e (headSpec [eCw a] (eRm a mc ms)).room s m args below meth c s.heap [] 0 0 (vx_MQ below (eQc B K dA D o μ1) (eXC B K dA D o μ1) args s mc ms (eAd B)) (entryFrame m args (ewMax a)) := by
    intro p e s s₁ m args below meth c Bd hml ht hP
    obtain ⟨hargs, hI, hR, hz⟩ := hP
    have C : eCx B K dA D p l s m args meth c a := ⟨Bd.exec, Bd.bytes, Bd.returns, hml, findClass_of_methodNamed Bd.named, (fun w hw => hI.1 w hw _), Bd.notSynchronized, ht, (name_of_methodNamed Bd.named Bd.method).1, hst, hI.2.2.2, hI.2.1, hI.2.2.1⟩
    have h1 := hb p e (headSpec [eCw a] (eRm a mc ms)).room s m args below meth c C (Nat.le_refl _) (Nat.le_refl _) (Nat.le_refl _) (Nat.le_refl _) hz
    have h2 := h1 s.heap [] (argsToLocals (as.map (cv B K)).toArray (ewMax a)) hR ⟨Nat.le_refl _, fun _ _ _ => rfl, fun _ hq => absurd hq List.not_mem_nil⟩ (eEnt_LR hd hl hnt)
    rw [hp0] at h2
    rw [← hargs] at h2
    exact h2
  by_cases hdg : a < m_L_dig
  · have hc : eCw a = .code (mNm a) (mBy a) (ewMax a) (mRt a) := by unfold eCw; rw [if_pos hdg]
    refine vx_ofW (ws' := []) hpn (by rw [hc]) (fun p e s m args below meth c s₁ Bd hml ht hP => key p e s s₁ m args below meth c Bd hml ?_ hP)
    rw [hh_nil a hdg]
    cases hq : c.exceptionTable.toList with
    | nil => rfl
    | cons x r => exact absurd (by rw [hq]; exact List.mem_cons_self) (ht x)
  · have hc : eCw a = .codeWith (mNm a) (mBy a) (ewMax a) (mRt a) (mHh a) := by unfold eCw; rw [if_neg hdg]
    refine vx_ofWH (ws' := []) hpn (by rw [hc]) (fun p e s m args below meth c s₁ Bd hml hP => key p e s s₁ m args below meth c Bd hml (vx_table (x := mNm a) Bd (bytes := mBy a) (maxL' := ewMax a) (ret' := mRt a) ?_) hP)
    rw [← hc]
    exact atoms_spec (ws := [eCw a]) Bd.pre _ List.mem_cons_self
end
