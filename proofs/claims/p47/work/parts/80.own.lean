/-! what makes cells, throws, ends; the library's methods; switches -/
theorem W_size {p : Program} {l : Launch} {e : Env} {R : Room} {s : State} {m : MethodId} {args : Array Value} {below : List Frame} {meth : Method} {c : Code} {H : Heap} {locs : List Loc} {cells slots : Nat} {Q : State → Prop} {g : JFrame}
    (kk : H.size ≤ s.heap.size + cells → W p l e R s m args below meth c H locs cells slots Q g) : W p l e R s m args below meth c H locs cells slots Q g := by
  intro T hT X
  refine kk ?_ T hT X
  have h : (T.setVm s.vm).heap.size ≤ s.heap.size + cells := X.same.2.2.1
  rw [← hT]
  exact h
theorem eR_low {B : Nat} {K : Nat → Nat} {dA : Nat → ClassId} {D : va_G} {n e : Nat} {pp : Nat → Nat → Nat} {hh : Nat → Nat → Int} {H H0 : Heap} {locs : List Loc} (hR : eRep B K dA D (n, e, pp, hh) H) (hS : va_S (eAd B) H0 H locs) (hB : B + 1 ≤ H0.size) : B + n + 1 ≤ H.size := by
  rcases Nat.eq_zero_or_pos n with h | h
  · subst h
    exact Nat.le_trans hB hS.1
  · have h1 := (hR (n - 1) _ (eWs_at B K dA (a := n) (n := n) (p := pp) (h := hh) h (Nat.le_refl _))).lt
    have h2 : B + n < H.size := h1
    omega
theorem cat2 (v : Value) : v.category ≤ 2 := by
  cases v <;> simp [Value.category]
theorem cat_sum (f : eV → Value) : ∀ st : List eV, ((st.map f).map fun v => v.category).sum ≤ 2 * st.length := by
  intro st
  induction st with
  | nil => simp
  | cons v r ih =>
    simp only [List.map_cons, List.sum_cons, List.length_cons]
    have := cat2 (f v)
    omega
theorem eKs_w : ∀ k ∈ eKs, Cond.instantiable (eRc k) (eN k) ∈ ewL4 ∧ Cond.initialized (eRc k) ∈ ewL4 := by
  have h : ∀ k ∈ eKs, Cond.instantiable (eRc k) (eN k) ∈ lw_tbl ∧ Cond.initialized (eRc k) ∈ lw_tbl := by
    intro k hk
    simp only [eKs, List.mem_cons, List.not_mem_nil, or_false] at hk
    rcases hk with rfl | rfl | rfl | rfl | rfl | rfl | rfl | rfl | rfl | rfl | rfl <;> decide +kernel
  exact fun k hk => ⟨in4 (h k hk).1 rfl, in4 (h k hk).2 rfl⟩
theorem eKt_w : ∀ a, 20 ≤ a → a ≤ 22 → Cond.arrayClass (eKt a) ∈ ewL4 := by
  intro a h1 h2
  have h : a = 20 ∨ a = 21 ∨ a = 22 := by omega
  rcases h with rfl | rfl | rfl
  · exact in4 (show Cond.arrayClass .int ∈ lw_tbl from wd_mem (j := 98) rfl) rfl
  · exact in4 (show Cond.arrayClass .char ∈ lw_tbl from wd_mem (j := 143) rfl) rfl
  · exact in4 (show Cond.arrayClass .boolean ∈ lw_tbl from wd_mem (j := 99) rfl) rfl
theorem eDf : ∀ k ∈ eKs, ∀ j, j < eN k → defaultValue (eTy k j) = (if eFt (eTy k j) = 0 then .int 0 else .null) := by
  intro k hk
  simp only [eKs, List.mem_cons, List.not_mem_nil, or_false] at hk
  rcases hk with rfl | rfl | rfl | rfl | rfl | rfl | rfl | rfl | rfl | rfl | rfl <;> decide +kernel
theorem eDf2 {B : Nat} {K : Nat → Nat} {k j : Nat} (hk : k ∈ eKs) (hj : j < eN k) : defaultValue (eTy k j) = vp_V ((List.range (eN k)).map (eFv B K k (fun _ => 0) (fun _ => 0))) j := by
  rw [eDf k hk j hj]
  have h1 := eMap_at k (eFv B K k (fun _ => 0) (fun _ => 0)) hj
  unfold vp_V
  rw [List.getD_eq_getElem?_getD, h1]
  show _ = eFv B K k (fun _ => 0) (fun _ => 0) j
  unfold eFv
  split
  next h => rw [h]; rfl
  next h =>
    split
    next h2 => exact absurd h2 h
    · rfl
    · rfl
theorem eTys_at (dA : Nat → ClassId) : ∀ a, (20 ≤ a ∧ a ≤ 22) ∨ (30 ≤ a ∧ a ≤ 32) → ∃ k : Nat, (eTys dA)[k]? = some (dA a, eKt a) := by
  intro a h
  have h1 : a = 20 ∨ a = 21 ∨ a = 22 ∨ a = 30 ∨ a = 31 ∨ a = 32 := by omega
  rcases h1 with rfl | rfl | rfl | rfl | rfl | rfl
  · exact ⟨0, rfl⟩
  · exact ⟨1, rfl⟩
  · exact ⟨2, rfl⟩
  · exact ⟨3, rfl⟩
  · exact ⟨4, rfl⟩
  · exact ⟨5, rfl⟩
theorem dA_is {D : va_G} {dA : Nat → ClassId} {s : State} (hK : va_K D eCl (eTys dA) s) {a : Nat} (h : (20 ≤ a ∧ a ≤ 22) ∨ (30 ≤ a ∧ a ≤ 32)) : s.vm.findClass ("[" ++ (eKt a).toString) = some (dA a) := by
  obtain ⟨k, hk⟩ := eTys_at dA a h
  have h2 := (hK.2 k _ hk).2
  have h1 : a = 20 ∨ a = 21 ∨ a = 22 ∨ a = 30 ∨ a = 31 ∨ a = 32 := by omega
  rcases h1 with rfl | rfl | rfl | rfl | rfl | rfl
  · exact h2
  · exact h2
  · exact h2
  · obtain ⟨-, -, -, -, -, h3⟩ := h2; exact h3
  · obtain ⟨-, -, -, -, -, h3⟩ := h2; exact h3
  · obtain ⟨-, -, -, -, -, h3⟩ := h2; exact h3
theorem eAr_new {B : Nat} {K : Nat → Nat} {a N : Nat} (h1 : 20 ≤ a) (h2 : a ≤ 22) (cA : ClassId) : vp_cell cA (eAr B K a N (fun _ => 0) (fun _ => 0)) = arrV cA N (fun _ => defaultValue (eKt a)) := by
  have h : a = 20 ∨ a = 21 ∨ a = 22 := by omega
  rcases h with rfl | rfl | rfl <;> rfl
theorem eAr_newq {B : Nat} {K : Nat → Nat} {a N : Nat} (h1 : 30 ≤ a) : eAr B K a N (fun _ => 0) (fun _ => 0) = (N, .inr (.inr (.inr (.inr (fun _ => none))))) := by
  unfold eAr
  rw [if_neg (by omega), if_neg (by omega), if_neg (by omega)]
  rfl
theorem ewL_big : ∀ a, ewL a ≤ 100000 := by
  have h : ∀ r ∈ lnTbl, ∀ x ∈ r, x ≤ 100000 := by decide +kernel
  intro a
  unfold ewL
  rw [List.getD_eq_getElem?_getD, List.getD_eq_getElem?_getD]
  cases h1 : lnTbl[a / 32]? with
  | none => simp
  | some r =>
    simp only [Option.getD_some]
    cases h2 : r[a % 32]? with
    | none => simp
    | some x => exact h r (List.mem_of_getElem? h1) x (List.mem_of_getElem? h2)
theorem zr_at {α : Type} (h : Nat → Nat → α) (a : Nat) (v : α) : zr h a v a = fun _ => v := by
  funext j; unfold zr; rw [if_pos rfl]
theorem zr_ne {α : Type} (h : Nat → Nat → α) {a b : Nat} (v : α) (hb : b ≠ a) : zr h a v b = h b := by
  funext j; unfold zr; rw [if_neg hb]
theorem cb8 (a : Nat) (h1 : 20 ≤ a) (h2 : a ≤ 22) : componentBytes (eKt a) ≤ 8 := by
  have h : a = 20 ∨ a = 21 ∨ a = 22 := by omega
  rcases h with rfl | rfl | rfl <;> decide
/-- the places of a switch -/
theorem chTs_in {m i : Nat} {F : Nat → eA} {d : Nat} (x : Int) : ∀ (os : List Int) (k : Int) (tg : List Nat), chTs m i k os tg = true →
    (k ≤ x → x < k + os.length → ∃ (o : Int) (t : Nat), os[(x - k).toNat]? = some o ∧ tgO m i o t = true ∧ eLk x F d tg = F t) ∧ (x < k ∨ k + os.length ≤ x → eLk x F d tg = F d) := by
  intro os
  induction os with
  | nil =>
    intro k tg h
    match tg, h with
    | [], h => exact ⟨fun h1 h2 => by simp at h2; omega, fun _ => rfl⟩
    | _ :: _, h => simp [chTs] at h
  | cons o os ih =>
    intro k tg h
    match tg, h with
    | [], h => simp [chTs] at h
    | [_], h => simp [chTs] at h
    | kk :: t :: r, h =>
      simp only [chTs, Bool.and_eq_true, decide_eq_true_eq] at h
      obtain ⟨⟨h1, h2⟩, h3⟩ := h
      obtain ⟨i1, i2⟩ := ih (k + 1) r h3
      have hl : ((o :: os).length : Int) = os.length + 1 := by simp
      constructor
      · intro h4 h5
        by_cases hx : x = k
        · subst hx
          refine ⟨o, t, by simp, h2, ?_⟩
          unfold eLk
          rw [if_pos h1.symm]
        · obtain ⟨o2, t2, j1, j2, j3⟩ := i1 (by omega) (by omega)
          refine ⟨o2, t2, ?_, j2, ?_⟩
          · rw [show (x - k).toNat = (x - (k + 1)).toNat + 1 by omega, List.getElem?_cons_succ]
            exact j1
          · unfold eLk
            rw [if_neg (by omega)]
            exact j3
      · intro h4
        unfold eLk
        rw [if_neg (by omega)]
        exact i2 (by omega)
theorem chLs_in {m i : Nat} {F : Nat → eA} {d : Nat} (df : Int) (hd : tgO m i df d = true) (x : Int) : ∀ (os : List (Int × Int)) (tg : List Nat), chLs m i os tg = true →
    ∃ t : Nat, tgO m i (Op.lookupswitch.offset os df x) t = true ∧ eLk x F d tg = F t := by
  intro os
  induction os with
  | nil =>
    intro tg h
    match tg, h with
    | [], h => exact ⟨d, by rw [Op.lookupswitch.offset_nil]; exact hd, rfl⟩
    | _ :: _, h => simp [chLs] at h
  | cons o os ih =>
    intro tg h
    match tg, h with
    | [], h => obtain ⟨o1, o2⟩ := o; simp [chLs] at h
    | [_], h => obtain ⟨o1, o2⟩ := o; simp [chLs] at h
    | kk :: t :: r, h =>
      obtain ⟨o1, o2⟩ := o
      simp only [chLs, Bool.and_eq_true, decide_eq_true_eq] at h
      obtain ⟨⟨h1, h2⟩, h3⟩ := h
      obtain ⟨t2, j1, j2⟩ := ih r h3
      rw [Op.lookupswitch.offset_cons]
      unfold eLk
      by_cases hx : o1 = x
      · rw [if_pos hx, if_pos (by omega)]
        exact ⟨t, h2, rfl⟩
      · rw [if_neg hx, if_neg (by omega)]
        exact ⟨t2, j1, j2⟩
section
variable (B : Nat) (K : Nat → Nat) (dA : Nat → ClassId) (D : va_G)
def eQc (o : eO) (μ : eM) : Array Value → State → Outcome → State → Prop := fun _ st oc t => ∃ v : Option eV, o = .inl v ∧ oc = .returned (v.map (cv B K)) ∧ eRep B K dA D μ t.heap ∧ va_F (eAd B) st t
def eXC (o : eO) (μ : eM) : String → State → State → Prop := fun E st t => ∃ k : Nat, o = .inr k ∧ 1 ≤ k ∧ k ≤ 5 ∧ E = ewEx k ∧ eRep B K dA D μ t.heap ∧ va_F (eAd B) st t
def eQ (below : List Frame) (args : Array Value) (s : State) (o : eO) (μ : eM) (mc ms : Nat) : State → Prop := vx_MQ below (eQc B K dA D o μ) (eXC B K dA D o μ) args s mc ms (eAd B)
end
theorem eLR.put2 {B : Nat} {K : Nat → Nat} {s : State} {m : Nat} {H : Heap} {lsA ls' : Array Slot} {nL i : Nat} {L : List eV} {w : eV} (h : eLR B K s m H lsA nL L) (h' : lv_has ls' nL ((i, cv B K w) :: (eKn B K lsA L).filter (fun q => !(q.1 == i) && (!(q.1 == i + 1) && !(q.1 + 1 == i && q.2.category == 2))))) (hw : eIsT w = false := by rfl) : eLR B K s m H ls' nL ((eSt L i w).set (i + 1) vJ) := by
  obtain ⟨h1, h2, h3⟩ := h'
  have fl : ∀ (k : Nat) (v : eV) (x : Value), L[k]? = some v → ((eIsT v = true ∧ lsA[k]? = some (.val x) ∧ x.category = 1) ∨ (eIsT v = false ∧ eIsJ v = false ∧ x = cv B K v)) → k ≠ i → ¬ i + 1 = k → (k + 1 = i → eIsD v = false) → ls'[k]? = some (.val x) := by
    intro k v x hl hx hne h9 hd
    refine h3 (k, x) (List.mem_cons_of_mem _ ?_)
    have h4 := List.mem_filter.mp (eKn_fl B K hl hx hne hd)
    refine List.mem_filter.mpr ⟨h4.1, ?_⟩
    have h5 := h4.2
    simp only [Bool.and_eq_true] at h5
    have a3 : (k == i + 1) = false := by simpa using fun z => h9 z.symm
    simp only [Bool.and_eq_true]
    exact ⟨h5.1, by rw [a3]; rfl, h5.2⟩
  have hs : ∀ (k : Nat) (v : eV), ((eSt L i w).set (i + 1) vJ)[k]? = some v → v ≠ vJ → (¬ i + 1 = k) ∧ (eSt L i w)[k]? = some v := by
    intro k v hk hj
    rw [List.getElem?_set] at hk
    split at hk
    · split at hk
      · cases hk; exact absurd rfl hj
      · cases hk
    next hk1 => exact ⟨hk1, hk⟩
  refine ⟨h1, h2, by rw [List.length_set, eSt_len]; exact h.2.2.1, ?_, ?_⟩
  · intro k v hk hj
    obtain ⟨q1, q2⟩ := hs k v hk (nJ_of hj)
    rcases eSt_at q2 (nJ_of hj) with ⟨rfl, rfl, -⟩ | ⟨hne, hl, hd⟩
    · exact h3 _ List.mem_cons_self
    · exact fl k v _ hl (Or.inr ⟨eJT hj, hj, rfl⟩) hne q1 hd
  · intro hm k t h17 hk
    obtain ⟨q1, q2⟩ := hs k (vT t) hk (fun z => by cases z)
    rcases eSt_at q2 (fun z => by cases z) with ⟨-, rfl, -⟩ | ⟨hne, hl, hd⟩
    · cases hw
    · obtain ⟨a, h4, h5⟩ := h.2.2.2.2 hm k t h17 hl
      exact ⟨a, fl k _ _ hl (Or.inl ⟨rfl, h4, rfl⟩) hne q1 hd, h5⟩
theorem th_of {L : List Cond} (h : L.all (fun w => decide (w ∈ lw_tbl) && ((goodWord w || ewBad4 w) && vx_ot w)) = true) : ∀ w ∈ L, w ∈ ewL4 ∧ vx_ot w = true := by
  intro w hw
  have h1 := List.all_eq_true.mp h w hw
  simp only [Bool.and_eq_true, decide_eq_true_eq] at h1
  exact ⟨in4 h1.1 h1.2.1, h1.2.2⟩
theorem th_ok : ∀ a, 1 ≤ a → a ≤ 5 → ∀ ic, ic = (match a with | 1 => 292 | 2 => 113 | 3 => 120 | 4 => 168 | 5 => 208 | _ => 346) → Bundle.fit (ewEx a) = true ∧ (∀ w ∈ vx_at0 "EchoWells" ic (ewEx a) ["java/lang/RuntimeException", "java/lang/Exception"], w ∈ ewL4 ∧ vx_ot w = true) ∧ Cond.initialized (ewEx a) ∈ ewL4 := by
  intro a h1 h2 ic hic
  subst hic
  have h : a = 1 ∨ a = 2 ∨ a = 3 ∨ a = 4 ∨ a = 5 := by omega
  rcases h with rfl | rfl | rfl | rfl | rfl
  · exact ⟨by decide +kernel, th_of (by decide +kernel), in4 (by decide +kernel) rfl⟩
  · exact ⟨by decide +kernel, th_of (by decide +kernel), in4 (by decide +kernel) rfl⟩
  · exact ⟨by decide +kernel, th_of (by decide +kernel), in4 (by decide +kernel) rfl⟩
  · exact ⟨by decide +kernel, th_of (by decide +kernel), in4 (by decide +kernel) rfl⟩
  · exact ⟨by decide +kernel, th_of (by decide +kernel), in4 (by decide +kernel) rfl⟩
section
variable {B : Nat} {K : Nat → Nat} {dA : Nat → ClassId} {D : va_G} {X : eX}
variable {p : Program} {l : Launch} {e : Env} {R : Room} {s : State} {mI : MethodId} {args : Array Value} {below : List Frame} {meth : Method} {c : Code} {cells slots mc ms : Nat} {Q : State → Prop} {m : Nat}
theorem sl_26 {X : eX} {pc a b k : Nat} {v : Int} {tg : List Nat} {ls st : List eV} {n e : Nat} {p : Nat → Nat → Nat} {h : Nat → Nat → Int} : eSel ewK ewL ewT X pc (26, a, b, k, v, tg) ls st (n, e, p, h) = (if ewK (n + 1) = a ∧ e = 0 then eNx (pc + 1) ls (vR (n + 1) :: st) (n + 1, e, zr p (n + 1) 0, zr h (n + 1) 0) else none) := rfl
theorem ck_26 {m i a b k : Nat} {v : Int} {tg : List Nat} : chk m i (26, a, b, k, v, tg) = (match ewD m i with
    | .ok (.new idx, 3) => nxt m i 3 && decide (a ∈ eKs) && decide (wd k = some (.classLink (mNm m).cls idx (eRc a)))
    | _ => false) := rfl
set_option maxHeartbeats 1000000 in
theorem op_26 (C : eCx B K dA D p l s mI args meth c m) {pc a b k : Nat} {v : Int} {tg : List Nat} {ls st ls' st' : List eV} {n e0 : Nat} {pp : Nat → Nat → Nat} {hh : Nat → Nat → Int} {μ' : eM} {pc' : Nat} (hns : ¬ m = m_L_sounds) (hcs : cells + 1 ≤ R.cells) (hss : slots + eSz (n + 1) ≤ R.slots) (hz : e0 = 0 → s.heap.size + cells = B + n + 1) (hk : chk m pc (26, a, b, k, v, tg) = true) (hw : eWf ls st (n, e0, pp, hh)) (hs : eSel ewK ewL ewT X pc (26, a, b, k, v, tg) ls st (n, e0, pp, hh) = some (.inl (pc', ls', st', μ'))) (kk : eVv B K dA D p l e R s mI args below meth c Q m (cells + 1) (slots + eSz (n + 1)) pc' ls' st' μ') : eVv B K dA D p l e R s mI args below meth c Q m cells slots pc ls st (n, e0, pp, hh) := by
  obtain ⟨hx, hb, hr, hml, hown, hts, hlk, htb, hnm, hst, hB1, hK, hC⟩ := C
  rw [sl_26] at hs
  rw [ck_26] at hk
  split at hs
  next hg =>
    obtain ⟨hkd, he0⟩ := hg
    split at hk
    next idx hd =>
      simp only [Bool.and_eq_true, decide_eq_true_eq] at hk
      obtain ⟨⟨hn, ha⟩, hwd⟩ := hk
      cases hs
      have hsz1 : eSz (n + 1) = eN a := by unfold eSz; rw [hkd, if_pos (eKs_lt a ha).2]
      rw [hsz1] at hss kk
      have hbg := ewK_big (n + 1) (by rw [hkd]; exact (eKs_lt a ha).1)
      intro H locs lsA hR hS hL
      apply W_size
      intro hH
      have hH2 := eR_low hR hS hB1
      have hH3 := hz he0
      have hHe : H.size = B + (n + 1) := by omega
      refine ew_new hx hb hts (eCl_i4 a ha) (eTy a) (eCl_ty a ha) hown (hts _ (in4 (wd_mem hwd) rfl)) (hts _ (eKs_w a ha).1) (hts _ (eKs_w a ha).2) hK hR hS (eCl_at a ha) (fs := (List.range (eN a)).map (eFv B K a (fun _ => 0) (fun _ => 0))) (fun j hj => eDf2 ha hj) hcs hss hd (fun H1 hP1 hS1 => ?_)
      rw [hHe, eWs_app B K dA (p' := zr pp (n + 1) 0) (h' := zr hh (n + 1) 0) (fun q hq => ⟨zr_ne pp 0 hq, zr_ne hh 0 hq⟩) (by rw [eCe_obj ha hkd, zr_at, zr_at])] at hP1
      have h1 := kk H1 locs lsA hP1 hS1 (hL.mv B K hns)
      rw [nx1 hn] at h1
      have h2 : W p l e R s mI args below meth c H1 locs (cells + 1) (slots + eN a) Q (F0 mI (mPc m pc + 3) lsA (rv B K (n + 1) :: st.map (cv B K))) := h1
      rw [rv_cell hbg.1 hbg.2] at h2
      rw [hHe]
      exact h2
    · cases hk
  · cases hs
theorem sl_31 {X : eX} {pc a b k : Nat} {v : Int} {tg : List Nat} {ls st : List eV} {n e : Nat} {p : Nat → Nat → Nat} {h : Nat → Nat → Int} : eSel ewK ewL ewT X pc (31, a, b, k, v, tg) ls st (n, e, p, h) = (match st with
    | .inl w :: st => if ewK (n + 1) = a ∧ (ewL (n + 1) : Int) = w ∧ e = 0 then eNx (pc + 1) ls (vR (n + 1) :: st) (n + 1, e, zr p (n + 1) 0, zr h (n + 1) 0) else none
    | _ => none) := by rcases st with _ | ⟨(_ | _ | _ | _ | _ | _), _⟩ <;> rfl
theorem ck_31 {m i a b k : Nat} {v : Int} {tg : List Nat} : chk m i (31, a, b, k, v, tg) = (match ewD m i with
    | .ok (.newarray t, 2) => nxt m i 2 && decide (newarray.typeOf t = eKt a) && decide (20 ≤ a ∧ a ≤ 22)
    | .ok (.anewarray idx, 3) => nxt m i 3 && decide (30 ≤ a ∧ a ≤ 32) && decide (wd k = some (.classLink (mNm m).cls idx (eKc a)))
    | _ => false) := rfl
set_option maxHeartbeats 1000000 in
theorem op_31 (C : eCx B K dA D p l s mI args meth c m) {pc a b k : Nat} {v : Int} {tg : List Nat} {ls st ls' st' : List eV} {n e0 : Nat} {pp : Nat → Nat → Nat} {hh : Nat → Nat → Int} {μ' : eM} {pc' : Nat} (hns : ¬ m = m_L_sounds) (hcs : cells + 1 ≤ R.cells) (hss : slots + eSz (n + 1) ≤ R.slots) (hz : e0 = 0 → s.heap.size + cells = B + n + 1) (hk : chk m pc (31, a, b, k, v, tg) = true) (hw : eWf ls st (n, e0, pp, hh)) (hs : eSel ewK ewL ewT X pc (31, a, b, k, v, tg) ls st (n, e0, pp, hh) = some (.inl (pc', ls', st', μ'))) (kk : eVv B K dA D p l e R s mI args below meth c Q m (cells + 1) (slots + eSz (n + 1)) pc' ls' st' μ') : eVv B K dA D p l e R s mI args below meth c Q m cells slots pc ls st (n, e0, pp, hh) := by
  obtain ⟨hx, hb, hr, hml, hown, hts, hlk, htb, hnm, hst, hB1, hK, hC⟩ := C
  rw [sl_31] at hs
  rw [ck_31] at hk
  split at hs
  next w st2 =>
    split at hs
    next hg =>
      obtain ⟨hkd, hln, he0⟩ := hg
      have hL5 := ewL_big (n + 1)
      have hwR : inR w := hw.2.1 (vI w) List.mem_cons_self
      have hw0 : ¬ Int32.ofInt w < 0 := by rw [← oI_zero, oI_lt hwR in0]; omega
      have hw1 : (Int32.ofInt w).toNatClampNeg = ewL (n + 1) := by rw [oI_clamp hwR]; omega
      split at hk
      next t hd =>
        simp only [Bool.and_eq_true, decide_eq_true_eq] at hk
        obtain ⟨⟨hn, hty⟩, ha1, ha2⟩ := hk
        cases hs
        have hsz1 : eSz (n + 1) = ewL (n + 1) := by unfold eSz; rw [hkd, if_neg (by omega)]
        rw [hsz1] at hss kk
        have hbg := ewK_big (n + 1) (by omega)
        intro H locs lsA hR hS hL
        apply W_size
        intro hH
        have hH2 := eR_low hR hS hB1
        have hH3 := hz he0
        have hHe : H.size = B + (n + 1) := by omega
        have hby : ewL (n + 1) * componentBytes (eKt a) ≤ 536870912 := by
          have h8 := cb8 a ha1 ha2
          exact Nat.le_trans (Nat.mul_le_mul hL5 h8) (by omega)
        refine ew_newa hx hb (atype := t) (by rw [hty]; exact hts _ (eKt_w a ha1 ha2)) hty hR hS (a0 := eAr B K a (ewL (n + 1)) (fun _ => 0) (fun _ => 0)) (fun cA => eAr_new ha1 ha2 cA) hw0 hw1 hby hcs hss hd (fun cA H1 hcA hP1 hS1 => ?_)
        rw [dA_is hK (Or.inl ⟨ha1, ha2⟩)] at hcA
        cases hcA
        rw [hHe, eWs_app B K dA (p' := zr pp (n + 1) 0) (h' := zr hh (n + 1) 0) (fun q hq => ⟨zr_ne pp 0 hq, zr_ne hh 0 hq⟩) (by rw [eCe_arr ha1 hkd, zr_at, zr_at])] at hP1
        have h1 := kk H1 locs lsA hP1 hS1 (hL.mv B K hns)
        rw [nx1 hn] at h1
        have h2 : W p l e R s mI args below meth c H1 locs (cells + 1) (slots + ewL (n + 1)) Q (F0 mI (mPc m pc + 2) lsA (rv B K (n + 1) :: st2.map (cv B K))) := h1
        rw [rv_cell hbg.1 hbg.2] at h2
        rw [hHe]
        exact h2
      next idx hd =>
        simp only [Bool.and_eq_true, decide_eq_true_eq] at hk
        obtain ⟨⟨hn, ha1, ha2⟩, hwd⟩ := hk
        cases hs
        have hsz1 : eSz (n + 1) = ewL (n + 1) := by unfold eSz; rw [hkd, if_neg (by omega)]
        rw [hsz1] at hss kk
        have hbg := ewK_big (n + 1) (by omega)
        have hao : va_AO (eKc a) s ∧ eKt a = .object (eKc a) := by
          have h : a = 30 ∨ a = 31 ∨ a = 32 := by omega
          rcases h with rfl | rfl | rfl
          · exact ⟨hC.2.2.1, rfl⟩
          · exact ⟨hC.2.2.2.1, rfl⟩
          · exact ⟨hC.2.2.2.2.1, rfl⟩
        intro H locs lsA hR hS hL
        apply W_size
        intro hH
        have hH2 := eR_low hR hS hB1
        have hH3 := hz he0
        have hHe : H.size = B + (n + 1) := by omega
        refine ew_newq hx hb hown (hts _ (in4 (wd_mem hwd) rfl)) hao.1 hR hS hw0 hw1 (by omega) hcs hss hd (fun cA H1 hcA hP1 hS1 => ?_)
        rw [← hao.2, dA_is hK (Or.inr ⟨ha1, ha2⟩)] at hcA
        cases hcA
        rw [hHe, eWs_app B K dA (p' := zr pp (n + 1) 0) (h' := zr hh (n + 1) 0) (fun q hq => ⟨zr_ne pp 0 hq, zr_ne hh 0 hq⟩) (by rw [eCe_arr (by omega) hkd, zr_at, zr_at, eAr_newq ha1])] at hP1
        have h1 := kk H1 locs lsA hP1 hS1 (hL.mv B K hns)
        rw [nx1 hn] at h1
        have h2 : W p l e R s mI args below meth c H1 locs (cells + 1) (slots + ewL (n + 1)) Q (F0 mI (mPc m pc + 3) lsA (rv B K (n + 1) :: st2.map (cv B K))) := h1
        rw [rv_cell hbg.1 hbg.2] at h2
        rw [hHe]
        exact h2
      · cases hk
    · cases hs
  · cases hs
theorem sl_24 {X : eX} {pc a b k : Nat} {v : Int} {tg : List Nat} {ls st : List eV} {n e : Nat} {p : Nat → Nat → Nat} {h : Nat → Nat → Int} : eSel ewK ewL ewT X pc (24, a, b, k, v, tg) ls st (n, e, p, h) = (match st with
    | .inr (.inl x) :: st => if st.length ≤ 8 then (if x = 0 then none else eNx (pc + 1) ls st  (n, e, p, h)) else none
    | _ => none) := rfl
theorem ck_24 {m i a b k : Nat} {v : Int} {tg : List Nat} : chk m i (24, a, b, k, v, tg) = (match ewD m i with
    | .ok (.invokespecial idx, 3) => nxt m i 3 && decide (1 ≤ mLv m) && decide (wd k = some (.methodLink (mNm m).cls idx objectInit))
    | _ => false) := rfl
set_option maxHeartbeats 1000000 in
theorem op_24 (C : eCx B K dA D p l s mI args meth c m) {pc a b k : Nat} {v : Int} {tg : List Nat} {ls st ls' st' : List eV} {n e0 : Nat} {pp : Nat → Nat → Nat} {hh : Nat → Nat → Int} {μ' : eM} {pc' : Nat} (hRf : mLv m ≤ R.frames) (hRl : 64 * mLv m ≤ R.locals) (hcs : cells ≤ R.cells) (hss : slots ≤ R.slots) (hk : chk m pc (24, a, b, k, v, tg) = true) (hw : eWf ls st (n, e0, pp, hh)) (hs : eSel ewK ewL ewT X pc (24, a, b, k, v, tg) ls st (n, e0, pp, hh) = some (.inl (pc', ls', st', μ'))) (kk : eVv B K dA D p l e R s mI args below meth c Q m (cells) (slots) pc' ls' st' μ') : eVv B K dA D p l e R s mI args below meth c Q m cells slots pc ls st (n, e0, pp, hh) := by
  obtain ⟨hx, hb, hr, hml, hown, hts, hlk, htb, hnm, hst, hB1, hK, hC⟩ := C
  rw [sl_24] at hs
  rw [ck_24] at hk
  split at hs
  next x st2 =>
    split at hs
    next hlen =>
      split at hs
      · cases hs
      next hx0 =>
        split at hk
        next idx hd =>
          simp only [Bool.and_eq_true, decide_eq_true_eq] at hk
          obtain ⟨⟨hn, hlv⟩, hwd⟩ := hk
          cases hs
          intro H locs lsA hR hS hL
          have h1 := kk H locs lsA hR hS hL
          rw [nx1 hn] at h1
          obtain ⟨q, hq⟩ := rv_ref (B := B) (K := K) hx0
          show W p l e R s mI args below meth c H locs cells slots Q (F0 mI (mPc m pc) lsA (rv B K x :: List.map (cv B K) st'))
          rw [hq]
          have hcat := cat_sum (cv B K) st'
          exact W.objInit hx hb hown (hts _ (in4 (wd_mem hwd) rfl)) (hts _ (in4 (wd_mem (j := 42) rfl) rfl)) (hts _ (in4 (wd_mem (j := 43) rfl) rfl)) (g := F0 mI (mPc m pc) lsA (.ref q :: List.map (cv B K) st')) rfl (by rw [hml]; exact hL.1) rfl hd (by omega) (by show 2 * 0 + ((st'.map (cv B K)).map fun v => v.category).sum + 12 ≤ _; omega) h1
        · cases hk
    · cases hs
  · cases hs
theorem sl_70 {X : eX} {pc a b k : Nat} {v : Int} {tg : List Nat} {ls st : List eV} {n e : Nat} {p : Nat → Nat → Nat} {h : Nat → Nat → Int} : eSel ewK ewL ewT X pc (70, a, b, k, v, tg) ls st (n, e, p, h) = (match st with
    | .inl y :: .inl x :: st => if st.length ≤ 8 then eNx (pc + 1) ls (vI (if x ≤ y then y else x) :: st)  (n, e, p, h) else none
    | _ => none) := rfl
theorem ck_70 {m i a b k : Nat} {v : Int} {tg : List Nat} : chk m i (70, a, b, k, v, tg) = (match ewD m i with
    | .ok (.invokestatic idx, 3) => nxt m i 3 && decide (1 ≤ mLv m) && decide (wd k = some (.methodLink (mNm m).cls idx Lib.Math.max.name))
    | _ => false) := rfl
set_option maxHeartbeats 1000000 in
theorem op_70 (C : eCx B K dA D p l s mI args meth c m) {pc a b k : Nat} {v : Int} {tg : List Nat} {ls st ls' st' : List eV} {n e0 : Nat} {pp : Nat → Nat → Nat} {hh : Nat → Nat → Int} {μ' : eM} {pc' : Nat} (hRf : mLv m ≤ R.frames) (hRl : 64 * mLv m ≤ R.locals) (hcs : cells ≤ R.cells) (hss : slots ≤ R.slots) (hk : chk m pc (70, a, b, k, v, tg) = true) (hw : eWf ls st (n, e0, pp, hh)) (hs : eSel ewK ewL ewT X pc (70, a, b, k, v, tg) ls st (n, e0, pp, hh) = some (.inl (pc', ls', st', μ'))) (kk : eVv B K dA D p l e R s mI args below meth c Q m (cells) (slots) pc' ls' st' μ') : eVv B K dA D p l e R s mI args below meth c Q m cells slots pc ls st (n, e0, pp, hh) := by
  obtain ⟨hx, hb, hr, hml, hown, hts, hlk, htb, hnm, hst, hB1, hK, hC⟩ := C
  rw [sl_70] at hs
  rw [ck_70] at hk
  split at hs
  next y x st2 =>
    split at hs
    next hlen =>
      split at hk
      next idx hd =>
        simp only [Bool.and_eq_true, decide_eq_true_eq] at hk
        obtain ⟨⟨hn, hlv⟩, hwd⟩ := hk
        cases hs
        have hval : (if Int32.ofInt x < Int32.ofInt y then Int32.ofInt y else Int32.ofInt x) = Int32.ofInt (if x ≤ y then y else x) := by
          have hxR : inR x := hw.2.1 (vI x) (List.mem_cons_of_mem _ List.mem_cons_self)
          have hyR : inR y := hw.2.1 (vI y) List.mem_cons_self
          by_cases hxy : x < y
          · rw [if_pos ((oI_lt hxR hyR).mpr hxy), if_pos (by omega)]
          · rw [if_neg (fun z => hxy ((oI_lt hxR hyR).mp z))]
            by_cases hxe : x ≤ y
            · rw [if_pos hxe, show x = y by omega]
            · rw [if_neg hxe]
        intro H locs lsA hR hS hL
        have h1 := kk H locs lsA hR hS hL
        rw [nx1 hn] at h1
        have h2 : W p l e R s mI args below meth c H locs cells slots Q (F0 mI (mPc m pc + 3) lsA (.int (Int32.ofInt (if x ≤ y then y else x)) :: st2.map (cv B K))) := h1
        rw [← hval] at h2
        have hcat := cat_sum (cv B K) st2
        exact va_mmax hx hb (by rw [hml]; exact hL.1.symm) hown (hts _ (in4 (wd_mem hwd) rfl)) (hts _ (in4 (wd_mem (j := 647) rfl) rfl)) (hts _ (in4 (wd_mem (j := 15) rfl) rfl)) (hts _ (in4 (wd_mem (j := 648) rfl) rfl)) (by omega) (by omega) hcs hss hd h2
      · cases hk
    · cases hs
  · cases hs
theorem sl_71 {X : eX} {pc a b k : Nat} {v : Int} {tg : List Nat} {ls st : List eV} {n e : Nat} {p : Nat → Nat → Nat} {h : Nat → Nat → Int} : eSel ewK ewL ewT X pc (71, a, b, k, v, tg) ls st (n, e, p, h) = (match st with
    | .inl y :: .inl x :: st => if st.length ≤ 8 then eNx (pc + 1) ls (vI (if x ≤ y then x else y) :: st)  (n, e, p, h) else none
    | _ => none) := rfl
theorem ck_71 {m i a b k : Nat} {v : Int} {tg : List Nat} : chk m i (71, a, b, k, v, tg) = (match ewD m i with
    | .ok (.invokestatic idx, 3) => nxt m i 3 && decide (1 ≤ mLv m) && decide (wd k = some (.methodLink (mNm m).cls idx Lib.Math.min.name))
    | _ => false) := rfl
set_option maxHeartbeats 1000000 in
theorem op_71 (C : eCx B K dA D p l s mI args meth c m) {pc a b k : Nat} {v : Int} {tg : List Nat} {ls st ls' st' : List eV} {n e0 : Nat} {pp : Nat → Nat → Nat} {hh : Nat → Nat → Int} {μ' : eM} {pc' : Nat} (hRf : mLv m ≤ R.frames) (hRl : 64 * mLv m ≤ R.locals) (hcs : cells ≤ R.cells) (hss : slots ≤ R.slots) (hk : chk m pc (71, a, b, k, v, tg) = true) (hw : eWf ls st (n, e0, pp, hh)) (hs : eSel ewK ewL ewT X pc (71, a, b, k, v, tg) ls st (n, e0, pp, hh) = some (.inl (pc', ls', st', μ'))) (kk : eVv B K dA D p l e R s mI args below meth c Q m (cells) (slots) pc' ls' st' μ') : eVv B K dA D p l e R s mI args below meth c Q m cells slots pc ls st (n, e0, pp, hh) := by
  obtain ⟨hx, hb, hr, hml, hown, hts, hlk, htb, hnm, hst, hB1, hK, hC⟩ := C
  rw [sl_71] at hs
  rw [ck_71] at hk
  split at hs
  next y x st2 =>
    split at hs
    next hlen =>
      split at hk
      next idx hd =>
        simp only [Bool.and_eq_true, decide_eq_true_eq] at hk
        obtain ⟨⟨hn, hlv⟩, hwd⟩ := hk
        cases hs
        have hval : (if Int32.ofInt y < Int32.ofInt x then Int32.ofInt y else Int32.ofInt x) = Int32.ofInt (if x ≤ y then x else y) := by
          have hxR : inR x := hw.2.1 (vI x) (List.mem_cons_of_mem _ List.mem_cons_self)
          have hyR : inR y := hw.2.1 (vI y) List.mem_cons_self
          by_cases hxy : y < x
          · rw [if_pos ((oI_lt hyR hxR).mpr hxy), if_neg (by omega)]
          · rw [if_neg (fun z => hxy ((oI_lt hyR hxR).mp z)), if_pos (by omega)]
        intro H locs lsA hR hS hL
        have h1 := kk H locs lsA hR hS hL
        rw [nx1 hn] at h1
        have h2 : W p l e R s mI args below meth c H locs cells slots Q (F0 mI (mPc m pc + 3) lsA (.int (Int32.ofInt (if x ≤ y then x else y)) :: st2.map (cv B K))) := h1
        rw [← hval] at h2
        have hcat := cat_sum (cv B K) st2
        exact va_mmin hx hb (by rw [hml]; exact hL.1.symm) hown (hts _ (in4 (wd_mem hwd) rfl)) (hts _ (in4 (wd_mem (j := 736) rfl) rfl)) (hts _ (in4 (wd_mem (j := 15) rfl) rfl)) (hts _ (in4 (wd_mem (j := 737) rfl) rfl)) (by omega) (by omega) hcs hss hd h2
      · cases hk
    · cases hs
  · cases hs
theorem sl_72 {X : eX} {pc a b k : Nat} {v : Int} {tg : List Nat} {ls st : List eV} {n e : Nat} {p : Nat → Nat → Nat} {h : Nat → Nat → Int} : eSel ewK ewL ewT X pc (72, a, b, k, v, tg) ls st (n, e, p, h) = (match st with
    | .inl x :: st => if st.length ≤ 8 then eNx (pc + 1) ls (vI (if x < 0 then wr (-x) else x) :: st)  (n, e, p, h) else none
    | _ => none) := rfl
theorem ck_72 {m i a b k : Nat} {v : Int} {tg : List Nat} : chk m i (72, a, b, k, v, tg) = (match ewD m i with
    | .ok (.invokestatic idx, 3) => nxt m i 3 && decide (1 ≤ mLv m) && decide (wd k = some (.methodLink (mNm m).cls idx Lib.Math.abs.name))
    | _ => false) := rfl
set_option maxHeartbeats 1000000 in
theorem op_72 (C : eCx B K dA D p l s mI args meth c m) {pc a b k : Nat} {v : Int} {tg : List Nat} {ls st ls' st' : List eV} {n e0 : Nat} {pp : Nat → Nat → Nat} {hh : Nat → Nat → Int} {μ' : eM} {pc' : Nat} (hRf : mLv m ≤ R.frames) (hRl : 64 * mLv m ≤ R.locals) (hcs : cells ≤ R.cells) (hss : slots ≤ R.slots) (hk : chk m pc (72, a, b, k, v, tg) = true) (hw : eWf ls st (n, e0, pp, hh)) (hs : eSel ewK ewL ewT X pc (72, a, b, k, v, tg) ls st (n, e0, pp, hh) = some (.inl (pc', ls', st', μ'))) (kk : eVv B K dA D p l e R s mI args below meth c Q m (cells) (slots) pc' ls' st' μ') : eVv B K dA D p l e R s mI args below meth c Q m cells slots pc ls st (n, e0, pp, hh) := by
  obtain ⟨hx, hb, hr, hml, hown, hts, hlk, htb, hnm, hst, hB1, hK, hC⟩ := C
  rw [sl_72] at hs
  rw [ck_72] at hk
  split at hs
  next x st2 =>
    split at hs
    next hlen =>
      split at hk
      next idx hd =>
        simp only [Bool.and_eq_true, decide_eq_true_eq] at hk
        obtain ⟨⟨hn, hlv⟩, hwd⟩ := hk
        cases hs
        have hval : (if 0 ≤ Int32.ofInt x then Int32.ofInt x else 0 - Int32.ofInt x) = Int32.ofInt (if x < 0 then wr (-x) else x) := by
          have hxR : inR x := hw.2.1 (vI x) List.mem_cons_self
          by_cases hxy : x < 0
          · rw [if_neg (fun z => by rw [← oI_zero, oI_le in0 hxR] at z; omega), if_pos hxy, ← oI_zero, oI_sub, Int.zero_sub]
          · rw [if_pos (by rw [← oI_zero, oI_le in0 hxR]; omega), if_neg hxy]
        intro H locs lsA hR hS hL
        have h1 := kk H locs lsA hR hS hL
        rw [nx1 hn] at h1
        have h2 : W p l e R s mI args below meth c H locs cells slots Q (F0 mI (mPc m pc + 3) lsA (.int (Int32.ofInt (if x < 0 then wr (-x) else x)) :: st2.map (cv B K))) := h1
        rw [← hval] at h2
        have hcat := cat_sum (cv B K) st2
        exact va_mabs hx hb (by rw [hml]; exact hL.1.symm) hown (hts _ (in4 (wd_mem hwd) rfl)) (hts _ (in4 (wd_mem (j := 644) rfl) rfl)) (hts _ (in4 (wd_mem (j := 15) rfl) rfl)) (hts _ (in4 (wd_mem (j := 645) rfl) rfl)) (by omega) (by omega) hcs hss hd h2
      · cases hk
    · cases hs
  · cases hs
theorem sl_93 {X : eX} {pc a b k : Nat} {v : Int} {tg : List Nat} {ls st : List eV} {n e : Nat} {p : Nat → Nat → Nat} {h : Nat → Nat → Int} : eSel ewK ewL ewT X pc (93, a, b, k, v, tg) ls st (n, e, p, h) = (match st with
    | .inr (.inr (.inl y)) :: .inr (.inr (.inl x)) :: st => if st.length ≤ 8 then eNx (pc + 1) ls (vL (if x ≤ y then x else y) :: st)  (n, e, p, h) else none
    | _ => none) := rfl
theorem ck_93 {m i a b k : Nat} {v : Int} {tg : List Nat} : chk m i (93, a, b, k, v, tg) = (match ewD m i with
    | .ok (.invokestatic idx, 3) => nxt m i 3 && decide (1 ≤ mLv m) && decide (wd k = some (.methodLink (mNm m).cls idx Lib.MathLoose.min_long.x))
    | _ => false) := rfl
set_option maxHeartbeats 1000000 in
theorem op_93 (C : eCx B K dA D p l s mI args meth c m) {pc a b k : Nat} {v : Int} {tg : List Nat} {ls st ls' st' : List eV} {n e0 : Nat} {pp : Nat → Nat → Nat} {hh : Nat → Nat → Int} {μ' : eM} {pc' : Nat} (hRf : mLv m ≤ R.frames) (hRl : 64 * mLv m ≤ R.locals) (hcs : cells ≤ R.cells) (hss : slots ≤ R.slots) (hk : chk m pc (93, a, b, k, v, tg) = true) (hw : eWf ls st (n, e0, pp, hh)) (hs : eSel ewK ewL ewT X pc (93, a, b, k, v, tg) ls st (n, e0, pp, hh) = some (.inl (pc', ls', st', μ'))) (kk : eVv B K dA D p l e R s mI args below meth c Q m (cells) (slots) pc' ls' st' μ') : eVv B K dA D p l e R s mI args below meth c Q m cells slots pc ls st (n, e0, pp, hh) := by
  obtain ⟨hx, hb, hr, hml, hown, hts, hlk, htb, hnm, hst, hB1, hK, hC⟩ := C
  rw [sl_93] at hs
  rw [ck_93] at hk
  split at hs
  next y x st2 =>
    split at hs
    next hlen =>
      split at hk
      next idx hd =>
        simp only [Bool.and_eq_true, decide_eq_true_eq] at hk
        obtain ⟨⟨hn, hlv⟩, hwd⟩ := hk
        cases hs
        have hval : (if Int64.ofInt y < Int64.ofInt x then Int64.ofInt y else Int64.ofInt x) = Int64.ofInt (if x ≤ y then x else y) := by
          have hxR : inR8 x := hw.2.1 (vL x) (List.mem_cons_of_mem _ List.mem_cons_self)
          have hyR : inR8 y := hw.2.1 (vL y) List.mem_cons_self
          by_cases hxy : y < x
          · rw [if_pos ((oL_lt hyR hxR).mpr hxy), if_neg (by omega)]
          · rw [if_neg (fun z => hxy ((oL_lt hyR hxR).mp z)), if_pos (by omega)]
        intro H locs lsA hR hS hL
        have h1 := kk H locs lsA hR hS hL
        rw [nx1 hn] at h1
        have h2 : W p l e R s mI args below meth c H locs cells slots Q (F0 mI (mPc m pc + 3) lsA (.long (Int64.ofInt (if x ≤ y then x else y)) :: st2.map (cv B K))) := h1
        rw [← hval] at h2
        have hcat := cat_sum (cv B K) st2
        exact va_mmin_long hx hb (by rw [hml]; exact hL.1.symm) hown (hts _ (in4 (wd_mem hwd) rfl)) (hts _ (in4 (wd_mem (j:=1556) rfl) rfl)) (hts _ (in4 (wd_mem (j:=15) rfl) rfl)) (hts _ (in4 (wd_mem (j:=1557) rfl) rfl)) (by omega) (by omega) hcs hss hd h2
      · cases hk
    · cases hs
  · cases hs
theorem sl_82 {X : eX} {pc a b k : Nat} {v : Int} {tg : List Nat} {ls st : List eV} {n e : Nat} {p : Nat → Nat → Nat} {h : Nat → Nat → Int} : eSel ewK ewL ewT X pc (82, a, b, k, v, tg) ls st (n, e, p, h) = (match st with
    | .inl x :: st => eLk x (fun t => eNx t ls st  (n, e, p, h)) a tg
    | _ => none) := rfl
theorem ck_82 {m i a b k : Nat} {v : Int} {tg : List Nat} : chk m i (82, a, b, k, v, tg) = (match ewD m i with
    | .ok (.tableswitch df lo hi offs, _) => tgO m i df a && decide (lo + offs.size = hi + 1) && chTs m i lo offs.toList tg
    | .ok (.lookupswitch df ps, _) => tgO m i df a && chLs m i ps.toList tg && (ps.toList.zip (ps.toList.drop 1)).all (fun (a, next) => a.1 < next.1)
    | _ => false) := rfl
set_option maxHeartbeats 1000000 in
theorem op_82 (C : eCx B K dA D p l s mI args meth c m) {pc a b k : Nat} {v : Int} {tg : List Nat} {ls st ls' st' : List eV} {n e0 : Nat} {pp : Nat → Nat → Nat} {hh : Nat → Nat → Int} {μ' : eM} {pc' : Nat} (hk : chk m pc (82, a, b, k, v, tg) = true) (hw : eWf ls st (n, e0, pp, hh)) (hs : eSel ewK ewL ewT X pc (82, a, b, k, v, tg) ls st (n, e0, pp, hh) = some (.inl (pc', ls', st', μ'))) (kk : eVv B K dA D p l e R s mI args below meth c Q m (cells) (slots) pc' ls' st' μ') : eVv B K dA D p l e R s mI args below meth c Q m cells slots pc ls st (n, e0, pp, hh) := by
  obtain ⟨hx, hb, hr, hml, hown, hts, hlk, htb, hnm, hst, hB1, hK, hC⟩ := C
  rw [sl_82] at hs
  rw [ck_82] at hk
  split at hs
  next x st2 =>
    have hxR : inR x := hw.2.1 (vI x) List.mem_cons_self
    have hxe : (Int32.ofInt x).toInt = x := oI_toInt hxR
    have hfin : ∀ (off : Int) (t : Nat), tgO m pc off t = true → eLk x (fun t => eNx t ls st2 (n, e0, pp, hh)) a tg = eNx t ls st2 (n, e0, pp, hh) → (mPc m pc : Int) + off = (mPc m t : Int) ∧ ∀ H locs lsA, eRep B K dA D (n, e0, pp, hh) H → va_S (eAd B) s.heap H locs → eLR B K s m H lsA (ewMax m) ls → W p l e R s mI args below meth c H locs cells slots Q (F0 mI (mPc m t) lsA (st2.map (cv B K))) := by
      intro off t h1 h2
      rw [h2] at hs
      cases hs
      exact ⟨tg1 h1, fun H locs lsA hR hS hL => kk H locs lsA hR hS hL⟩
    split at hk
    next df lo hi offs len hd =>
      simp only [Bool.and_eq_true, decide_eq_true_eq] at hk
      obtain ⟨⟨h1, h2⟩, h3⟩ := hk
      obtain ⟨i1, i2⟩ := chTs_in (F := fun t => eNx t ls st2 (n, e0, pp, hh)) (d := a) x _ _ _ h3
      have hln : (offs.toList.length : Int) = offs.size := by simp
      intro H locs lsA hR hS hL
      by_cases hin : x < lo ∨ hi < x
      · obtain ⟨j1, j2⟩ := hfin df a h1 (i2 (by omega))
        exact lv_tableOut hx hb hd (by rw [hxe]; exact hin) j1 (j2 H locs lsA hR hS hL)
      · obtain ⟨off, t, k1, k2, k3⟩ := i1 (by omega) (by omega)
        obtain ⟨j1, j2⟩ := hfin off t k2 k3
        exact lv_tableIn hx hb hd (by rw [hxe]; omega) (by rw [hxe]; omega) (by rw [hxe, ← Array.getElem?_toList]; exact k1) j1 (j2 H locs lsA hR hS hL)
    next df ps len hd =>
      simp only [Bool.and_eq_true] at hk
      obtain ⟨⟨h1, h2⟩, h3⟩ := hk
      obtain ⟨t, k2, k3⟩ := chLs_in (F := fun t => eNx t ls st2 (n, e0, pp, hh)) (d := a) df h1 x _ _ h2
      obtain ⟨j1, j2⟩ := hfin _ t k2 k3
      intro H locs lsA hR hS hL
      exact lv_lookup hx hb hd h3 rfl (by rw [hxe]; exact j1) (j2 H locs lsA hR hS hL)
    · cases hk
  · cases hs
theorem sl_84 {X : eX} {pc a b k : Nat} {v : Int} {tg : List Nat} {ls st : List eV} {n e : Nat} {p : Nat → Nat → Nat} {h : Nat → Nat → Int} : eSel ewK ewL ewT X pc (84, a, b, k, v, tg) ls st (n, e, p, h) = (match st with
    | .inr (.inr (.inl x)) :: st => if a + 1 < ls.length then eNx (pc + 1) ((eSt ls a (vL x)).set (a + 1) vJ) st  (n, e, p, h) else none
    | _ => none) := rfl
theorem ck_84 {m i a b k : Nat} {v : Int} {tg : List Nat} : chk m i (84, a, b, k, v, tg) = (match ewD m i with
    | .ok (.lstore_n j, 1) => decide ((j : Nat) = a) && nxt m i 1
    | .ok (.lstore j, 2) => decide (j = a) && nxt m i 2
    | _ => false) := rfl
set_option maxHeartbeats 1000000 in
theorem op_84 (C : eCx B K dA D p l s mI args meth c m) {pc a b k : Nat} {v : Int} {tg : List Nat} {ls st ls' st' : List eV} {n e0 : Nat} {pp : Nat → Nat → Nat} {hh : Nat → Nat → Int} {μ' : eM} {pc' : Nat} (hk : chk m pc (84, a, b, k, v, tg) = true) (hw : eWf ls st (n, e0, pp, hh)) (hs : eSel ewK ewL ewT X pc (84, a, b, k, v, tg) ls st (n, e0, pp, hh) = some (.inl (pc', ls', st', μ'))) (kk : eVv B K dA D p l e R s mI args below meth c Q m (cells) (slots) pc' ls' st' μ') : eVv B K dA D p l e R s mI args below meth c Q m cells slots pc ls st (n, e0, pp, hh) := by
  obtain ⟨hx, hb, hr, hml, hown, hts, hlk, htb, hnm, hst, hB1, hK, hC⟩ := C
  rw [sl_84] at hs
  rw [ck_84] at hk
  split at hs
  next x st2 =>
    split at hs
    next hlt =>
      split at hk
      next j hd =>
        simp only [Bool.and_eq_true, decide_eq_true_eq] at hk
        obtain ⟨hj, hn⟩ := hk
        cases hs
        intro H locs lsA hR hS hL
        refine lv_lstore_n hx hb hd hj (hL.has) (by rw [← hL.2.2.1]; exact hlt) rfl (fun ls2 h2 => ?_)
        have h1 := kk H locs ls2 hR hS (hL.put2 (w := vL x) h2)
        rw [nx1 hn] at h1
        exact h1
      next j hd =>
        simp only [Bool.and_eq_true, decide_eq_true_eq] at hk
        obtain ⟨rfl, hn⟩ := hk
        cases hs
        intro H locs lsA hR hS hL
        refine lv_lstore hx hb hd (hL.has) (by rw [← hL.2.2.1]; exact hlt) rfl (fun ls2 h2 => ?_)
        have h1 := kk H locs ls2 hR hS (hL.put2 (w := vL x) h2)
        rw [nx1 hn] at h1
        exact h1
      · cases hk
    · cases hs
  · cases hs
theorem sl_6 {X : eX} {pc a b k : Nat} {v : Int} {tg : List Nat} {ls st : List eV} {n e : Nat} {p : Nat → Nat → Nat} {h : Nat → Nat → Int} : eSel ewK ewL ewT X pc (6, a, b, k, v, tg) ls st (n, e, p, h) = (match st with
    | .inl x :: [] => (match a with
      | 0 => eEd (.inl (some (vI x)))  (n, e, p, h)
      | 1 => if x = 0 ∨ x = 1 then eEd (.inl (some (vI x)))  (n, e, p, h) else none
      | _ => if 0 ≤ x ∧ x < 65536 then eEd (.inl (some (vI x)))  (n, e, p, h) else none)
    | _ => none) := rfl
theorem ck_6 {m i a b k : Nat} {v : Int} {tg : List Nat} : chk m i (6, a, b, k, v, tg) = (match ewD m i with
    | .ok (.ireturn, 1) => decide (mRt m = some (match a with | 0 => .int | 1 => .boolean | _ => .char)) && decide (a ≤ 2)
    | _ => false) := rfl
set_option maxHeartbeats 1000000 in
theorem op_6 (C : eCx B K dA D p l s mI args meth c m) {pc a b k : Nat} {v : Int} {tg : List Nat} {ls st : List eV} {n e0 : Nat} {pp : Nat → Nat → Nat} {hh : Nat → Nat → Int} {μ' : eM} {o : eO} (hk : chk m pc (6, a, b, k, v, tg) = true) (hs : eSel ewK ewL ewT X pc (6, a, b, k, v, tg) ls st (n, e0, pp, hh) = some (.inr (.inr (o, μ')))) (hmc : cells ≤ mc) (hms : slots ≤ ms) : eVv B K dA D p l e R s mI args below meth c (eQ B K dA D below args s o μ' mc ms) m cells slots pc ls st (n, e0, pp, hh) := by
  obtain ⟨hx, hb, hr, hml, hown, hts, hlk, htb, hnm, hst, hB1, hK, hC⟩ := C
  rw [sl_6] at hs
  rw [ck_6] at hk
  split at hs
  next x =>
    split at hk
    next hd =>
      simp only [Bool.and_eq_true, decide_eq_true_eq] at hk
      obtain ⟨hrt, ha⟩ := hk
      intro H locs lsA hR hS hL
      refine vx_ret (W.widen hmc hms ?_)
      have h3 : a = 0 ∨ a = 1 ∨ a = 2 := by omega
      rcases h3 with rfl | rfl | rfl
      · cases hs
        exact W.iret hx hb (by rw [hr]; exact hrt) (fun t ht hW => ⟨some (vI x), rfl, rfl, by rw [ht]; exact hR, hS.F ht⟩) hS.2.2 hd hlk
      · replace hs : (if x = 0 ∨ x = 1 then eEd (.inl (some (vI x))) (n, e0, pp, hh) else none) = some (.inr (.inr (o, μ'))) := hs
        split at hs
        next hz =>
          cases hs
          exact W.zret (ty := .boolean) hx hb (by rw [hr]; exact hrt) (na_z hz) (fun t ht hW => ⟨some (vI x), rfl, rfl, by rw [ht]; exact hR, hS.F ht⟩) hS.2.2 hd hlk
        · cases hs
      · replace hs : (if 0 ≤ x ∧ x < 65536 then eEd (.inl (some (vI x))) (n, e0, pp, hh) else none) = some (.inr (.inr (o, μ'))) := hs
        split at hs
        next hz =>
          cases hs
          exact W.zret (ty := .char) hx hb (by rw [hr]; exact hrt) (na_c hz.1 hz.2) (fun t ht hW => ⟨some (vI x), rfl, rfl, by rw [ht]; exact hR, hS.F ht⟩) hS.2.2 hd hlk
        · cases hs
    · cases hk
  · cases hs
theorem sl_17 {X : eX} {pc a b k : Nat} {v : Int} {tg : List Nat} {ls st : List eV} {n e : Nat} {p : Nat → Nat → Nat} {h : Nat → Nat → Int} : eSel ewK ewL ewT X pc (17, a, b, k, v, tg) ls st (n, e, p, h) = (match st with
    | [] => eEd (.inl none)  (n, e, p, h)
    | _ => none) := rfl
theorem ck_17 {m i a b k : Nat} {v : Int} {tg : List Nat} : chk m i (17, a, b, k, v, tg) = (match ewD m i with
    | .ok (.return_, 1) => decide (mRt m = none)
    | _ => false) := rfl
set_option maxHeartbeats 1000000 in
theorem op_17 (C : eCx B K dA D p l s mI args meth c m) {pc a b k : Nat} {v : Int} {tg : List Nat} {ls st : List eV} {n e0 : Nat} {pp : Nat → Nat → Nat} {hh : Nat → Nat → Int} {μ' : eM} {o : eO} (hk : chk m pc (17, a, b, k, v, tg) = true) (hs : eSel ewK ewL ewT X pc (17, a, b, k, v, tg) ls st (n, e0, pp, hh) = some (.inr (.inr (o, μ')))) (hmc : cells ≤ mc) (hms : slots ≤ ms) : eVv B K dA D p l e R s mI args below meth c (eQ B K dA D below args s o μ' mc ms) m cells slots pc ls st (n, e0, pp, hh) := by
  obtain ⟨hx, hb, hr, hml, hown, hts, hlk, htb, hnm, hst, hB1, hK, hC⟩ := C
  rw [sl_17] at hs
  rw [ck_17] at hk
  split at hs
  next =>
    split at hk
    next hd =>
      simp only [decide_eq_true_eq] at hk
      cases hs
      intro H locs lsA hR hS hL
      exact vx_ret (W.widen hmc hms (W.vret hx hb (by rw [hr]; exact hk) (fun t ht hW => ⟨none, rfl, rfl, by rw [ht]; exact hR, hS.F ht⟩) hS.2.2 hd hlk))
    · cases hk
  · cases hs
theorem sl_40 {X : eX} {pc a b k : Nat} {v : Int} {tg : List Nat} {ls st : List eV} {n e : Nat} {p : Nat → Nat → Nat} {h : Nat → Nat → Int} : eSel ewK ewL ewT X pc (40, a, b, k, v, tg) ls st (n, e, p, h) = (match st with
    | .inr (.inl x) :: [] => eEd (.inl (some (vR x)))  (n, e, p, h)
    | _ => none) := rfl
theorem ck_40 {m i a b k : Nat} {v : Int} {tg : List Nat} : chk m i (40, a, b, k, v, tg) = (match ewD m i with
    | .ok (.areturn, 1) => (match mRt m with | some (.object _) => true | _ => false)
    | _ => false) := rfl
set_option maxHeartbeats 1000000 in
theorem op_40 (C : eCx B K dA D p l s mI args meth c m) {pc a b k : Nat} {v : Int} {tg : List Nat} {ls st : List eV} {n e0 : Nat} {pp : Nat → Nat → Nat} {hh : Nat → Nat → Int} {μ' : eM} {o : eO} (hk : chk m pc (40, a, b, k, v, tg) = true) (hs : eSel ewK ewL ewT X pc (40, a, b, k, v, tg) ls st (n, e0, pp, hh) = some (.inr (.inr (o, μ')))) (hmc : cells ≤ mc) (hms : slots ≤ ms) : eVv B K dA D p l e R s mI args below meth c (eQ B K dA D below args s o μ' mc ms) m cells slots pc ls st (n, e0, pp, hh) := by
  obtain ⟨hx, hb, hr, hml, hown, hts, hlk, htb, hnm, hst, hB1, hK, hC⟩ := C
  rw [sl_40] at hs
  rw [ck_40] at hk
  split at hs
  next x =>
    split at hk
    next hd =>
      split at hk
      next nm hrt =>
        cases hs
        intro H locs lsA hR hS hL
        refine vx_ret (W.widen hmc hms (W.aret (v := rv B K x) hx hb (by rw [hr]; exact hrt) (Or.inl ⟨nm, rfl⟩) ?_ (fun t ht hW => ⟨some (vR x), rfl, rfl, by rw [ht]; exact hR, hS.F ht⟩) hS.2.2 hd hlk))
        by_cases h0 : x = 0
        · subst h0; exact Or.inl rfl
        · exact Or.inr (rv_ref h0)
      · cases hk
    · cases hk
  · cases hs
theorem sl_89 {X : eX} {pc a b k : Nat} {v : Int} {tg : List Nat} {ls st : List eV} {n e : Nat} {p : Nat → Nat → Nat} {h : Nat → Nat → Int} : eSel ewK ewL ewT X pc (89, a, b, k, v, tg) ls st (n, e, p, h) = (match st with
    | .inr (.inr (.inl x)) :: [] => eEd (.inl (some (vL x)))  (n, e, p, h)
    | _ => none) := rfl
theorem ck_89 {m i a b k : Nat} {v : Int} {tg : List Nat} : chk m i (89, a, b, k, v, tg) = (match ewD m i with
    | .ok (.lreturn, 1) => decide (mRt m = some .long)
    | _ => false) := rfl
set_option maxHeartbeats 1000000 in
theorem op_89 (C : eCx B K dA D p l s mI args meth c m) {pc a b k : Nat} {v : Int} {tg : List Nat} {ls st : List eV} {n e0 : Nat} {pp : Nat → Nat → Nat} {hh : Nat → Nat → Int} {μ' : eM} {o : eO} (hk : chk m pc (89, a, b, k, v, tg) = true) (hs : eSel ewK ewL ewT X pc (89, a, b, k, v, tg) ls st (n, e0, pp, hh) = some (.inr (.inr (o, μ')))) (hmc : cells ≤ mc) (hms : slots ≤ ms) : eVv B K dA D p l e R s mI args below meth c (eQ B K dA D below args s o μ' mc ms) m cells slots pc ls st (n, e0, pp, hh) := by
  obtain ⟨hx, hb, hr, hml, hown, hts, hlk, htb, hnm, hst, hB1, hK, hC⟩ := C
  rw [sl_89] at hs
  rw [ck_89] at hk
  split at hs
  next x =>
    split at hk
    next hd =>
      simp only [decide_eq_true_eq] at hk
      cases hs
      intro H locs lsA hR hS hL
      exact vx_ret (W.widen hmc hms (W.lret hx hb (by rw [hr]; exact hk) (fun t ht hW => ⟨some (vL x), rfl, rfl, by rw [ht]; exact hR, hS.F ht⟩) hS.2.2 hd hlk))
    · cases hk
  · cases hs
theorem hh_nil : ∀ m, m < m_L_dig → mHh m = [] := by decide +kernel
theorem sl_23 {X : eX} {pc a b k : Nat} {v : Int} {tg : List Nat} {ls st : List eV} {n e : Nat} {p : Nat → Nat → Nat} {h : Nat → Nat → Int} : eSel ewK ewL ewT X pc (23, a, b, k, v, tg) ls st (n, e, p, h) = (if st.length ≤ 8 then eEd (.inr a) (n, e + 1, p, h) else none) := rfl
theorem ck_23 {m i a b k : Nat} {v : Int} {tg : List Nat} : chk m i (23, a, b, k, v, tg) = (decide (9 ≤ mLv m) && decide (wd k = some (.classLink (mNm m).cls (match ewD m i with | .ok (.new ik, 3) => ik | _ => 0) (ewEx a))) && decide (1 ≤ a ∧ a ≤ 5) && decide ((mNm m).cls = "EchoWells") && decide (m < m_L_dig) && (match ewD m i with | .ok (.new _, 3) => true | _ => false) &&
      decide (decode (mBy m) (mPc m i + 3) = .ok (.dup, 1)) && decide (decode (mBy m) (mPc m i + 4) = .ok (.invokespecial (match a with | 1 => 292 | 2 => 113 | 3 => 120 | 4 => 168 | 5 => 208 | _ => 346), 3)) && decide (decode (mBy m) (mPc m i + 7) = .ok (.athrow, 1))) := rfl
set_option maxHeartbeats 1000000 in
theorem op_23 (C : eCx B K dA D p l s mI args meth c m) {pc a b k : Nat} {v : Int} {tg : List Nat} {ls st : List eV} {n e0 : Nat} {pp : Nat → Nat → Nat} {hh : Nat → Nat → Int} {μ' : eM} {o : eO} (hRf : mLv m ≤ R.frames) (hRl : 64 * mLv m ≤ R.locals) (hRc : mc ≤ R.cells) (hRs : ms ≤ R.slots) (hk : chk m pc (23, a, b, k, v, tg) = true) (hs : eSel ewK ewL ewT X pc (23, a, b, k, v, tg) ls st (n, e0, pp, hh) = some (.inr (.inr (o, μ')))) (hmc : cells + 1 ≤ mc) (hms : slots + 6 ≤ ms) : eVv B K dA D p l e R s mI args below meth c (eQ B K dA D below args s o μ' mc ms) m cells slots pc ls st (n, e0, pp, hh) := by
  obtain ⟨hx, hb, hr, hml, hown, hts, hlk, htb, hnm, hst, hB1, hK, hC⟩ := C
  rw [sl_23] at hs
  rw [ck_23] at hk
  simp only [Bool.and_eq_true, decide_eq_true_eq] at hk
  obtain ⟨⟨⟨⟨⟨⟨⟨⟨hlv, hwd⟩, ha1, ha2⟩, hcl⟩, hmd⟩, hd0⟩, hd3⟩, hd4⟩, hd7⟩ := hk
  split at hs
  next hlen =>
    cases hs
    split at hd0
    next ik hd =>
      rw [hd] at hwd
      simp only at hwd
      intro H locs lsA hR hS hL
      obtain ⟨t1, t2, t3⟩ := th_ok a ha1 ha2 _ rfl
      rw [hcl] at hown hwd
      have hcat := cat_sum (cv B K) st
      have hk4 := in4 (wd_mem hwd) rfl
      refine vx_throw0 (names := ["java/lang/RuntimeException", "java/lang/Exception"]) hx hb hst hown t1 (by decide) (hts _ hk4) (hts _ t3) (fun w hw => hts _ (t2 w hw).1) ?_ hC.1 hC.2.1 hS (by rw [hml]; exact hL.1) hd hd3 hd4 hd7 ?_ ?_ ?_ (by omega) (by omega) hlk ?_ hS.2.2 hmc hms
      · intro w hw
        rcases List.mem_cons.mp hw with rfl | hw
        · rfl
        · rcases List.mem_cons.mp hw with rfl | hw
          · rfl
          · exact (t2 w hw).2
      · rw [htb, hh_nil m hmd]
        intro x hx9
        cases hx9
      · show 2 + 3 < R.frames
        omega
      · show ((st.map (cv B K)).map fun v => v.category).sum + (13 * (2 + 1) + 42) ≤ R.locals
        omega
      · intro t hal hsz hke
        refine ⟨a, rfl, ha1, ha2, rfl, ?_, ?_, ?_⟩
        · exact va_P.kept hR (fun k x hx9 => hke x.1 ((hR k x hx9).lt))
        · exact Nat.le_trans hS.1 hsz
        · intro q hq hA
          rw [hke q (Nat.lt_of_lt_of_le hq hS.1)]
          exact hS.2.1 q hq hA
    · cases hd0
  · cases hs
end
