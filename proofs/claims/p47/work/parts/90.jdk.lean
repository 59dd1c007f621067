/-! the three methods of the library that are called on constants -/
abbrev jOrd : MethodName := ⟨"java/lang/Enum", "ordinal", "()I"⟩
abbrev jLen : MethodName := ⟨"java/lang/String", "length", "()I"⟩
abbrev jCod : MethodName := ⟨"java/lang/String", "coder", "()B"⟩
abbrev jLat : MethodName := ⟨"java/lang/String", "isLatin1", "()Z"⟩
abbrev jChr : MethodName := ⟨"java/lang/String", "charAt", "(I)C"⟩
abbrev jChl : MethodName := ⟨"java/lang/StringLatin1", "charAt", "([BI)C"⟩
abbrev jChk : MethodName := ⟨"java/lang/String", "checkIndex", "(II)V"⟩
abbrev jPre : MethodName := ⟨"jdk/internal/util/Preconditions", "checkIndex", "(IILjava/util/function/BiFunction;)I"⟩
section
variable (B : Nat) (K : Nat → Nat) (dA : Nat → ClassId) (D : va_G)
def jPc (vs : List Value) : Array Value → State → Prop := fun a st => a = vs.toArray ∧ ewI B K dA D st
def jQc (v : Option Value) : Array Value → State → Outcome → State → Prop := fun _ st o t => o = .returned v ∧ t.heap = st.heap
def jXC : String → State → State → Prop := fun _ _ _ => False
def jMt (l : Launch) (y : MethodName) (bytes : ByteArray) (maxL : Nat) (ret : Option FieldType) (fr : Nat) (vs : List Value) (v : Option Value) : Prop :=
  vx_Met l y [Cond.code y bytes maxL ret] ({ frames := fr, cells := 0, slots := 0, locals := 64 * fr } : Room) (jPc B K dA D vs) (jQc v) jXC 0 0 (eAd B)
def jCx (p : Program) (s : State) (mI : MethodId) (meth : Method) (c : Code) (y : MethodName) (bytes : ByteArray) (maxL : Nat) (ret : Option FieldType) : Prop :=
  p.tables.exec = Jvm.exec ∧ c.code = bytes ∧ meth.sig.returnType = ret ∧ c.maxLocals = maxL ∧ s.vm.findClass y.cls = some mI.cls ∧ meth.locks = false ∧ ewI B K dA D s
def jBd (l : Launch) (y : MethodName) (bytes : ByteArray) (maxL : Nat) (ret : Option FieldType) (fr : Nat) (vs : List Value) (v : Option Value) : Prop :=
  ∀ (p : Program) (e : Env) (R : Room) (s : State) (mI : MethodId) (args : Array Value) (below : List Frame) (meth : Method) (c : Code) (lsA : Array Slot), jCx B K dA D p s mI meth c y bytes maxL ret → fr ≤ R.frames → 64 * fr ≤ R.locals → lsA.size = maxL → (∀ (k : Nat) (w : Value), vs[k]? = some w → lsA[k]? = some (.val w)) →
    W p l e R s mI args below meth c s.heap [] 0 0 (vx_MQ below (jQc v) jXC args s 0 0 (eAd B)) (F0 mI 0 lsA [])
end
section
variable {B : Nat} {K : Nat → Nat} {dA : Nat → ClassId} {D : va_G} {l : Launch}
theorem jPc_blind {vs : List Value} : FrameBlind (jPc B K dA D vs) := fun _ _ _ _ h => ⟨h.1, ewI_blind h.2⟩
theorem jMt_of {y : MethodName} {bytes : ByteArray} {maxL : Nat} {ret : Option FieldType} {fr : Nat} {vs : List Value} {v : Option Value} (hpn : plainName y.cls = true) (hc1 : ∀ w ∈ vs, ¬ w.category = 2) (hl : vs.length ≤ maxL) (hb : jBd B K dA D l y bytes maxL ret fr vs v) : jMt B K dA D l y bytes maxL ret fr vs v := by
  refine vx_ofW (ws' := []) hpn rfl (fun p e s m args below meth c s₁ Bd hml ht hP => ?_)
  obtain ⟨hargs, hI⟩ := hP
  subst hargs
  refine hb p e _ s m _ below meth c (argsToLocals vs.toArray maxL) ⟨Bd.exec, Bd.bytes, Bd.returns, hml, findClass_of_methodNamed Bd.named, Bd.notSynchronized, hI⟩ (Nat.le_refl _) (Nat.le_refl _) ?_ ?_
  · rw [a2l _ _ hc1]
    simp
    omega
  · intro k w hk
    rw [a2l _ _ hc1]
    have hk2 := (List.getElem?_eq_some_iff.mp hk).1
    simp only [List.getElem?_toArray]
    rw [List.getElem?_append_left (by simpa using hk2), List.getElem?_map, hk]
    rfl
section
variable {p : Program} {e : Env} {R : Room} {s : State} {mI : MethodId} {args : Array Value} {below : List Frame} {meth : Method} {c : Code} {cells slots : Nat} {Q : State → Prop} {H : Heap} {locs : List Loc} {pc : Nat} {lsA : Array Slot} {rest : List Value}
theorem jGo {st0 : List Value} {a0 : Array Value} {v : Option Value} (hr : vx_Run p l e R s mI args below meth c H locs cells slots 0 0 (F0 mI pc lsA st0) rest (jQc v a0) jXC (eAd B)) (hS : va_S (eAd B) s.heap H locs)
    (kk : ∀ locs1, va_S (eAd B) s.heap H locs1 → W p l e R s mI args below meth c H locs1 cells slots Q (F0 mI (pc + 3) lsA (v.toList ++ rest))) : W p l e R s mI args below meth c H locs cells slots Q (F0 mI pc lsA st0) := by
  intro T hT XX
  rcases hr T hT XX with ⟨v1, st₀, t, T', L, h0, X', hL, e1, e2, hq, st⟩ | ⟨q, st₀, t, T', L, E, ce, h0, X', hL, e1, e2, hx, hce, hcv, hcl, st⟩
  · obtain ⟨hv, hh⟩ := hq
    cases hv
    obtain ⟨t2, a1, b1⟩ := kk (locs ++ L) ⟨hS.1, hS.2.1, fun z hz => (List.mem_append.mp hz).elim (hS.2.2 z) (hL z)⟩ T' (by rw [e1, hh, h0]) X'
    exact ⟨t2, st t2 a1, b1⟩
  · exact hx.elim
theorem jPre_of (hts : ∀ w ∈ ewL4, w.before args s = true) (hK : va_K D eCl (eTys dA) s) (hC : eCst B K s) (hB : B + 1 ≤ s.heap.size) (hS : va_S (eAd B) s.heap H locs) (vs : List Value) : PreS s H (jPc B K dA D vs) vs :=
  ⟨jPc_blind, fun U hU hW => ⟨rfl, ewI_moved hts hK hC hB hW (by rw [hU]; exact hS.1) (fun q h1 h2 => by rw [hU]; exact hS.2.1 q h1 h2)⟩⟩
theorem jws {y : MethodName} {bytes : ByteArray} {maxL : Nat} {ret : Option FieldType} (hts : ∀ w ∈ ewL4, w.before args s = true) (hw : Cond.code y bytes maxL ret ∈ ewL4) : ∀ w ∈ [Cond.code y bytes maxL ret], ∀ (a' : Array Value) (U : State), s.WarmedH U.vm → w.before a' U = true := by
  intro w hw2 a' U hW
  rw [List.mem_singleton] at hw2
  subst hw2
  exact word_at hW (good_of_word rfl) (hts _ hw)
theorem jcallS {own : String} {idx n : Nat} {y : MethodName} {bytes cc : ByteArray} {maxL fr : Nat} {ret : Option FieldType} {vs : List Value} {v : Option Value} (hx : p.tables.exec = Jvm.exec) (hb : c.code = cc) (hown : s.vm.findClass own = some mI.cls) (hts : ∀ w ∈ ewL4, w.before args s = true) (hK : va_K D eCl (eTys dA) s) (hC : eCst B K s) (hB : B + 1 ≤ s.heap.size) (hS : va_S (eAd B) s.heap H locs)
    (hM : jMt B K dA D l y bytes maxL ret fr vs v) (hw : Cond.code y bytes maxL ret ∈ ewL4) (hl : Cond.methodLink own idx y ∈ ewL4) (hst : Cond.static y ∈ ewL4) (hini : Cond.initialized y.cls ∈ ewL4) (hd : y.cls ≠ "java/lang/invoke/MethodHandle" ∧ y.cls ≠ "java/lang/invoke/VarHandle" ∧ (parseMethodDescriptor y.desc).map (fun d => d.parameters.length) = some n) (hn : vs.length = n)
    (hRf : fr + 1 ≤ R.frames) (hRl : 8 + (maxL + 11) + 64 * fr ≤ R.locals) (hcs : cells ≤ R.cells) (hss : slots ≤ R.slots) (hsz : lsA.size = c.maxLocals) (hcat : (rest.map fun v => v.category).sum ≤ 8) {st0 : List Value} (hst0 : st0 = vs.reverse ++ rest) (hdg : decode cc pc = .ok (.invokestatic idx, 3))
    (kk : ∀ locs1, va_S (eAd B) s.heap H locs1 → W p l e R s mI args below meth c H locs1 cells slots Q (F0 mI (pc + 3) lsA (v.toList ++ rest))) : W p l e R s mI args below meth c H locs cells slots Q (F0 mI pc lsA st0) := by
  refine jGo (a0 := vs.toArray) (vx_runS (Ts := ewL4) ⟨hx, hb, rfl, hown, hts⟩ hM ⟨⟨rfl, rfl, hRf, hRl, jws hts hw, List.mem_singleton.mpr rfl, hts _ hw, hts _ hini, ⟨hd.1, hd.2.1⟩, fun sig h => ?_, hts _ hl⟩, hts _ hst⟩ (jPre_of hts hK hC hB hS vs) rfl hn hsz hst0 (by show 2 * 0 + _ ≤ 8; omega) hdg ⟨hcs, hss⟩) hS kk
  have h2 := hd.2.2
  rw [h] at h2
  simp only [Option.map_some, Option.some.injEq] at h2
  omega
theorem jcallV {own : String} {idx n : Nat} {y : MethodName} {bytes cc : ByteArray} {maxL fr : Nat} {ret : Option FieldType} {b : Nat} {vs : List Value} {v : Option Value} (hx : p.tables.exec = Jvm.exec) (hb : c.code = cc) (hown : s.vm.findClass own = some mI.cls) (hts : ∀ w ∈ ewL4, w.before args s = true) (hK : va_K D eCl (eTys dA) s) (hC : eCst B K s) (hB : B + 1 ≤ s.heap.size) (hS : va_S (eAd B) s.heap H locs)
    (hO : va_O y.cls b (eAd B) s s.heap) (hM : jMt B K dA D l y bytes maxL ret fr (.ref b :: vs) v) (hw : Cond.code y bytes maxL ret ∈ ewL4) (hl : Cond.methodLink own idx y ∈ ewL4) (hin : Cond.instanceMethod y ∈ ewL4) (hse : Cond.selects y.cls y y ∈ ewL4) (hini : Cond.initialized y.cls ∈ ewL4) (hd : y.cls ≠ "java/lang/invoke/MethodHandle" ∧ y.cls ≠ "java/lang/invoke/VarHandle" ∧ (parseMethodDescriptor y.desc).map (fun d => d.parameters.length) = some n) (hn : vs.length = n)
    (hRf : fr + 1 ≤ R.frames) (hRl : 8 + (maxL + 11) + 64 * fr ≤ R.locals) (hcs : cells ≤ R.cells) (hss : slots ≤ R.slots) (hsz : lsA.size = c.maxLocals) (hcat : (rest.map fun v => v.category).sum ≤ 8) {st0 : List Value} (hst0 : st0 = vs.reverse ++ .ref b :: rest) (hdg : decode cc pc = .ok (.invokevirtual idx, 3))
    (kk : ∀ locs1, va_S (eAd B) s.heap H locs1 → W p l e R s mI args below meth c H locs1 cells slots Q (F0 mI (pc + 3) lsA (v.toList ++ rest))) : W p l e R s mI args below meth c H locs cells slots Q (F0 mI pc lsA st0) := by
  obtain ⟨cell, o1, o2, o3, -⟩ := hO.kept hS.2.1
  refine jGo (a0 := (.ref b :: vs).toArray) (vx_runV (Ts := ewL4) ⟨hx, hb, rfl, hown, hts⟩ hM ⟨⟨rfl, rfl, hRf, hRl, jws hts hw, List.mem_singleton.mpr rfl, hts _ hw, hts _ hini, ⟨hd.1, hd.2.1⟩, fun sig h => ?_, hts _ hl⟩, hts _ hin, hts _ hse⟩ ⟨jPc_blind, ⟨cell, o1, o2, o3⟩, (jPre_of hts hK hC hB hS (.ref b :: vs)).2⟩ rfl hn hsz hst0 (by show 2 * 0 + _ ≤ 8; omega) hdg ⟨hcs, hss⟩) hS kk
  have h2 := hd.2.2
  rw [h] at h2
  simp only [Option.map_some, Option.some.injEq] at h2
  omega
end
/-- a word by its place -/
theorem jw {j : Nat} {w : Cond} (h : wd j = some w) (hg : (goodWord w || ewBad4 w) = true) : w ∈ ewL4 := in4 (wd_mem h) hg
theorem jB_ord {i : Nat} (hi : i < 12) : jBd B K dA D l jOrd prog_23_method_2_code 1 (some .int) 0 [.ref (K (1010 + i))] (some (.int (Int32.ofNat i))) := by
  rintro p e R s mI args below meth c lsA ⟨hx, hb, hr, hml, hown, hlk, hI⟩ hRf hRl hsz hl
  obtain ⟨hN, hK, hC, hB⟩ := hI
  have hts := fun w hw => hN w hw args
  have hS : va_S (eAd B) s.heap s.heap [] := ⟨Nat.le_refl _, fun _ _ _ => rfl, fun _ h => absurd h List.not_mem_nil⟩
  have hE := (hC.2.2.2.2.2.1.1 i hi).2.2 _ List.mem_cons_self
  refine lv_aload_n hx hb (by decide +kernel : decode prog_23_method_2_code 0 = .ok (.aload_n 0, 1)) rfl (hl 0 _ rfl) ?_
  refine vk_getf hx hb hE hS hown (hts _ (jw (j := 1591) rfl rfl)) (fun _ h => h) (by decide +kernel : decode prog_23_method_2_code 1 = .ok (.getfield 7, 3)) ?_
  have hv : ((List.range 12).map Int32.ofNat).getD i 0 = Int32.ofNat i := by
    rw [List.getD_eq_getElem?_getD, List.getElem?_map, List.getElem?_range hi]
    rfl
  show W _ _ _ _ _ _ _ _ _ _ _ _ _ _ _ (F0 mI (1 + 3) lsA [.int (((List.range 12).map Int32.ofNat).getD i 0)])
  rw [hv]
  exact vx_ret (W.iret hx hb hr (fun t ht hW => ⟨rfl, ht⟩) (fun _ h => absurd h List.not_mem_nil) (by decide +kernel : decode prog_23_method_2_code 4 = .ok (.ireturn, 1)) hlk)
theorem jB_cod {j : Nat} (hj : j < 41) : jBd B K dA D l jCod prog_32_method_152_code 1 (some .byte) 0 [.ref (K (1100 + j))] (some (.int 0)) := by
  rintro p e R s mI args below meth c lsA ⟨hx, hb, hr, hml, hown, hlk, hI⟩ hRf hRl hsz hl
  obtain ⟨hN, hK, hC, hB⟩ := hI
  have hts := fun w hw => hN w hw args
  have hS : va_S (eAd B) s.heap s.heap [] := ⟨Nat.le_refl _, fun _ _ _ => rfl, fun _ h => absurd h List.not_mem_nil⟩
  obtain ⟨-, -, -, -, -, -, -, -, -, -, -, h7, h8, -⟩ := hC
  refine va_gets hx hb h8 hS hown (hts _ (jw (j := 1056) rfl rfl)) (fun _ h => h) (by decide +kernel : decode prog_32_method_152_code 0 = .ok (.getstatic 38, 3)) ?_
  refine lv_if_eq hx hb (by decide +kernel : decode prog_32_method_152_code 3 = .ok (.ifCond .eq 10, 3)) (tgt := 13) rfl (fun h => absurd h (by decide)) (fun _ => ?_)
  refine lv_aload_n hx hb (by decide +kernel : decode prog_32_method_152_code 6 = .ok (.aload_n 0, 1)) rfl (hl 0 _ rfl) ?_
  refine vk_getf hx hb (h7 j hj).2.1 hS hown (hts _ (jw (j := 1526) rfl rfl)) (fun _ h => h) (by decide +kernel : decode prog_32_method_152_code 7 = .ok (.getfield 15, 3)) ?_
  refine lv_goto hx hb (by decide +kernel : decode prog_32_method_152_code 10 = .ok (.goto 4, 3)) (tgt := 14) rfl ?_
  exact vx_ret (W.zret (ty := .byte) hx hb hr rfl (fun t ht hW => ⟨rfl, ht⟩) (fun _ h => absurd h List.not_mem_nil) (by decide +kernel : decode prog_32_method_152_code 14 = .ok (.ireturn, 1)) hlk)
theorem jB_lat {j : Nat} (hj : j < 41) : jBd B K dA D l jLat prog_32_method_154_code 1 (some .boolean) 0 [.ref (K (1100 + j))] (some (.int 1)) := by
  rintro p e R s mI args below meth c lsA ⟨hx, hb, hr, hml, hown, hlk, hI⟩ hRf hRl hsz hl
  obtain ⟨hN, hK, hC, hB⟩ := hI
  have hts := fun w hw => hN w hw args
  have hS : va_S (eAd B) s.heap s.heap [] := ⟨Nat.le_refl _, fun _ _ _ => rfl, fun _ h => absurd h List.not_mem_nil⟩
  obtain ⟨-, -, -, -, -, -, -, -, -, -, -, h7, h8, -⟩ := hC
  refine va_gets hx hb h8 hS hown (hts _ (jw (j := 1056) rfl rfl)) (fun _ h => h) (by decide +kernel : decode prog_32_method_154_code 0 = .ok (.getstatic 38, 3)) ?_
  refine lv_if_eq hx hb (by decide +kernel : decode prog_32_method_154_code 3 = .ok (.ifCond .eq 14, 3)) (tgt := 17) rfl (fun h => absurd h (by decide)) (fun _ => ?_)
  refine lv_aload_n hx hb (by decide +kernel : decode prog_32_method_154_code 6 = .ok (.aload_n 0, 1)) rfl (hl 0 _ rfl) ?_
  refine vk_getf hx hb (h7 j hj).2.1 hS hown (hts _ (jw (j := 1526) rfl rfl)) (fun _ h => h) (by decide +kernel : decode prog_32_method_154_code 7 = .ok (.getfield 15, 3)) ?_
  refine lv_if_ne hx hb (by decide +kernel : decode prog_32_method_154_code 10 = .ok (.ifCond .ne 7, 3)) (tgt := 17) rfl (fun h => absurd rfl h) (fun _ => ?_)
  refine lv_iconst hx hb (by decide +kernel : decode prog_32_method_154_code 13 = .ok (.iconst 1, 1)) (v := 1) rfl ?_
  refine lv_goto hx hb (by decide +kernel : decode prog_32_method_154_code 14 = .ok (.goto 4, 3)) (tgt := 18) rfl ?_
  exact vx_ret (W.zret (ty := .boolean) hx hb hr rfl (fun t ht hW => ⟨rfl, ht⟩) (fun _ h => absurd h List.not_mem_nil) (by decide +kernel : decode prog_32_method_154_code 18 = .ok (.ireturn, 1)) hlk)
theorem jB_len {j : Nat} (hj : j < 41) : jBd B K dA D l jLen prog_32_method_54_code 1 (some .int) 1 [.ref (K (1100 + j))] (some (.int (Int32.ofNat (ewT j).length))) := by
  rintro p e R s mI args below meth c lsA ⟨hx, hb, hr, hml, hown, hlk, hI⟩ hRf hRl hsz hl
  obtain ⟨hN, hK, hC, hB⟩ := hI
  have hts := fun w hw => hN w hw args
  have hS : va_S (eAd B) s.heap s.heap [] := ⟨Nat.le_refl _, fun _ _ _ => rfl, fun _ h => absurd h List.not_mem_nil⟩
  obtain ⟨o1, o2, o3, o4⟩ := hC.2.2.2.2.2.2.2.2.2.2.2.1 j hj
  have hM := jMt_of (l := l) (by decide) (by intro w hw; rw [List.mem_singleton] at hw; subst hw; simp [Value.category]) (Nat.le_refl 1) (jB_cod (B := B) (K := K) (dA := dA) (D := D) (l := l) hj)
  refine lv_aload_n hx hb (by decide +kernel : decode prog_32_method_54_code 0 = .ok (.aload_n 0, 1)) rfl (hl 0 _ rfl) ?_
  refine vk_getf hx hb o3 hS hown (hts _ (jw (j := 1525) rfl rfl)) (fun _ h => h) (by decide +kernel : decode prog_32_method_54_code 1 = .ok (.getfield 9, 3)) ?_
  refine va_tlen hx hb o4 hS rfl (by decide +kernel : decode prog_32_method_54_code 4 = .ok (.arraylength, 1)) ?_
  refine lv_aload_n hx hb (by decide +kernel : decode prog_32_method_54_code 5 = .ok (.aload_n 0, 1)) rfl (hl 0 _ rfl) ?_
  refine jcallV (vs := []) (n := 0) (own := "java/lang/String") (idx := 335) (rest := [.int (Int32.ofNat (ewT j).length)]) hx hb hown hts hK hC hB hS o1 hM (jw (j := 1055) rfl rfl) (jw (j := 1052) rfl rfl) (jw (j := 1053) rfl rfl) (jw (j := 1054) rfl rfl) (jw (j := 23) rfl rfl) (by decide) rfl (by omega) (by omega) (by omega) (by omega) (by rw [hml]; exact hsz) (by simp [Value.category]) rfl (by decide +kernel : decode prog_32_method_54_code 6 = .ok (.invokevirtual 335, 3)) (fun locs1 hS1 => ?_)
  refine lv_ishr hx hb (by decide +kernel : decode prog_32_method_54_code 9 = .ok (.ishr, 1)) ?_
  have hs0 : Int32.ofNat (ewT j).length >>> ((0 : Int32) &&& 31) = Int32.ofNat (ewT j).length := sc_shr0 (by have := (ewT_in j 0).2; omega)
  rw [hs0]
  exact vx_ret (W.iret hx hb hr (fun t ht hW => ⟨rfl, ht⟩) hS1.2.2 (by decide +kernel : decode prog_32_method_54_code 10 = .ok (.ireturn, 1)) hlk)
theorem jB_pre {i n : Int} {w : Value} (hi : inR i) (hn : inR n) (h0 : 0 ≤ i) (h1 : i < n) : jBd B K dA D l jPre prog_44_method_11_code 3 (some .int) 0 [.int (Int32.ofInt i), .int (Int32.ofInt n), w] (some (.int (Int32.ofInt i))) := by
  rintro p e R s mI args below meth c lsA ⟨hx, hb, hr, hml, hown, hlk, hI⟩ hRf hRl hsz hl
  refine lv_iload_n hx hb (by decide +kernel : decode prog_44_method_11_code 0 = .ok (.iload_n 0, 1)) rfl (hl 0 _ rfl) ?_
  refine lv_if_lt hx hb (by decide +kernel : decode prog_44_method_11_code 1 = .ok (.ifCond .lt 8, 3)) (tgt := 9) rfl (fun h => absurd h (by rw [← oI_zero, oI_lt hi in0]; omega)) (fun _ => ?_)
  refine lv_iload_n hx hb (by decide +kernel : decode prog_44_method_11_code 4 = .ok (.iload_n 0, 1)) rfl (hl 0 _ rfl) ?_
  refine lv_iload_n hx hb (by decide +kernel : decode prog_44_method_11_code 5 = .ok (.iload_n 1, 1)) rfl (hl 1 _ rfl) ?_
  refine lv_icmp_lt hx hb (by decide +kernel : decode prog_44_method_11_code 6 = .ok (.if_icmp .lt 10, 3)) (tgt := 16) rfl (fun _ => ?_) (fun h => absurd ((oI_lt hi hn).mpr h1) h)
  refine lv_iload_n hx hb (by decide +kernel : decode prog_44_method_11_code 16 = .ok (.iload_n 0, 1)) rfl (hl 0 _ rfl) ?_
  exact vx_ret (W.iret hx hb hr (fun t ht hW => ⟨rfl, ht⟩) (fun _ h => absurd h List.not_mem_nil) (by decide +kernel : decode prog_44_method_11_code 17 = .ok (.ireturn, 1)) hlk)
theorem jB_chk {i n : Int} (hi : inR i) (hn : inR n) (h0 : 0 ≤ i) (h1 : i < n) : jBd B K dA D l jChk prog_32_method_155_code 2 none 1 [.int (Int32.ofInt i), .int (Int32.ofInt n)] none := by
  rintro p e R s mI args below meth c lsA ⟨hx, hb, hr, hml, hown, hlk, hI⟩ hRf hRl hsz hl
  obtain ⟨hN, hK, hC, hB⟩ := hI
  have hts := fun w hw => hN w hw args
  have hS : va_S (eAd B) s.heap s.heap [] := ⟨Nat.le_refl _, fun _ _ _ => rfl, fun _ h => absurd h List.not_mem_nil⟩
  have hZ : ∃ w : Value, w.category = 1 ∧ va_Z "jdk/internal/util/Preconditions" "SIOOBE_FORMATTER" "Ljava/util/function/BiFunction;" w (eAd B) s s.heap := by
    rcases hC.2.2.2.2.2.2.2.2.2.2.2.2.2.1 with h | ⟨t, h⟩
    · exact ⟨_, rfl, h⟩
    · exact ⟨_, rfl, h⟩
  obtain ⟨w, hw1, hZ⟩ := hZ
  have hM := jMt_of (l := l) (by decide) (by intro v hv; simp only [List.mem_cons, List.not_mem_nil, or_false] at hv; rcases hv with rfl | rfl | rfl <;> first | (rw [hw1]; decide) | simp [Value.category]) (by simp) (jB_pre (B := B) (K := K) (dA := dA) (D := D) (l := l) (w := w) hi hn h0 h1)
  refine lv_iload_n hx hb (by decide +kernel : decode prog_32_method_155_code 0 = .ok (.iload_n 0, 1)) rfl (hl 0 _ rfl) ?_
  refine lv_iload_n hx hb (by decide +kernel : decode prog_32_method_155_code 1 = .ok (.iload_n 1, 1)) rfl (hl 1 _ rfl) ?_
  refine va_gets hx hb hZ hS hown (hts _ (jw (j := 1072) rfl rfl)) (fun _ h => h) (by decide +kernel : decode prog_32_method_155_code 2 = .ok (.getstatic 1053, 3)) ?_
  refine jcallS (n := 3) (own := "java/lang/String") (idx := 1059) (rest := []) hx hb hown hts hK hC hB hS hM (jw (j := 1076) rfl rfl) (jw (j := 1074) rfl rfl) (jw (j := 1075) rfl rfl) (jw (j := 26) rfl rfl) (by decide) rfl (by omega) (by omega) (by omega) (by omega) (by rw [hml]; exact hsz) (by simp) rfl (by decide +kernel : decode prog_32_method_155_code 5 = .ok (.invokestatic 1059, 3)) (fun locs1 hS1 => ?_)
  refine lv_pop hx hb (by decide +kernel : decode prog_32_method_155_code 8 = .ok (.pop, 1)) rfl ?_
  exact vx_ret (W.vret hx hb hr (fun t ht hW => ⟨rfl, ht⟩) hS1.2.2 (by decide +kernel : decode prog_32_method_155_code 9 = .ok (.return_, 1)) hlk)
theorem ch_ok : ∀ r ∈ ewTx, ∀ b ∈ r, ((Int32.ofInt b &&& 255).toUInt32 % 65536).toInt32 = Int32.ofInt b ∧ 0 ≤ b ∧ b < 65536 := by decide +kernel
theorem ewT_mem {j i : Nat} (h : i < (ewT j).length) : ∃ r ∈ ewTx, (ewT j).getD i 0 ∈ r := by
  have hj : j < ewTx.length := by
    rcases Nat.lt_or_ge j ewTx.length with q | q
    · exact q
    · exfalso
      unfold ewT at h
      rw [List.getD_eq_getElem?_getD, List.getElem?_eq_none q] at h
      simp at h
  refine ⟨ewT j, ?_, ?_⟩
  · unfold ewT
    rw [List.getD_eq_getElem?_getD, List.getElem?_eq_getElem hj]
    exact List.getElem_mem hj
  · rw [List.getD_eq_getElem?_getD, List.getElem?_eq_getElem h]
    exact List.getElem_mem h
theorem jB_chl {j i : Nat} (hj : j < 41) (hi : i < (ewT j).length) : jBd B K dA D l jChl prog_34_method_2_code 2 (some .char) 2 [.ref (K (1200 + j)), .int (Int32.ofInt (i : Int))] (some (.int (Int32.ofInt ((ewT j).getD i 0)))) := by
  rintro p e R s mI args below meth c lsA ⟨hx, hb, hr, hml, hown, hlk, hI⟩ hRf hRl hsz hl
  have hT := (hI.2.2.1.2.2.2.2.2.2.2.2.2.2.2.1 j hj).2.2.2
  obtain ⟨hN, hK, hC, hB⟩ := hI
  have hts := fun w hw => hN w hw args
  have hS : va_S (eAd B) s.heap s.heap [] := ⟨Nat.le_refl _, fun _ _ _ => rfl, fun _ h => absurd h List.not_mem_nil⟩
  have hl9 := (ewT_in j 0).2
  have hiR : inR (i : Int) := by unfold inR; omega
  have hnR := ewT_l j
  have hM := jMt_of (l := l) (by decide) (by intro v hv; simp only [List.mem_cons, List.not_mem_nil, or_false] at hv; rcases hv with rfl | rfl <;> simp [Value.category]) (by simp) (jB_chk (B := B) (K := K) (dA := dA) (D := D) (l := l) hiR hnR (by omega) (by omega))
  refine lv_iload_n hx hb (by decide +kernel : decode prog_34_method_2_code 0 = .ok (.iload_n 1, 1)) rfl (hl 1 _ rfl) ?_
  refine lv_aload_n hx hb (by decide +kernel : decode prog_34_method_2_code 1 = .ok (.aload_n 0, 1)) rfl (hl 0 _ rfl) ?_
  refine va_tlen hx hb hT hS (v := Int32.ofInt ((ewT j).length : Int)) rfl (by decide +kernel : decode prog_34_method_2_code 2 = .ok (.arraylength, 1)) ?_
  refine jcallS (n := 2) (own := "java/lang/StringLatin1") (idx := 9) (rest := []) hx hb hown hts hK hC hB hS hM (jw (j := 1071) rfl rfl) (jw (j := 1069) rfl rfl) (jw (j := 1070) rfl rfl) (jw (j := 23) rfl rfl) (by decide) rfl (by omega) (by omega) (by omega) (by omega) (by rw [hml]; exact hsz) (by simp) rfl (by decide +kernel : decode prog_34_method_2_code 3 = .ok (.invokestatic 9, 3)) (fun locs1 hS1 => ?_)
  refine lv_aload_n hx hb (by decide +kernel : decode prog_34_method_2_code 6 = .ok (.aload_n 0, 1)) rfl (hl 0 _ rfl) ?_
  refine lv_iload_n hx hb (by decide +kernel : decode prog_34_method_2_code 7 = .ok (.iload_n 1, 1)) rfl (hl 1 _ rfl) ?_
  refine va_tb hx hb hT hS1 (oI_vp hiR (by omega) (by omega)) (v := .int (Int32.ofInt ((ewT j).getD i 0))) (by rw [oI_clamp hiR]; rfl) (by decide +kernel : decode prog_34_method_2_code 8 = .ok (.baload, 1)) ?_
  refine lv_sipush hx hb (by decide +kernel : decode prog_34_method_2_code 9 = .ok (.sipush 255, 3)) (v := 255) rfl ?_
  refine lv_iand hx hb (by decide +kernel : decode prog_34_method_2_code 12 = .ok (.iand, 1)) ?_
  obtain ⟨r, hr1, hr2⟩ := ewT_mem hi
  obtain ⟨k1, k2, k3⟩ := ch_ok r hr1 _ hr2
  refine lv_i2c hx hb (by decide +kernel : decode prog_34_method_2_code 13 = .ok (.i2c, 1)) k1 ?_
  exact vx_ret (W.zret (ty := .char) hx hb hr (na_c k2 k3) (fun t ht hW => ⟨rfl, ht⟩) hS1.2.2 (by decide +kernel : decode prog_34_method_2_code 14 = .ok (.ireturn, 1)) hlk)
theorem jB_chr {j i : Nat} (hj : j < 41) (hi : i < (ewT j).length) : jBd B K dA D l jChr prog_32_method_56_code 2 (some .char) 3 [.ref (K (1100 + j)), .int (Int32.ofInt (i : Int))] (some (.int (Int32.ofInt ((ewT j).getD i 0)))) := by
  rintro p e R s mI args below meth c lsA ⟨hx, hb, hr, hml, hown, hlk, hI⟩ hRf hRl hsz hl
  obtain ⟨hN, hK, hC, hB⟩ := hI
  have hts := fun w hw => hN w hw args
  have hS : va_S (eAd B) s.heap s.heap [] := ⟨Nat.le_refl _, fun _ _ _ => rfl, fun _ h => absurd h List.not_mem_nil⟩
  obtain ⟨o1, o2, o3, o4⟩ := hC.2.2.2.2.2.2.2.2.2.2.2.1 j hj
  have hM := jMt_of (l := l) (by decide) (by intro w hw; rw [List.mem_singleton] at hw; subst hw; simp [Value.category]) (Nat.le_refl 1) (jB_lat (B := B) (K := K) (dA := dA) (D := D) (l := l) hj)
  have hM2 := jMt_of (l := l) (by decide) (by intro v hv; simp only [List.mem_cons, List.not_mem_nil, or_false] at hv; rcases hv with rfl | rfl <;> simp [Value.category]) (Nat.le_refl 2) (jB_chl (B := B) (K := K) (dA := dA) (D := D) (l := l) hj hi)
  refine lv_aload_n hx hb (by decide +kernel : decode prog_32_method_56_code 0 = .ok (.aload_n 0, 1)) rfl (hl 0 _ rfl) ?_
  refine jcallV (vs := []) (n := 0) (own := "java/lang/String") (idx := 492) (rest := []) hx hb hown hts hK hC hB hS o1 hM (jw (j := 1065) rfl rfl) (jw (j := 1062) rfl rfl) (jw (j := 1063) rfl rfl) (jw (j := 1064) rfl rfl) (jw (j := 23) rfl rfl) (by decide) rfl (by omega) (by omega) (by omega) (by omega) (by rw [hml]; exact hsz) (by simp) rfl (by decide +kernel : decode prog_32_method_56_code 1 = .ok (.invokevirtual 492, 3)) (fun locs1 hS1 => ?_)
  refine lv_if_eq hx hb (by decide +kernel : decode prog_32_method_56_code 4 = .ok (.ifCond .eq 12, 3)) (tgt := 16) rfl (fun h => absurd h (by decide)) (fun _ => ?_)
  refine lv_aload_n hx hb (by decide +kernel : decode prog_32_method_56_code 7 = .ok (.aload_n 0, 1)) rfl (hl 0 _ rfl) ?_
  refine vk_getf hx hb o3 hS1 hown (hts _ (jw (j := 1525) rfl rfl)) (fun _ h => h) (by decide +kernel : decode prog_32_method_56_code 8 = .ok (.getfield 9, 3)) ?_
  refine lv_iload_n hx hb (by decide +kernel : decode prog_32_method_56_code 11 = .ok (.iload_n 1, 1)) rfl (hl 1 _ rfl) ?_
  refine jcallS (n := 2) (own := "java/lang/String") (idx := 495) (rest := []) hx hb hown hts hK hC hB hS1 hM2 (jw (j := 1068) rfl rfl) (jw (j := 1066) rfl rfl) (jw (j := 1067) rfl rfl) (jw (j := 25) rfl rfl) (by decide) rfl (by omega) (by omega) (by omega) (by omega) (by rw [hml]; exact hsz) (by simp) rfl (by decide +kernel : decode prog_32_method_56_code 12 = .ok (.invokestatic 495, 3)) (fun locs2 hS2 => ?_)
  obtain ⟨r, hr1, hr2⟩ := ewT_mem hi
  obtain ⟨k1, k2, k3⟩ := ch_ok r hr1 _ hr2
  exact vx_ret (W.zret (ty := .char) hx hb hr (na_c k2 k3) (fun t ht hW => ⟨rfl, ht⟩) hS2.2.2 (by decide +kernel : decode prog_32_method_56_code 15 = .ok (.ireturn, 1)) hlk)
end
section
variable {B : Nat} {K : Nat → Nat} {dA : Nat → ClassId} {D : va_G} {X : eX}
variable {p : Program} {l : Launch} {e : Env} {R : Room} {s : State} {mI : MethodId} {args : Array Value} {below : List Frame} {meth : Method} {c : Code} {cells slots mc ms : Nat} {Q : State → Prop} {m : Nat}
theorem cat8 {st : List eV} (h : st.length ≤ 8) : ((st.map (cv B K)).map fun v => v.category).sum ≤ 16 := by
  have := cat_sum (cv B K) st
  omega
set_option maxHeartbeats 1000000 in
theorem op_75 (C : eCx B K dA D p l s mI args meth c m) {pc a b k : Nat} {v : Int} {tg : List Nat} {ls st ls' st' : List eV} {n e0 : Nat} {pp : Nat → Nat → Nat} {hh : Nat → Nat → Int} {μ' : eM} {pc' : Nat} (hRf : mLv m ≤ R.frames) (hRl : 64 * mLv m ≤ R.locals) (hcs : cells ≤ R.cells) (hss : slots ≤ R.slots) (hk : chk m pc (75, a, b, k, v, tg) = true) (hw : eWf ls st (n, e0, pp, hh)) (hs : eSel ewK ewL ewT X pc (75, a, b, k, v, tg) ls st (n, e0, pp, hh) = some (.inl (pc', ls', st', μ'))) (kk : eVv B K dA D p l e R s mI args below meth c Q m (cells) (slots) pc' ls' st' μ') : eVv B K dA D p l e R s mI args below meth c Q m cells slots pc ls st (n, e0, pp, hh) := by
  obtain ⟨hx, hb, hr, hml, hown, hts, hlk, htb, hnm, hst, hB1, hK, hC⟩ := C
  rw [sl_75] at hs
  rw [ck_75] at hk
  split at hs
  next x st2 =>
    split at hs
    next hlen =>
      split at hs
      next hg =>
        split at hk
        next idx hd =>
          simp only [Bool.and_eq_true, decide_eq_true_eq] at hk
          obtain ⟨⟨hn, hlv⟩, hwd⟩ := hk
          cases hs
          have hj : x - 1100 < 41 := by omega
          intro H locs lsA hR hS hL
          have hM := jMt_of (l := l) (by decide) (by intro w hw; rw [List.mem_singleton] at hw; subst hw; simp [Value.category]) (Nat.le_refl 1) (jB_len (B := B) (K := K) (dA := dA) (D := D) (l := l) hj)
          have hO := (hC.2.2.2.2.2.2.2.2.2.2.2.1 (x - 1100) hj).1
          show W p l e R s mI args below meth c H locs cells slots Q (F0 mI (mPc m pc) lsA (rv B K x :: st2.map (cv B K)))
          have hxe : 1100 + (x - 1100) = x := by omega
          rw [hxe] at hM hO
          rw [rv_big (by omega)]
          refine jcallV (vs := []) (n := 0) (rest := st2.map (cv B K)) hx hb hown hts hK hC hB1 hS hO hM (jw (j := 1051) rfl rfl) (in4 (wd_mem hwd) rfl) (jw (j := 1049) rfl rfl) (jw (j := 1050) rfl rfl) (jw (j := 23) rfl rfl) (by decide) rfl (by omega) (by omega) hcs hss (by rw [hml]; exact hL.1) (Nat.le_trans (wt_sum st2) hlen) rfl hd (fun locs1 hS1 => ?_)
          have h1 := kk H locs1 lsA hR hS1 hL
          rw [nx1 hn] at h1
          exact h1
        · cases hk
      · cases hs
    · cases hs
  · cases hs
set_option maxHeartbeats 1000000 in
theorem op_76 (C : eCx B K dA D p l s mI args meth c m) {pc a b k : Nat} {v : Int} {tg : List Nat} {ls st ls' st' : List eV} {n e0 : Nat} {pp : Nat → Nat → Nat} {hh : Nat → Nat → Int} {μ' : eM} {pc' : Nat} (hRf : mLv m ≤ R.frames) (hRl : 64 * mLv m ≤ R.locals) (hcs : cells ≤ R.cells) (hss : slots ≤ R.slots) (hk : chk m pc (76, a, b, k, v, tg) = true) (hw : eWf ls st (n, e0, pp, hh)) (hs : eSel ewK ewL ewT X pc (76, a, b, k, v, tg) ls st (n, e0, pp, hh) = some (.inl (pc', ls', st', μ'))) (kk : eVv B K dA D p l e R s mI args below meth c Q m (cells) (slots) pc' ls' st' μ') : eVv B K dA D p l e R s mI args below meth c Q m cells slots pc ls st (n, e0, pp, hh) := by
  obtain ⟨hx, hb, hr, hml, hown, hts, hlk, htb, hnm, hst, hB1, hK, hC⟩ := C
  rw [sl_76] at hs
  rw [ck_76] at hk
  split at hs
  next jj x st2 =>
    have w1 : inR jj := hw.2.1 _ List.mem_cons_self
    split at hs
    next hlen =>
      split at hs
      next hg =>
        obtain ⟨g1, g2, g3, g4⟩ := hg
        split at hk
        next idx hd =>
          simp only [Bool.and_eq_true, decide_eq_true_eq] at hk
          obtain ⟨⟨hn, hlv⟩, hwd⟩ := hk
          cases hs
          have hj : x - 1100 < 41 := by omega
          have hi : jj.toNat < (ewT (x - 1100)).length := by omega
          intro H locs lsA hR hS hL
          have hM := jMt_of (l := l) (by decide) (by intro v hv; simp only [List.mem_cons, List.not_mem_nil, or_false] at hv; rcases hv with rfl | rfl <;> simp [Value.category]) (Nat.le_refl 2) (jB_chr (B := B) (K := K) (dA := dA) (D := D) (l := l) hj hi)
          have hO := (hC.2.2.2.2.2.2.2.2.2.2.2.1 (x - 1100) hj).1
          show W p l e R s mI args below meth c H locs cells slots Q (F0 mI (mPc m pc) lsA (.int (Int32.ofInt jj) :: rv B K x :: st2.map (cv B K)))
          have hxe : 1100 + (x - 1100) = x := by omega
          rw [hxe] at hM hO
          rw [show ((jj.toNat : Nat) : Int) = jj by omega] at hM
          rw [rv_big (by omega)]
          refine jcallV (vs := [.int (Int32.ofInt jj)]) (n := 1) (rest := st2.map (cv B K)) hx hb hown hts hK hC hB1 hS hO hM (jw (j := 1061) rfl rfl) (in4 (wd_mem hwd) rfl) (jw (j := 1059) rfl rfl) (jw (j := 1060) rfl rfl) (jw (j := 23) rfl rfl) (by decide) rfl (by omega) (by omega) hcs hss (by rw [hml]; exact hL.1) (Nat.le_trans (wt_sum st2) hlen) rfl hd (fun locs1 hS1 => ?_)
          have h1 := kk H locs1 lsA hR hS1 hL
          rw [nx1 hn] at h1
          exact h1
        · cases hk
      · cases hs
    · cases hs
  · cases hs
set_option maxHeartbeats 1000000 in
theorem op_73 (C : eCx B K dA D p l s mI args meth c m) {pc a b k : Nat} {v : Int} {tg : List Nat} {ls st ls' st' : List eV} {n e0 : Nat} {pp : Nat → Nat → Nat} {hh : Nat → Nat → Int} {μ' : eM} {pc' : Nat} (hRf : mLv m ≤ R.frames) (hRl : 64 * mLv m ≤ R.locals) (hcs : cells ≤ R.cells) (hss : slots ≤ R.slots) (hk : chk m pc (73, a, b, k, v, tg) = true) (hw : eWf ls st (n, e0, pp, hh)) (hs : eSel ewK ewL ewT X pc (73, a, b, k, v, tg) ls st (n, e0, pp, hh) = some (.inl (pc', ls', st', μ'))) (kk : eVv B K dA D p l e R s mI args below meth c Q m (cells) (slots) pc' ls' st' μ') : eVv B K dA D p l e R s mI args below meth c Q m cells slots pc ls st (n, e0, pp, hh) := by
  obtain ⟨hx, hb, hr, hml, hown, hts, hlk, htb, hnm, hst, hB1, hK, hC⟩ := C
  rw [sl_73] at hs
  rw [ck_73] at hk
  split at hs
  next x st2 =>
    split at hs
    next hlen =>
      split at hs
      next hg =>
        split at hk
        next idx hd =>
          simp only [Bool.and_eq_true, decide_eq_true_eq] at hk
          obtain ⟨⟨hn, hlv⟩, hwd⟩ := hk
          cases hs
          have hj : x - 1010 < 12 := by omega
          intro H locs lsA hR hS hL
          have hM := jMt_of (l := l) (by decide) (by intro w hw; rw [List.mem_singleton] at hw; subst hw; simp [Value.category]) (Nat.le_refl 1) (jB_ord (B := B) (K := K) (dA := dA) (D := D) (l := l) hj)
          have hO := (hC.2.2.2.2.2.1.1 (x - 1010) hj).2.1
          show W p l e R s mI args below meth c H locs cells slots Q (F0 mI (mPc m pc) lsA (rv B K x :: st2.map (cv B K)))
          have hxe : 1010 + (x - 1010) = x := by omega
          have hO2 : va_O "EchoWells$Order" (K (1010 + (x - 1010))) (eAd B) s s.heap := hO
          rw [hxe] at hM hO2
          rw [rv_big (by omega)]
          obtain ⟨cell, o1, o2, o3, -⟩ := hO2.kept hS.2.1
          have hio : (Cond.instanceMethod jOrd).before args s = true := hts _ (jw (j := 466) rfl rfl)
          have hco : (Cond.code jOrd prog_23_method_2_code 1 (some .int)).before args s = true := hts _ (jw (j := 467) rfl rfl)
          refine jGo (a0 := (Value.ref (K x) :: []).toArray) (vx_runU (Ts := ewL4) (As := []) (C := "EchoWells$Order") (owner := "java/lang/Enum") (n := 0) ⟨hx, hb, rfl, hown, hts⟩ hM ⟨⟨rfl, rfl, by show 0 + 1 ≤ _; omega, by show 8 + (1 + 11) + 64 * 0 ≤ _; omega, jws hts (jw (j := 467) rfl rfl), List.mem_singleton.mpr rfl⟩, hco, hts _ (jw (j := 12) rfl rfl), by decide, fun sig h => ?_, hts _ (in4 (wd_mem hwd) rfl), hts _ (jw (j := 463) rfl rfl), va_Decl.of hio hco, hts _ (jw (j := 465) rfl rfl), hio⟩ ⟨jPc_blind, ⟨cell, o1, o2, o3⟩, (jPre_of hts hK hC hB1 hS [Value.ref (K x)]).2⟩ rfl rfl (by rw [hml]; exact hL.1) rfl (by have := wt_sum (B := B) (K := K) st2; show 2 * 0 + ((st2.map (cv B K)).map fun v => v.category).sum ≤ 8; omega) hd ⟨hcs, hss⟩) hS (fun locs1 hS1 => ?_)
          · have h9 : (parseMethodDescriptor "()I").map (fun d => d.parameters.length) = some 0 := by decide
            have h8 : parseMethodDescriptor "()I" = some sig := h
            rw [h8] at h9
            simp only [Option.map_some, Option.some.injEq] at h9
            omega
          · have h1 := kk H locs1 lsA hR hS1 hL
            rw [nx1 hn] at h1
            have h2 : W p l e R s mI args below meth c H locs1 cells slots Q (F0 mI (mPc m pc + 3) lsA (.int (Int32.ofInt ((x : Int) - 1010)) :: st2.map (cv B K))) := h1
            rw [show (x : Int) - 1010 = ((x - 1010 : Nat) : Int) by omega] at h2
            exact h2
        · cases hk
      · cases hs
    · cases hs
  · cases hs
end
