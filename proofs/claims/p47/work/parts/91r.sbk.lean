/-! ===== BEGIN super.m(..) that may throw (follows va_callSU, va_runSU) ===== -/
section
variable {p : Program} {l : Launch} {e : Env} {R : Room} {s : State} {m : MethodId} {args : Array Value} {below : List Frame} {meth : Method} {c : Code} {H : Heap} {locs : List Loc} {cells slots : Nat}
theorem vx_callSU {T : State} {locs : List Loc} {cells slots : Nat} (X : Stand p l e R s m args below meth c T locs cells slots) (hexec : p.tables.exec = Jvm.exec) {own : String} {index : Nat} {y : MethodName} {bytes : ByteArray} {maxL : Nat} {ret : Option FieldType}
    (hown : s.vm.findClass own = some m.cls) (hlink : (Cond.methodLink own index y).before args s = true) (hsame : (Cond.sameMethod y.cls y.cls y.name y.desc).before args s = true) (hsup : (Cond.superclass own y.cls).before args s = true)
    (hinst : (Cond.instanceMethod y).before args s = true) (hcode : (Cond.code y bytes maxL ret).before args s = true) (hno : y.name ≠ "<init>")
    {W : Nat} {Pre : Pt → Array Value → Prop} {Post : Pt → Array Value → Option Value → Pt → Prop} {PostX : Pt → Array Value → Addr → Pt → Prop} (hK : vx_Back l R p e below s args y 3 W Pre Post PostX)
    {b : Addr} {cellB : Cell} {kB : Class} (hcell : T.heap[b]? = some cellB) (hobj : cellB.vm.isStatics = false) (hkB : s.vm.classes[cellB.cls]? = some kB)
    {g : JFrame} (hg : g.method = m) (hsize : g.locals.size = c.maxLocals) {argsL rest : List Value} (hlen : ∀ sig, parseMethodDescriptor y.desc = some sig → argsL.length = sig.parameters.length)
    (hstack : g.stack = argsL.reverse ++ .ref b :: rest) (hW : 2 * g.monitorRoom + (rest.map fun v => v.category).sum ≤ W) (hdg : decode c.code g.pc = .ok (.invokespecial index, 3))
    (hpre : ∀ vm₁, s.WarmedH vm₁ → Pre ⟨T.setVm vm₁, locs, cells, slots⟩ (Value.ref b :: argsL).toArray) :
    (∃ (v : Option Value) (vm₁ : Vm) (B : Pt), s.WarmedH vm₁ ∧ Stand p l e R s m args below meth c B.U B.locs B.cells B.slots ∧ Post ⟨T.setVm vm₁, locs, cells, slots⟩ (Value.ref b :: argsL).toArray v B ∧
      ∀ target, Steps p.tables e below (B.U.setTop { g with pc := g.pc + 3, stack := v.toList ++ rest }) target → Steps p.tables e below (T.setTop g) target) ∨
    (∃ (q : Addr) (vm₁ : Vm) (B : Pt), s.WarmedH vm₁ ∧ Stand p l e R s m args below meth c B.U B.locs B.cells B.slots ∧ PostX ⟨T.setVm vm₁, locs, cells, slots⟩ (Value.ref b :: argsL).toArray q B ∧
      Steps p.tables e below (T.setTop g) ((B.U.setTop { g with stack := rest }).pushFrame (.throwing q))) := by
  obtain ⟨mk, methM, hnamed, hmethM, hstM, habM⟩ := Cond.instanceMethod_spec hinst
  obtain ⟨methM', cM, hmethM', -, -, -, -, -, -, hsigM⟩ := Cond.code_spec hnamed hcode
  cases hmethM.symm.trans hmethM'
  obtain ⟨ps, dk, kp, hps, hdk, hkp, hsuper, -, -, hnid⟩ := Cond.superclass_spec hown hsup
  have hn : s.methodNamed? ⟨y.cls, y.name, y.desc⟩ = some mk := hnamed
  have hpm : ps = mk.cls := Option.some.inj (hps.symm.trans (findClass_of_methodNamed hnamed))
  have hsub : s.vm.isSubclass ps mk.cls = true := by rw [hpm]; simp [Vm.isSubclass, Vm.isSubclassAux]
  obtain ⟨vm₁, X₁, hstep₁⟩ := X.invokespecialUp hexec hown hlink hsame hn hmethM hstM habM hno hdk hnid hps hsuper hsub (a := b) (cell := cellB) hcell
    (fun z h => by rw [h] at hobj; cases hobj) hkB (g := g) hg (argsL := argsL) (rest := rest) (hlen _ hsigM) hstack hdg
  rcases hK m meth c ⟨T.setVm vm₁, locs, cells, slots⟩ { g with stack := rest } (.invokespecial index) mk (Value.ref b :: argsL).toArray X₁ hg hsize hdg hW (X₁.named hnamed) (hpre vm₁ X₁.warmed) with ⟨v, B, X', hpost, hsteps⟩ | ⟨q, B, X', hpost, hsteps⟩
  · exact Or.inl ⟨v, vm₁, B, X₁.warmed, X', hpost, fun target h => hstep₁ _ (by rw [doInvoke_state]; exact hsteps.trans h)⟩
  · exact Or.inr ⟨q, vm₁, B, X₁.warmed, X', hpost, hstep₁ _ (by rw [doInvoke_state]; exact hsteps)⟩
theorem vx_runSU {y : MethodName} {bytes cc : ByteArray} {maxL nL mc ms n index : Nat} {ret : Option FieldType} {ws : List Cond} {rm : Room} {Pc : Array Value → State → Prop} {Qc : Array Value → State → Outcome → State → Prop} {XC : String → State → State → Prop} {free : Addr → Prop} {Ts : List Cond} {own C : String} {cC : ClassId} {b : Addr} {As rest : List Value} {g : JFrame}
    (hat : ClassAt s C cC) (S : CallFix p m c cc nL s args Ts own) (hM : vx_Met l y ws rm Pc Qc XC mc ms free) (cw : va_CS R s args own index y bytes maxL ret ws rm mc ms n) (hp : PreV s H C b Pc As)
    (hg : g.method = m) (hn : As.length = n) (hsize : g.locals.size = nL) (hstack : g.stack = As.reverse ++ .ref b :: rest) (hW : 2 * g.monitorRoom + (rest.map fun v => v.category).sum ≤ 8) (hdg : decode cc g.pc = .ok (.invokespecial index, 3)) (hf : cells + mc ≤ R.cells ∧ slots + ms ≤ R.slots) :
    vx_Run p l e R s m args below meth c H locs cells slots mc ms g rest (Qc (Value.ref b :: As).toArray) XC free := by
  obtain ⟨⟨hrc, hrs, hfr, hlo, hws, hcw⟩, hl1, hl2, hl3, hl4, hini, hcode, hno, hlen⟩ := cw
  have hK : vx_Back l R p e below s args y 3 8 (PreOf R mc ms Pc) (PostOf Qc mc ms free) (vx_Post XC mc ms free) := vx_back (bytes := bytes) (maxL := maxL) (ret := ret) hM hp.1 hrc hrs hfr hlo hws hcw (fun a' U hW => word_at hW (Or.inl (by first | rfl | simp [Cond.onTables, Cond.keeps, Cond.steady])) hini)
  obtain ⟨hx, hb, hml, ho, -⟩ := S
  obtain ⟨-, ⟨cellB, hcB, hoB, hclB⟩, hPc⟩ := hp
  obtain ⟨hfc, kB, hkB, -⟩ := hat
  cases hfc.symm.trans hclB
  intro T hT X
  rcases vx_callSU X hx (bytes := bytes) (maxL := maxL) (ret := ret) ho hl1 hl2 hl3 hl4 hcode hno hK (by rw [hT]; exact hcB) hoB hkB hg (hsize.trans hml.symm) (argsL := As) (rest := rest) (fun sig h => hn.trans (hlen sig h)) hstack hW (by rw [hb]; exact hdg)
    (fun vm₁ hW₁ => ⟨hf.1, hf.2, hPc (T.setVm vm₁) hT hW₁⟩) with ⟨v, vm₁, ⟨U', l2, c2, s2⟩, hW₁, X', ⟨g', mk, t, L, e1, e2, hq, h1, hL, h2, h3⟩, st⟩ | ⟨q, vm₁, ⟨U', l2, c2, s2⟩, hW₁, X', ⟨g', mk, t, L, E, ce, e1, e2, hq, hce, hcv, hcl, h1, hL, h2, h3⟩, st⟩
  · dsimp only [Pt.U, Pt.locs, Pt.cells, Pt.slots] at X' e1 e2 h1 h2 h3 st
    subst h1; subst h2; subst h3
    exact Or.inl ⟨v, (T.setVm vm₁).calling g' mk (Value.ref b :: As).toArray, t, U', L, hT, X', hL, e1, e2, hq, st⟩
  · dsimp only [Pt.U, Pt.locs, Pt.cells, Pt.slots] at X' e1 e2 h1 h2 h3 st hcl
    subst h1; subst h2; subst h3
    exact Or.inr ⟨q, (T.setVm vm₁).calling g' mk (Value.ref b :: As).toArray, t, U', L, E, ce, hT, X', hL, e1, e2, hq, hce, hcv, vx_cls hW₁ hcl, st⟩
end
/-! the library's builder, in a world of its own: what a contract is, and the calls -/
def bT0 : u_T := fun k => match k with
  | 0 => ("java/lang/AbstractStringBuilder", "value", "[B", false)
  | 1 => ("java/lang/AbstractStringBuilder", "coder", "B", false)
  | 2 => ("java/lang/AbstractStringBuilder", "maybeLatin1", "Z", false)
  | _ => ("java/lang/AbstractStringBuilder", "count", "I", false)
def bT1 : u_T := fun k => match k with
  | 0 => ("java/lang/String", "value", "[B", true)
  | 1 => ("java/lang/String", "coder", "B", true)
  | 2 => ("java/lang/String", "hash", "I", false)
  | _ => ("java/lang/String", "hashIsZero", "Z", false)
abbrev bCl : List vw_C := [("java/lang/StringBuilder", bT0, 4), ("java/lang/String", bT1, 4)]
def bY0 : Nat → FieldType := fun k => match k with
  | 0 => .array .byte
  | 1 => .byte
  | 2 => .boolean
  | _ => .int
def bY1 : Nat → FieldType := fun k => match k with
  | 0 => .array .byte
  | 1 => .byte
  | 2 => .int
  | _ => .boolean
theorem bY0_ok : ∀ k, k < 4 → parseFieldDescriptor (bT0 k).2.2.1 = some (bY0 k) := by decide +kernel
theorem bY1_ok : ∀ k, k < 4 → parseFieldDescriptor (bT1 k).2.2.1 = some (bY1 k) := by decide +kernel
theorem bN0_ok : ∀ a, a < 4 → ∀ b, b < 4 → a ≠ b → (bT0 a).2.1 ≠ (bT0 b).2.1 := by decide +kernel
theorem bN1_ok : ∀ a, a < 4 → ∀ b, b < 4 → a ≠ b → (bT1 a).2.1 ≠ (bT1 b).2.1 := by decide +kernel
theorem bin0 : ∀ w ∈ u_ws "java/lang/StringBuilder" bT0 4, w ∈ ewL4 := by
  have e : u_ws "java/lang/StringBuilder" bT0 4 = [.lays "java/lang/StringBuilder" "java/lang/AbstractStringBuilder" "value" "[B", .lays "java/lang/StringBuilder" "java/lang/AbstractStringBuilder" "coder" "B", .lays "java/lang/StringBuilder" "java/lang/AbstractStringBuilder" "maybeLatin1" "Z", .lays "java/lang/StringBuilder" "java/lang/AbstractStringBuilder" "count" "I"] := rfl
  rw [e]
  intro w hw
  simp only [List.mem_cons, List.not_mem_nil, or_false] at hw
  rcases hw with rfl | rfl | rfl | rfl
  · exact jw (j := 1319) rfl rfl
  · exact jw (j := 1321) rfl rfl
  · exact jw (j := 1323) rfl rfl
  · exact jw (j := 1325) rfl rfl
theorem bin1 : ∀ w ∈ u_ws "java/lang/String" bT1 4, w ∈ ewL4 := by
  have e : u_ws "java/lang/String" bT1 4 = [.laysFinal "java/lang/String" "java/lang/String" "value" "[B", .laysFinal "java/lang/String" "java/lang/String" "coder" "B", .lays "java/lang/String" "java/lang/String" "hash" "I", .lays "java/lang/String" "java/lang/String" "hashIsZero" "Z"] := rfl
  rw [e]
  intro w hw
  simp only [List.mem_cons, List.not_mem_nil, or_false] at hw
  rcases hw with rfl | rfl | rfl | rfl
  · exact jw (j := 863) rfl rfl
  · exact jw (j := 865) rfl rfl
  · exact jw (j := 1527) rfl rfl
  · exact jw (j := 1529) rfl rfl
section
variable (A : Nat → Prop) (D2 : va_G) (cB : ClassId)
def bI (st : State) : Prop := ewN st ∧ va_K D2 bCl [(cB, .byte)] st ∧ va_Z "java/lang/String" "COMPACT_STRINGS" "Z" (.int 1) A st st.heap ∧ ∀ q : Nat, st.heap.size ≤ q → A q
def bMv (Z : State → Heap → Prop) : Prop := ∀ (s U : State) (H H1 : Heap), s.vm.Alike U.vm → (∀ q : Nat, q < H.size → ¬ A q → H1[q]? = H[q]?) → Z s H → Z U H1
def bPc (Z : State → Heap → Prop) (ws : va_W) (vs : List Value) : Array Value → State → Prop := fun a st => a = vs.toArray ∧ bI A D2 cB st ∧ Z st st.heap ∧ va_P D2 bCl ws st.heap ∧ va_D A ws
def bQc (Post : Option Value → Heap → Heap → Prop) : Array Value → State → Outcome → State → Prop := fun _ st o t => (∃ v : Option Value, o = .returned v ∧ Post v st.heap t.heap) ∧ va_F A st t
def bMt (l : Launch) (y : MethodName) (bytes : ByteArray) (maxL : Nat) (ret : Option FieldType) (fr mc ms : Nat) (Z : State → Heap → Prop) (ws : va_W) (vs : List Value) (Post : Option Value → Heap → Heap → Prop) : Prop :=
  vx_Met l y [Cond.code y bytes maxL ret] ({ frames := fr, cells := mc, slots := ms, locals := 64 * fr } : Room) (bPc A D2 cB Z ws vs) (bQc A Post) jXC mc ms A
def bCx (p : Program) (s : State) (mI : MethodId) (meth : Method) (c : Code) (y : MethodName) (bytes : ByteArray) (maxL : Nat) (ret : Option FieldType) (Z : State → Heap → Prop) (ws : va_W) : Prop :=
  p.tables.exec = Jvm.exec ∧ c.code = bytes ∧ meth.sig.returnType = ret ∧ c.maxLocals = maxL ∧ s.vm.findClass y.cls = some mI.cls ∧ meth.locks = false ∧ meth.name = y.name ∧ bI A D2 cB s ∧ Z s s.heap ∧ va_P D2 bCl ws s.heap ∧ va_D A ws
def bBd (l : Launch) (y : MethodName) (bytes : ByteArray) (maxL : Nat) (ret : Option FieldType) (fr mc ms : Nat) (Z : State → Heap → Prop) (ws : va_W) (vs : List Value) (Post : Option Value → Heap → Heap → Prop) : Prop :=
  ∀ (p : Program) (e : Env) (R : Room) (s : State) (mI : MethodId) (args : Array Value) (below : List Frame) (meth : Method) (c : Code) (lsA : Array Slot), bCx A D2 cB p s mI meth c y bytes maxL ret Z ws → fr ≤ R.frames → 64 * fr ≤ R.locals → mc ≤ R.cells → ms ≤ R.slots → lv_has lsA maxL (lv_args 0 vs) →
    W p l e R s mI args below meth c s.heap [] 0 0 (vx_MQ below (bQc A Post) jXC args s mc ms A) (F0 mI 0 lsA [])
/-- what a caller stands on -/
def bCt (p : Program) (s : State) (mI : MethodId) (args : Array Value) (c : Code) (own : String) (cc : ByteArray) (nL : Nat) : Prop := p.tables.exec = Jvm.exec ∧ c.code = cc ∧ c.maxLocals = nL ∧ s.vm.findClass own = some mI.cls ∧ (∀ w ∈ ewL4, w.before args s = true) ∧ va_K D2 bCl [(cB, .byte)] s ∧ va_Z "java/lang/String" "COMPACT_STRINGS" "Z" (.int 1) A s s.heap ∧ ∀ q : Nat, s.heap.size ≤ q → A q
end
section
variable {A : Nat → Prop} {D2 : va_G} {cB : ClassId} {l : Launch}
theorem bI_of {s U : State} {H : Heap} {locs : List Loc} {args : Array Value} (hts : ∀ w ∈ ewL4, w.before args s = true) (hK : va_K D2 bCl [(cB, .byte)] s) (hC : va_Z "java/lang/String" "COMPACT_STRINGS" "Z" (.int 1) A s s.heap) (hA : ∀ q : Nat, s.heap.size ≤ q → A q) (hS : va_S A s.heap H locs) (hU : U.heap = H) (hW : s.WarmedH U.vm) : bI A D2 cB U :=
  ⟨ewN_of hts hW, va_K.moved hW.alike hK, by rw [hU]; exact (va_Z.moved hW.alike hC).kept hS.2.1, fun q hq => hA q (by rw [hU] at hq; exact Nat.le_trans hS.1 hq)⟩
theorem bPc_blind {Z : State → Heap → Prop} (hZ : bMv A Z) {ws : va_W} {vs : List Value} : FrameBlind (bPc A D2 cB Z ws vs) := by
  rintro a U g mk ⟨h1, h2, h3, h4, h5⟩
  refine ⟨h1, bI_of (s := U) (args := #[]) (locs := []) (fun w hw => h2.1 w hw _) h2.2.1 h2.2.2.1 h2.2.2.2 ⟨Nat.le_refl _, fun _ _ _ => rfl, fun _ h => absurd h List.not_mem_nil⟩ rfl (warm_refl U), hZ U _ U.heap _ (warm_refl U).alike (fun _ _ _ => rfl) h3, h4, h5⟩
theorem bMt_of {y : MethodName} {bytes : ByteArray} {maxL : Nat} {ret : Option FieldType} {fr mc ms : Nat} {Z : State → Heap → Prop} {ws : va_W} {vs : List Value} {Post : Option Value → Heap → Heap → Prop} (hpn : plainName y.cls = true) (hl : (lg_sl vs).length ≤ maxL) (hb : bBd A D2 cB l y bytes maxL ret fr mc ms Z ws vs Post) : bMt A D2 cB l y bytes maxL ret fr mc ms Z ws vs Post := by
  refine vx_ofW (ws' := []) hpn rfl (fun p e s m args below meth c s₁ Bd hml ht hP => ?_)
  obtain ⟨hargs, hI, hz, hP, hD⟩ := hP
  subst hargs
  have hl2 := lv_entry vs (n := maxL) hl
  rw [lg_entry_eq]
  exact hb p e _ s m _ below meth c _ ⟨Bd.exec, Bd.bytes, Bd.returns, hml, findClass_of_methodNamed Bd.named, Bd.notSynchronized, (name_of_methodNamed Bd.named Bd.method).1, hI, hz, hP, hD⟩ (Nat.le_refl _) (Nat.le_refl _) (Nat.le_refl _) (Nat.le_refl _) hl2
section
variable {p : Program} {e : Env} {R : Room} {s : State} {mI : MethodId} {args : Array Value} {below : List Frame} {meth : Method} {c : Code} {cells slots mc ms : Nat} {Q : State → Prop} {H : Heap} {locs : List Loc} {pc : Nat} {lsA : Array Slot} {rest : List Value}
theorem bGo {st0 : List Value} {a0 : Array Value} {Post : Option Value → Heap → Heap → Prop} (hr : vx_Run p l e R s mI args below meth c H locs cells slots mc ms (F0 mI pc lsA st0) rest (bQc A Post a0) jXC A) (hS : va_S A s.heap H locs)
    (kk : ∀ (v : Option Value) (H1 : Heap) (locs1 : List Loc), Post v H H1 → va_S A s.heap H1 locs1 → H.size ≤ H1.size → (∀ q : Nat, q < H.size → ¬ A q → H1[q]? = H[q]?) → W p l e R s mI args below meth c H1 locs1 (cells + mc) (slots + ms) Q (F0 mI (pc + 3) lsA (v.toList ++ rest))) : W p l e R s mI args below meth c H locs cells slots Q (F0 mI pc lsA st0) := by
  intro T hT XX
  rcases hr T hT XX with ⟨v1, st₀, t, T', L, h0, X', hL, e1, e2, hq, st⟩ | ⟨q, st₀, t, T', L, E, ce, h0, X', hL, e1, e2, hx, hce, hcv, hcl, st⟩
  · obtain ⟨⟨v, hv, hp⟩, hF⟩ := hq
    cases hv
    obtain ⟨k1, k2, k3⟩ := vx_keep h0 e1 hS (fun _ _ h => h) (fun _ h => h) hL hF
    rw [h0] at hp
    obtain ⟨t2, a1, b1⟩ := kk v1 T'.heap (locs ++ L) (by rw [e1]; exact hp) k3 k1 k2 T' rfl X'
    exact ⟨t2, st t2 a1, b1⟩
  · exact hx.elim
theorem bPre {own : String} {cc : ByteArray} {nL : Nat} (X : bCt A D2 cB p s mI args c own cc nL) {Z : State → Heap → Prop} (hZm : bMv A Z) {ws : va_W} (hS : va_S A s.heap H locs) (hZ : Z s H) (hP : va_P D2 bCl ws H) (hD : va_D A ws) (vs : List Value) : PreS s H (bPc A D2 cB Z ws vs) vs := by
  obtain ⟨-, -, -, -, hts, hK, hC, hA⟩ := X
  exact ⟨bPc_blind hZm, fun U hU hW => ⟨rfl, bI_of hts hK hC hA hS hU hW, by rw [hU]; exact hZm s U H H hW.alike (fun _ _ _ => rfl) hZ, by rw [hU]; exact hP, hD⟩⟩
theorem bLen {y : MethodName} {n : Nat} (hd : (parseMethodDescriptor y.desc).map (fun d => d.parameters.length) = some n) : ∀ sig, parseMethodDescriptor y.desc = some sig → n = sig.parameters.length := by
  intro sig h
  rw [h] at hd
  exact (Option.some.inj hd).symm
section
variable {own : String} {cc : ByteArray} {nL : Nat} {Z : State → Heap → Prop} {ws : va_W} {idx n : Nat} {x y : MethodName} {bytes : ByteArray} {maxL fr : Nat} {ret : Option FieldType} {vs : List Value} {Post : Option Value → Heap → Heap → Prop} {st0 : List Value} {b : Nat}
theorem bcallS (X : bCt A D2 cB p s mI args c own cc nL) (hZm : bMv A Z) (hS : va_S A s.heap H locs) (hZ : Z s H) (hP : va_P D2 bCl ws H) (hD : va_D A ws) (hM : bMt A D2 cB l y bytes maxL ret fr mc ms Z ws vs Post)
    (hw : Cond.code y bytes maxL ret ∈ ewL4) (hl : Cond.methodLink own idx y ∈ ewL4) (hst : Cond.static y ∈ ewL4) (hini : Cond.initialized y.cls ∈ ewL4) (hd : (y.cls ≠ "java/lang/invoke/MethodHandle" ∧ y.cls ≠ "java/lang/invoke/VarHandle") ∧ (parseMethodDescriptor y.desc).map (fun d => d.parameters.length) = some n) (hn : vs.length = n)
    (hR : fr + 1 ≤ R.frames ∧ 8 + (maxL + 11) + 64 * fr ≤ R.locals) (hf : cells + mc ≤ R.cells ∧ slots + ms ≤ R.slots) (hsz : lsA.size = nL) (hcat : (rest.map fun v => v.category).sum ≤ 8) (hst0 : st0 = vs.reverse ++ rest) (hdg : decode cc pc = .ok (.invokestatic idx, 3))
    (kk : ∀ (v : Option Value) (H1 : Heap) (locs1 : List Loc), Post v H H1 → va_S A s.heap H1 locs1 → H.size ≤ H1.size → (∀ q : Nat, q < H.size → ¬ A q → H1[q]? = H[q]?) → W p l e R s mI args below meth c H1 locs1 (cells + mc) (slots + ms) Q (F0 mI (pc + 3) lsA (v.toList ++ rest))) : W p l e R s mI args below meth c H locs cells slots Q (F0 mI pc lsA st0) := by
  have hp := bPre X hZm hS hZ hP hD vs
  obtain ⟨hx, hb, hml, hown, hts, -⟩ := X
  exact bGo (a0 := vs.toArray) (vx_runS (Ts := ewL4) ⟨hx, hb, hml, hown, hts⟩ hM ⟨⟨rfl, rfl, hR.1, hR.2, jws hts hw, List.mem_singleton.mpr rfl, hts _ hw, hts _ hini, hd.1, bLen hd.2, hts _ hl⟩, hts _ hst⟩ hp rfl hn hsz hst0 (by show 2 * 0 + _ ≤ 8; omega) hdg hf) hS kk
theorem bcallI (X : bCt A D2 cB p s mI args c own cc nL) (hZm : bMv A Z) (hS : va_S A s.heap H locs) (hZ : Z s H) (hP : va_P D2 bCl ws H) (hD : va_D A ws) (hM : bMt A D2 cB l y bytes maxL none fr mc ms Z ws (.ref b :: vs) Post)
    (hw : Cond.code y bytes maxL none ∈ ewL4) (hl : Cond.methodLink own idx y ∈ ewL4) (hin : Cond.instanceMethod y ∈ ewL4) (hini : Cond.initialized y.cls ∈ ewL4) (hnm : y.name = "<init>") (hd : (y.cls ≠ "java/lang/invoke/MethodHandle" ∧ y.cls ≠ "java/lang/invoke/VarHandle") ∧ (parseMethodDescriptor y.desc).map (fun d => d.parameters.length) = some n) (hn : vs.length = n)
    (hR : fr + 1 ≤ R.frames ∧ 8 + (maxL + 11) + 64 * fr ≤ R.locals) (hf : cells + mc ≤ R.cells ∧ slots + ms ≤ R.slots) (hsz : lsA.size = nL) (hcat : (rest.map fun v => v.category).sum ≤ 8) (hst0 : st0 = vs.reverse ++ .ref b :: rest) (hdg : decode cc pc = .ok (.invokespecial idx, 3))
    (kk : ∀ (v : Option Value) (H1 : Heap) (locs1 : List Loc), Post v H H1 → va_S A s.heap H1 locs1 → H.size ≤ H1.size → (∀ q : Nat, q < H.size → ¬ A q → H1[q]? = H[q]?) → W p l e R s mI args below meth c H1 locs1 (cells + mc) (slots + ms) Q (F0 mI (pc + 3) lsA (v.toList ++ rest))) : W p l e R s mI args below meth c H locs cells slots Q (F0 mI pc lsA st0) := by
  have hp := bPre X hZm hS hZ hP hD (.ref b :: vs)
  obtain ⟨hx, hb, hml, hown, hts, -⟩ := X
  exact bGo (a0 := (.ref b :: vs).toArray) (vx_runI (Ts := ewL4) ⟨hx, hb, hml, hown, hts⟩ hM ⟨⟨rfl, rfl, hR.1, hR.2, jws hts hw, List.mem_singleton.mpr rfl, hts _ hw, hts _ hini, hd.1, bLen hd.2, hts _ hl⟩, hnm, hts _ hin⟩ hp rfl hn hsz hst0 (by show 2 * 0 + _ ≤ 8; omega) hdg hf) hS kk
theorem bcallV {C : String} (X : bCt A D2 cB p s mI args c own cc nL) (hZm : bMv A Z) (hS : va_S A s.heap H locs) (hZ : Z s H) (hP : va_P D2 bCl ws H) (hD : va_D A ws) (hrc : ∃ cellB : Cell, H[b]? = some cellB ∧ cellB.vm.isStatics = false ∧ s.vm.findClass C = some cellB.cls) (hM : bMt A D2 cB l y bytes maxL ret fr mc ms Z ws (.ref b :: vs) Post)
    (hw : Cond.code y bytes maxL ret ∈ ewL4) (hl : Cond.methodLink own idx y ∈ ewL4) (hin : Cond.instanceMethod y ∈ ewL4) (hse : Cond.selects C y y ∈ ewL4) (hini : Cond.initialized y.cls ∈ ewL4) (hd : (y.cls ≠ "java/lang/invoke/MethodHandle" ∧ y.cls ≠ "java/lang/invoke/VarHandle") ∧ (parseMethodDescriptor y.desc).map (fun d => d.parameters.length) = some n) (hn : vs.length = n)
    (hR : fr + 1 ≤ R.frames ∧ 8 + (maxL + 11) + 64 * fr ≤ R.locals) (hf : cells + mc ≤ R.cells ∧ slots + ms ≤ R.slots) (hsz : lsA.size = nL) (hcat : (rest.map fun v => v.category).sum ≤ 8) (hst0 : st0 = vs.reverse ++ .ref b :: rest) (hdg : decode cc pc = .ok (.invokevirtual idx, 3))
    (kk : ∀ (v : Option Value) (H1 : Heap) (locs1 : List Loc), Post v H H1 → va_S A s.heap H1 locs1 → H.size ≤ H1.size → (∀ q : Nat, q < H.size → ¬ A q → H1[q]? = H[q]?) → W p l e R s mI args below meth c H1 locs1 (cells + mc) (slots + ms) Q (F0 mI (pc + 3) lsA (v.toList ++ rest))) : W p l e R s mI args below meth c H locs cells slots Q (F0 mI pc lsA st0) := by
  have hp := bPre X hZm hS hZ hP hD (.ref b :: vs)
  obtain ⟨hx, hb, hml, hown, hts, -⟩ := X
  exact bGo (a0 := (.ref b :: vs).toArray) (vx_runV (Ts := ewL4) ⟨hx, hb, hml, hown, hts⟩ hM ⟨⟨rfl, rfl, hR.1, hR.2, jws hts hw, List.mem_singleton.mpr rfl, hts _ hw, hts _ hini, hd.1, bLen hd.2, hts _ hl⟩, hts _ hin, hts _ hse⟩ ⟨hp.1, hrc, hp.2⟩ rfl hn hsz hst0 (by show 2 * 0 + _ ≤ 8; omega) hdg hf) hS kk
/-- a private method is selected, whatever the receiver's class -/
theorem bSelP {C : String} {cC : ClassId} (hC : s.vm.findClass C = some cC) (hsm : (Cond.sameMethod y.cls y.cls y.name y.desc).before args s = true) (hin : (Cond.instanceMethod y).before args s = true) (hpr : (Cond.privateMethod y).before args s = true) : (Cond.selects C y y).before args s = true := by
  obtain ⟨c1, ck, r, h1, h2, h3, h4, h5⟩ := Cond.sameMethod_found hsm
  obtain ⟨mk9, methM, hnamed, hmethM, -, -⟩ := Cond.instanceMethod_spec hin
  have h6 : s.methodNamed? y = some r := h5
  cases hnamed.symm.trans h6
  have hs : selectMethod {} s.vm cC r = .method r := selectMethod_private hmethM (Cond.privateMethod_at hpr r methM hnamed hmethM)
  have hcl := findClass_of_methodNamed hnamed
  cases hcl.symm.trans h1
  simp [Cond.before, Cond.holds, Cond.value, hC, h4, hnamed, hs, h2, h3]
/-- a method of the class above, called on the builder -/
theorem bcallU {owner : String} (X : bCt A D2 cB p s mI args c own cc nL) (hZm : bMv A Z) (hS : va_S A s.heap H locs) (hZ : Z s H) (hP : va_P D2 bCl ws H) (hD : va_D A ws) {q0 : Nat} {fs : List Value} (he : ws[q0]? = some (b, .inr (0, fs))) (hM : bMt A D2 cB l y bytes maxL ret fr mc ms Z ws (.ref b :: vs) Post)
    (hw : Cond.code y bytes maxL ret ∈ ewL4) (hl : Cond.methodLink own idx x ∈ ewL4) (hsm : Cond.sameMethod x.cls owner x.name x.desc ∈ ewL4) (hdc : va_Decl s ⟨owner, x.name, x.desc⟩) (hse : (Cond.selects "java/lang/StringBuilder" x y).before args s = true) (hin : Cond.instanceMethod y ∈ ewL4) (hini : Cond.initialized y.cls ∈ ewL4) (hd : (owner ≠ "java/lang/invoke/MethodHandle" ∧ owner ≠ "java/lang/invoke/VarHandle") ∧ (parseMethodDescriptor x.desc).map (fun d => d.parameters.length) = some n) (hn : vs.length = n)
    (hR : fr + 1 ≤ R.frames ∧ 8 + (maxL + 11) + 64 * fr ≤ R.locals) (hf : cells + mc ≤ R.cells ∧ slots + ms ≤ R.slots) (hsz : lsA.size = nL) (hcat : (rest.map fun v => v.category).sum ≤ 8) (hst0 : st0 = vs.reverse ++ .ref b :: rest) (hdg : decode cc pc = .ok (.invokevirtual idx, 3))
    (kk : ∀ (v : Option Value) (H1 : Heap) (locs1 : List Loc), Post v H H1 → va_S A s.heap H1 locs1 → H.size ≤ H1.size → (∀ q : Nat, q < H.size → ¬ A q → H1[q]? = H[q]?) → W p l e R s mI args below meth c H1 locs1 (cells + mc) (slots + ms) Q (F0 mI (pc + 3) lsA (v.toList ++ rest))) : W p l e R s mI args below meth c H locs cells slots Q (F0 mI pc lsA st0) := by
  have hp := bPre X hZm hS hZ hP hD (.ref b :: vs)
  obtain ⟨hx, hb, hml, hown, hts, hK, -⟩ := X
  exact bGo (a0 := (.ref b :: vs).toArray) (vx_runU (Ts := ewL4) (C := "java/lang/StringBuilder") (owner := owner) (x := x) ⟨hx, hb, hml, hown, hts⟩ hM ⟨⟨rfl, rfl, hR.1, hR.2, jws hts hw, List.mem_singleton.mpr rfl⟩, hts _ hw, hts _ hini, hd.1, bLen hd.2, hts _ hl, hts _ hsm, hdc, hse, hts _ hin⟩ ⟨hp.1, va_recv hK hP (ci := 0) rfl he, hp.2⟩ rfl hn hsz hst0 (by show 2 * 0 + _ ≤ 8; omega) hdg hf) hS kk
/-- super.append(..) -/
theorem bcallSU (X : bCt A D2 cB p s mI args c own cc nL) (hZm : bMv A Z) (hS : va_S A s.heap H locs) (hZ : Z s H) (hP : va_P D2 bCl ws H) (hD : va_D A ws) {q0 : Nat} {fs : List Value} (he : ws[q0]? = some (b, .inr (0, fs))) (hM : bMt A D2 cB l y bytes maxL ret fr mc ms Z ws (.ref b :: vs) Post)
    (hw : Cond.code y bytes maxL ret ∈ ewL4) (hl : Cond.methodLink own idx y ∈ ewL4) (hsm : Cond.sameMethod y.cls y.cls y.name y.desc ∈ ewL4) (hsp : Cond.superclass own y.cls ∈ ewL4) (hin : Cond.instanceMethod y ∈ ewL4) (hini : Cond.initialized y.cls ∈ ewL4) (hd : y.name ≠ "<init>" ∧ (parseMethodDescriptor y.desc).map (fun d => d.parameters.length) = some n) (hn : vs.length = n)
    (hR : fr + 1 ≤ R.frames ∧ 8 + (maxL + 11) + 64 * fr ≤ R.locals) (hf : cells + mc ≤ R.cells ∧ slots + ms ≤ R.slots) (hsz : lsA.size = nL) (hcat : (rest.map fun v => v.category).sum ≤ 8) (hst0 : st0 = vs.reverse ++ .ref b :: rest) (hdg : decode cc pc = .ok (.invokespecial idx, 3))
    (kk : ∀ (v : Option Value) (H1 : Heap) (locs1 : List Loc), Post v H H1 → va_S A s.heap H1 locs1 → H.size ≤ H1.size → (∀ q : Nat, q < H.size → ¬ A q → H1[q]? = H[q]?) → W p l e R s mI args below meth c H1 locs1 (cells + mc) (slots + ms) Q (F0 mI (pc + 3) lsA (v.toList ++ rest))) : W p l e R s mI args below meth c H locs cells slots Q (F0 mI pc lsA st0) := by
  have hp := bPre X hZm hS hZ hP hD (.ref b :: vs)
  obtain ⟨hx, hb, hml, hown, hts, hK, -⟩ := X
  exact bGo (a0 := (.ref b :: vs).toArray) (vx_runSU (Ts := ewL4) (hK.1 0 _ rfl).2 ⟨hx, hb, hml, hown, hts⟩ hM ⟨⟨rfl, rfl, hR.1, hR.2, jws hts hw, List.mem_singleton.mpr rfl⟩, hts _ hl, hts _ hsm, hts _ hsp, hts _ hin, hts _ hini, hts _ hw, hd.1, bLen hd.2⟩ ⟨hp.1, va_recv hK hP (ci := 0) rfl he, hp.2⟩ rfl hn hsz hst0 (by show 2 * 0 + _ ≤ 8; omega) hdg hf) hS kk
end
end
end
