/-! THE CLAIM OUT OF ONE WALK OF THE LAW'S BODY. Your part is whole_start (and what it stands on); all else here is the same for every law, but numbers. -/
def R_law : String := "EchoWellsLaw"
def lw_P (b : Addr) (xs : List Int32) (args : Array Value) (s : State) : Prop := args = #[.ref b] ∧ s.IntsAt b xs ∧ xs.length ≤ 2048 ∧ (Jvm.Cond.and given_1 narrow_1).before args s = true
/-- what a walk over the start with the record d0 says of its end, said of the start itself -/
theorem lw_closed {s t : State} {o : Outcome} {d0 : Drawn} {L : List Loc} {k n : Nat} (hd0 : s.drawn.sameBut d0 lw_cs) (hv : ∃ v, o = .returned v) (hW : (s.setDrawn d0).WarmedH t.vm) (hs : (s.setDrawn d0).sameButNew ({ t with vm := s.vm } : State) L k n) : State.butDraws s t lw_cs (fun t1 => Framed s o t1 L k n) := by
  have h2 : t.drawn = d0 := congrArg State.drawn hs.1
  refine ⟨⟨hv, hW, State.sameButNew.setDrawn hs s.drawn⟩, ?_, by decide⟩
  rw [h2]
  exact hd0
def lw_Q (_ : Array Value) (s : State) (o : Outcome) (t : State) : Prop := o = .returned (some (.int 1)) ∧ State.butDraws s t lw_cs (fun t1 => Framed s o t1 [] 603072 7219306)
def lw_Z (below : List Frame) (a : Array Value) (s : State) : State → Prop := fun t => ∃ o, t.status = .running ∧ Ended t below o ∧ lw_Q a s o t
/-- the law's own end, with 1 on the stack, nothing written that was there before, its room as the claim has it; d0: the record of draws at this point (at the entry s.drawn: begin with 'refine W.base ?_' and 'have hd0 := Drawn.sameBut.refl s.drawn lw_cs') -/
theorem lw_ret {p : Program} {l : Launch} {e : Env} {s : State} {m : MethodId} {below : List Frame} {meth : Method} {c : Code} {b : Nat} {d0 : Drawn} (hd0 : s.drawn.sameBut d0 lw_cs) (hx : p.tables.exec = Jvm.exec) (hb : c.code = code) (hr : meth.sig.returnType = ret) (hlocks : meth.locks = false) {pc : Nat} {H : Heap} {ls : Array Slot} (hdg : decode code pc = .ok (.ireturn, 1)) : W p l e room_1 (s.setDrawn d0) m #[Value.ref b] below meth c H [] 603072 7219306 (lw_Z below #[Value.ref b] s) (F0 m pc ls [.int 1]) := by
  intro T hT X
  obtain ⟨fs, hret, hrun, hended, hW, hframe⟩ := X.leave (v := some (.int 1)) (hlocks := hlocks) (fun h => by rw [hr] at h; cases h)
  have hmeth' : T.vm.method? m = some meth := X.method'
  refine ⟨T.setFrames fs, ?_, .returned (some (.int 1)), hrun, hended, rfl, lw_closed hd0 ⟨_, rfl⟩ hW hframe⟩
  jvm_step X.here [X.here.top, hx, hb, hdg, hmeth', hr, ret, narrow_b1]
  (try refine ⟨rfl, ?_⟩); (try refine ⟨rfl, ?_⟩)
  first | (intro acts; rw [hret _ acts rfl rfl rfl]) | rw [hret _ _ rfl rfl rfl]
  exact Steps.refl _
/-- what holds at the law's entry: the machine, the code, the tables' words (any of lw_tbl by 'hts w (by decide +kernel)'), the script of L ints xs at the cell b, what the Statement gives of the start (any of its parts by flat_of_before) -/
def lw_At (p : Program) (s : State) (m : MethodId) (meth : Method) (c : Code) (b L : Nat) (xs : Nat → Int32) : Prop :=
  p.tables.exec = Jvm.exec ∧ c.code = code ∧ meth.sig.returnType = ret ∧ c.maxLocals = 9 ∧ s.vm.findClass R_law = some m.cls ∧ (∀ w ∈ lw_tbl, w.before #[Value.ref b] s = true) ∧ va_X b L xs s s.heap ∧ b < s.heap.size ∧ meth.locks = false ∧ (Jvm.Cond.and given_1 narrow_1).before #[Value.ref b] s = true

/-- locs that lie behind the start's heap are none -/
theorem snb_drop {s t : State} {L : List Loc} {k n : Nat} (h : s.sameButNew t L k n) (hL : ∀ z ∈ L, s.heap.size ≤ z.base) : s.sameButNew t [] k n := by
  obtain ⟨h1, h2, h3, h4, h5, h6⟩ := h
  refine ⟨h1, h2, h3, h4, h5, fun a c ha => ?_⟩
  obtain ⟨c', g1, g2, g3, g4⟩ := h6 a c ha
  refine ⟨c', g1, g2, g3, fun i _ => g4 i (fun hm => ?_)⟩
  have h7 := hL _ hm
  have h8 := (Array.getElem?_eq_some_iff.mp ha).1
  exact absurd h8 (Nat.not_lt.mpr h7)
theorem W.imp {p : Program} {l : Launch} {e : Env} {R : Room} {s : State} {m : MethodId} {args : Array Value} {below : List Frame} {meth : Method} {c : Code} {H : Heap} {locs : List Loc} {cells slots : Nat} {Q Q' : State → Prop} {g : JFrame} (hq : ∀ t, Q t → Q' t) (k : W p l e R s m args below meth c H locs cells slots Q g) : W p l e R s m args below meth c H locs cells slots Q' g := by
  intro T hT X
  obtain ⟨t, h1, h2⟩ := k T hT X
  exact ⟨t, h1, hq t h2⟩
def eM0 : eM := (0, 0, fun _ _ => 0, fun _ _ => 0)
/-- what the second layer owes: the law's run in the small machine ends with 1, in its room -/
def eOwed : Prop := ∀ X : eX, X.1 ≤ 2048 → (∀ j, inR (X.2 j)) → ∃ (f : Nat) (μ' : eM), eRun X f m_L_law 0 (eEnt m_L_law [vR 1000]) [] eM0 = some (.inl (some (vI 1)), μ') ∧ eCc μ' ≤ 603072 ∧ eSs μ' ≤ 7219306
theorem i32_oi (x : Int32) : Int32.ofInt x.toInt = x := Int32.ofInt_toInt x
theorem law_W {p : Program} {e : Env} {s : State} {m : MethodId} {below : List Frame} {meth : Method} {c : Code} (l : Launch) (hflags : l.flags = flags0) {b L : Nat} {xs : Nat → Int32} (hL : L ≤ 2048) (C0 : lw_At p s m meth c b L xs) (htb : c.exceptionTable.toList = []) (hnm : meth.name = "law") (hO : eOwed) :
    W p l e room_1 s m #[Value.ref b] below meth c s.heap [] 0 0 (lw_Z below #[Value.ref b] s) (entryFrame m ([Value.ref b] : List Value).toArray 9) := by
  obtain ⟨hx, hb, hr, hml, hown, hts, hX, hbl, hlk, hgv⟩ := C0
  have hst : l.stackTraces = false := by unfold Launch.stackTraces; rw [hflags]; decide
  obtain ⟨f, μ', hrun, hcc, hss⟩ := hO (L, fun j => (xs j).toInt) hL (fun j => i32_in (xs j))
  have hB : s.heap.size - 1 + 1 ≤ s.heap.size := by omega
  have hA : ∀ a : Nat, a < s.heap.size → ¬ s.heap.size - 1 < a := fun a h => by omega
  obtain ⟨K, hC, hKb⟩ := cst_start (B := s.heap.size - 1) (b := b) (flat_of_before _ hgv) hts hA
  obtain ⟨dA, D, hK⟩ := kls_start hts
  have C : eCx (s.heap.size - 1) K dA D p l s m #[Value.ref b] meth c m_L_law := ⟨hx, hb, hr, hml, hown, fun w hw => hts _ (List.mem_filter.mp hw).1, hlk, by rw [htb]; rfl, hnm, hst, hB, hK, hC⟩
  have hw0 : eWf (eEnt m_L_law [vR 1000]) [] eM0 := by
    refine ⟨fun v hv => ?_, fun _ h => absurd h List.not_mem_nil, fun _ _ _ => in0, fun _ _ _ => ⟨Int.le_refl 0, (by decide : (0 : Int) < 18446744073709551616)⟩⟩
    unfold eEnt at hv
    rcases List.mem_append.mp hv with hv | hv
    · rw [List.mem_singleton] at hv; subst hv; trivial
    · rw [(List.mem_replicate.mp hv).2]; trivial
  have hXs : m_L_law = m_L_law → va_X (K 1000) L (fun j => Int32.ofInt ((fun j => (xs j).toInt) j)) s s.heap ∧ K 1000 ≤ s.heap.size - 1 := by
    intro _
    rw [hKb]
    refine ⟨?_, by omega⟩
    have h1 : (fun j => Int32.ofInt ((fun j => (xs j).toInt) j)) = xs := funext fun j => i32_oi (xs j)
    rw [h1]
    exact hX
  have h := (eMain (B := s.heap.size - 1) (K := K) (dA := dA) (D := D) (X := (L, fun j => (xs j).toInt)) hst (by show L < 2147483648; omega) (fun j => i32_in (xs j)) f m_L_law 0 _ _ _ _ _ hrun hw0).2 p e room_1 s m #[Value.ref b] below meth c 0 0 603072 7219306 C hXs (by decide +kernel) (by decide +kernel) (Nat.le_refl _) (Nat.le_refl _) (by omega) (by omega) (fun _ => by show s.heap.size + 0 = s.heap.size - 1 + 0 + 1; omega)
  have h2 := h s.heap [] (argsToLocals ([vR 1000].map (cv (s.heap.size - 1) K)).toArray (ewMax m_L_law)) (fun k q hq => by cases hq) ⟨Nat.le_refl _, fun _ _ _ => rfl, fun _ h => absurd h List.not_mem_nil⟩ (eEnt_LR rfl (by decide +kernel))
  have h3 : mPc m_L_law 0 = 0 := by decide +kernel
  have h4 : ewMax m_L_law = 9 := by decide +kernel
  have h5 : ([vR 1000].map (cv (s.heap.size - 1) K)) = [Value.ref b] := by
    show [rv (s.heap.size - 1) K 1000] = _
    rw [rv_big (Nat.le_refl _), hKb]
  rw [h3, h4, h5] at h2
  refine W.imp (fun t ht => ?_) h2
  obtain ⟨o, q1, q2, q3⟩ := ht
  rcases q3 with ⟨⟨v, hv, ho, -, -⟩, L1, ⟨g1, g2, g3⟩, hfree⟩ | ⟨q, -, E, ce, L1, ⟨k, hk, -⟩, -⟩
  · cases hv
    exact ⟨o, q1, q2, ho, lw_closed (d0 := s.drawn) (Drawn.sameBut.refl s.drawn lw_cs) g1 g2 (snb_drop g3 (fun z hz => by have := hfree z hz; show s.heap.size ≤ z.base; omega))⟩
  · cases hk
