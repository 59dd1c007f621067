/-! THE CLAIM OUT OF ONE WALK OF THE LAW'S BODY. Your part is whole_start (and what it stands on); all else here is the same for every law, but numbers. -/
def R_law : String := "EchoWellsLaw"
def lw_P (b : Addr) (xs : List Int32) (args : Array Value) (s : State) : Prop := args = #[.ref b] ∧ s.IntsAt b xs ∧ xs.length ≤ 260 ∧ (Jvm.Cond.and given_1 narrow_1).before args s = true
def lw_Q (_ : Array Value) (s : State) (o : Outcome) (t : State) : Prop := o = .returned (some (.int 1)) ∧ Framed s o t [] 600390 7291720
def lw_Z (below : List Frame) (a : Array Value) (s : State) : State → Prop := fun t => ∃ o, t.status = .running ∧ Ended t below o ∧ lw_Q a s o t
/-- the law's own end, with 1 on the stack, nothing written that was there before, its room as the claim has it -/
theorem lw_ret {p : Program} {l : Launch} {e : Env} {s : State} {m : MethodId} {below : List Frame} {meth : Method} {c : Code} {b : Nat} (hx : p.tables.exec = Jvm.exec) (hb : c.code = code) (hr : meth.sig.returnType = ret) (hlocks : meth.locks = false) {pc : Nat} {H : Heap} {ls : Array Slot} (hdg : decode code pc = .ok (.ireturn, 1)) : W p l e room_1 s m #[Value.ref b] below meth c H [] 600390 7291720 (lw_Z below #[Value.ref b] s) (F0 m pc ls [.int 1]) := by
  intro T hT X
  obtain ⟨fs, hret, hrun, hended, hW, hframe⟩ := X.leave (v := some (.int 1)) (hlocks := hlocks) (fun h => by rw [hr] at h; cases h)
  have hmeth' : T.vm.method? m = some meth := X.method'
  refine ⟨T.setFrames fs, ?_, .returned (some (.int 1)), hrun, hended, rfl, ⟨_, rfl⟩, hW, hframe⟩
  jvm_step X.here [X.here.top, hx, hb, hdg, hmeth', hr, ret, narrow_b1]
  (try refine ⟨rfl, ?_⟩); (try refine ⟨rfl, ?_⟩)
  first | (intro acts; rw [hret _ acts rfl rfl rfl]) | rw [hret _ _ rfl rfl rfl]
  exact Steps.refl _
/-- what holds at the law's entry: the machine, the code, the tables' words (any of lw_tbl by 'hts w (by decide +kernel)'), the script of L ints xs at the cell b, what the Statement gives of the start (any of its parts by flat_of_before) -/
def lw_At (p : Program) (s : State) (m : MethodId) (meth : Method) (c : Code) (b L : Nat) (xs : Nat → Int32) : Prop :=
  p.tables.exec = Jvm.exec ∧ c.code = code ∧ meth.sig.returnType = ret ∧ c.maxLocals = 12 ∧ s.vm.findClass R_law = some m.cls ∧ (∀ w ∈ lw_tbl, w.before #[Value.ref b] s = true) ∧ va_X b L xs s s.heap ∧ b < s.heap.size ∧ meth.locks = false ∧ (Jvm.Cond.and given_1 narrow_1).before #[Value.ref b] s = true

/-- locs that lie behind the start's heap are none -/
theorem snb_drop {s t : State} {L : List Loc} {k n : Nat} (h : s.sameButNew t L k n) (hL : ∀ z ∈ L, s.heap.size ≤ z.base) : s.sameButNew t [] k n := by
  obtain ⟨h1, h2, h3, h4, h5, h6⟩ := h
  refine ⟨h1, h2, h3, h4, h5, fun a c ha => ?_⟩
  obtain ⟨c', g1, g2, g3, g4⟩ := h6 a c ha
  refine ⟨c', g1, g2, g3, fun i _ => g4 i (fun hm => ?_)⟩
  have h7 := hL _ hm
  have h8 := (Array.getElem?_eq_some_iff.mp ha).1
  exact absurd h8 (Nat.not_lt.mpr h7)
theorem W.imp {p : Program} {l : Launch} {e : Env} {R : Room} {s : State} {m : MethodId} {args : Array Value} {below : List Frame} {meth : Method} {c : Code} {H : Heap} {locs : List Loc} {cells slots : Nat} {Q Q' : State → Prop} {g : JFrame} (hq : ∀ t, Q t → Q' t) (k : W p l e R s m args below meth c H locs cells slots Q g) : W p l e R s m args below meth c H locs cells slots Q' g := by
  intro T hT X
  obtain ⟨t, h1, h2⟩ := k T hT X
  exact ⟨t, h1, hq t h2⟩
def eM0 : eM := (0, 0, fun _ _ => 0, fun _ _ => 0)
/-- what the second layer owes: the law's run in the small machine ends with 1, in its room -/
def eOwed : Prop := ∀ X : eX, X.1 ≤ 260 → (∀ j, inR (X.2 j)) → ∃ (f : Nat) (μ' : eM), eRun X f m_L_law 0 (eEnt m_L_law [vR 1000]) [] eM0 = some (.inl (some (vI 1)), μ') ∧ eCc μ' ≤ 600390 ∧ eSs μ' ≤ 7291720
theorem i32_oi (x : Int32) : Int32.ofInt x.toInt = x := Int32.ofInt_toInt x
theorem law_W {p : Program} {e : Env} {s : State} {m : MethodId} {below : List Frame} {meth : Method} {c : Code} (l : Launch) (hflags : l.flags = flags0) {b L : Nat} {xs : Nat → Int32} (hL : L ≤ 260) (C0 : lw_At p s m meth c b L xs) (htb : c.exceptionTable.toList = []) (hnm : meth.name = "law") (hO : eOwed) :
    W p l e room_1 s m #[Value.ref b] below meth c s.heap [] 0 0 (lw_Z below #[Value.ref b] s) (entryFrame m ([Value.ref b] : List Value).toArray 12) := by
  obtain ⟨hx, hb, hr, hml, hown, hts, hX, hbl, hlk, hgv⟩ := C0
  have hst : l.stackTraces = false := by unfold Launch.stackTraces; rw [hflags]; decide
  obtain ⟨f, μ', hrun, hcc, hss⟩ := hO (L, fun j => (xs j).toInt) hL (fun j => i32_in (xs j))
  have hB : s.heap.size - 1 + 1 ≤ s.heap.size := by omega
  have hA : ∀ a : Nat, a < s.heap.size → ¬ eAd (s.heap.size - 1) a := fun a h z => by have := z.1; omega
  obtain ⟨K, hC, hKb, hXK⟩ := cst_start (B := s.heap.size - 1) (b := b) (flat_of_before _ hgv) hts hA hX (by omega)
  obtain ⟨dA, D, hK⟩ := kls_start hts
  have C : eCx (s.heap.size - 1) K dA D p l s m #[Value.ref b] meth c m_L_law := ⟨hx, hb, hr, hml, hown, fun w hw => hts _ (List.mem_filter.mp hw).1, hlk, by rw [htb]; rfl, hnm, hst, hB, hK, hC⟩
  have hw0 : eWf (eEnt m_L_law [vR 1000]) [] eM0 := by
    refine ⟨fun v hv => ?_, fun _ h => absurd h List.not_mem_nil, fun _ _ _ => in0, Nat.zero_le _⟩
    unfold eEnt at hv
    rcases List.mem_append.mp hv with hv | hv
    · rw [List.mem_singleton] at hv; subst hv; trivial
    · rw [(List.mem_replicate.mp hv).2]; trivial
  have h := (eMain (B := s.heap.size - 1) (K := K) (dA := dA) (D := D) (X := (L, fun j => (xs j).toInt)) hst hXK (by show L < 2147483648; omega) (fun j => i32_in (xs j)) f m_L_law 0 _ _ _ _ _ hrun hw0).2 p e room_1 s m #[Value.ref b] below meth c 0 0 600390 7291720 C (by decide +kernel) (by decide +kernel) (Nat.le_refl _) (Nat.le_refl _) (by omega) (by omega) (fun _ => by show s.heap.size + 0 = s.heap.size - 1 + 0 + 1; omega)
  have h2 := h s.heap [] (argsToLocals ([vR 1000].map (cv (s.heap.size - 1) K)).toArray (ewMax m_L_law)) (fun k q hq => by cases hq) ⟨Nat.le_refl _, fun _ _ _ => rfl, fun _ h => absurd h List.not_mem_nil⟩ (eEnt_LR rfl (by decide +kernel) (fun x hx => by rw [List.mem_singleton] at hx; subst hx; rfl))
  have h3 : mPc m_L_law 0 = 0 := by decide +kernel
  have h4 : ewMax m_L_law = 12 := by decide +kernel
  have h5 : ([vR 1000].map (cv (s.heap.size - 1) K)) = [Value.ref b] := by
    show [rv (s.heap.size - 1) K 1000] = _
    rw [rv_big (Nat.le_refl _), hKb]
  rw [h3, h4, h5] at h2
  refine W.imp (fun t ht => ?_) h2
  obtain ⟨o, q1, q2, q3⟩ := ht
  rcases q3 with ⟨⟨v, hv, ho, -, -⟩, L1, ⟨g1, g2, g3⟩, hfree⟩ | ⟨q, -, E, ce, L1, ⟨k, hk, -⟩, -⟩
  · cases hv
    exact ⟨o, q1, q2, ho, ⟨_, ho⟩, g2, (snb_drop g3 (fun z hz => by have := (hfree z hz).1; show s.heap.size ≤ z.base; omega))⟩
  · cases hk
