/-! a letter put behind a text: the library's builder -/
theorem flat_before {args : Array Value} {s : State} (T : Jvm.Cond) : (∀ c ∈ flatC T, c.before args s = true) → T.before args s = true := by
  induction T with
  | and a b iha ihb =>
    intro h
    simp only [Cond.before_and, Bool.and_eq_true]
    exact ⟨iha (fun c hc => h c (List.mem_append_left _ hc)), ihb (fun c hc => h c (List.mem_append_right _ hc))⟩
  | _ => intro h; exact h _ (List.mem_singleton.mpr rfl)
def inT (L : List Cond) : Bool := L.all (fun w => decide (w ∈ lw_tbl) && (goodWord w || ewBad4 w))
theorem inT_of {args : Array Value} {s : State} {L : List Cond} (h : inT L = true) (hts : ∀ w ∈ ewL4, w.before args s = true) : ∀ c ∈ L, c.before args s = true := by
  intro c hc
  have h1 := List.all_eq_true.mp h c hc
  simp only [Bool.and_eq_true, decide_eq_true_eq] at h1
  exact hts c (in4 h1.1 h1.2)
theorem tb_1 : inT (flatC Jvm.Free.SB.SBInit.tab) = true := by decide +kernel
theorem tb_2 : inT (flatC Jvm.Free.SB.SBAppendS.tab) = true := by decide +kernel
theorem tb_3 : inT (flatC Jvm.Free.SB.SBAppendSG.tab) = true := by decide +kernel
theorem tb_4 : inT (flatC Jvm.Free.SB.SBAppendC.tab) = true := by decide +kernel
theorem tb_5 : inT (flatC Jvm.Free.SB.SBAppendCG.tab) = true := by decide +kernel
theorem tb_6 : inT (flatC Jvm.Free.SB.SBToString.tab) = true := by decide +kernel
theorem tb_7 : inT (flatC Jvm.Free.SB.SBToStringF.tab) = true := by decide +kernel
theorem tb_8 : inT Jvm.Free.SBG.sbLays = true := by decide +kernel
theorem tb_9 : inT Jvm.Free.SBG.strLays = true := by decide +kernel
theorem sb_d : decode (mBy m_L_sounds) 205 = .ok (.new 288, 3) ∧ decode (mBy m_L_sounds) 208 = .ok (.dup, 1) ∧ decode (mBy m_L_sounds) 209 = .ok (.invokespecial 290, 3) ∧ decode (mBy m_L_sounds) 212 = .ok (.aload 17, 2) ∧ decode (mBy m_L_sounds) 214 = .ok (.invokevirtual 291, 3) := by decide +kernel
theorem sb_d2 : decode (mBy m_L_sounds) 217 = .ok (.aload_n 0, 1) ∧ decode (mBy m_L_sounds) 218 = .ok (.iload 4, 2) ∧ decode (mBy m_L_sounds) 220 = .ok (.iload 18, 2) ∧ decode (mBy m_L_sounds) 222 = .ok (.invokestatic 294, 3) := by decide +kernel
theorem sb_d3 : decode (mBy m_L_sounds) 225 = .ok (.l2i, 1) ∧ decode (mBy m_L_sounds) 226 = .ok (.i2c, 1) ∧ decode (mBy m_L_sounds) 227 = .ok (.invokevirtual 296, 3) ∧ decode (mBy m_L_sounds) 230 = .ok (.invokevirtual 299, 3) ∧ decode (mBy m_L_sounds) 233 = .ok (.astore 17, 2) := by decide +kernel
section
variable {B : Nat} {K : Nat → Nat} {dA : Nat → ClassId} {D : va_G} {X : eX}
variable {p : Program} {l : Launch} {e : Env} {R : Room} {s : State} {mI : MethodId} {args : Array Value} {below : List Frame} {meth : Method} {c : Code} {cells slots mc ms : Nat} {Q : State → Prop} {m : Nat}
theorem W_via {H : Heap} {locs : List Loc} {g : JFrame} (h : ∀ T : State, T.heap = H → Stand p l e R s mI args below meth c T locs cells slots → ∃ (T' : State) (locs' : List Loc) (cells' slots' : Nat) (g' : JFrame), Stand p l e R s mI args below meth c T' locs' cells' slots' ∧ Steps p.tables e below (T.setTop g) (T'.setTop g') ∧ W p l e R s mI args below meth c T'.heap locs' cells' slots' Q g') : W p l e R s mI args below meth c H locs cells slots Q g := by
  intro T hT XX
  obtain ⟨T', locs', cells', slots', g', X', st, k⟩ := h T hT XX
  obtain ⟨t, a1, b1⟩ := k T' rfl X'
  exact ⟨t, st.trans a1, b1⟩
theorem vcall_of (hexec : p.tables.exec = Jvm.exec) {own C : String} {index : Nat} {y : MethodName} {bytes : ByteArray} {maxL : Nat} {ret : Option FieldType} (hown : s.vm.findClass own = some mI.cls) (hlink : (Cond.methodLink own index y).before args s = true) (hinst : (Cond.instanceMethod y).before args s = true) (hsel : (Cond.selects C y y).before args s = true)
    (hcode : (Cond.code y bytes maxL ret).before args s = true) (hy : y.cls ≠ "java/lang/invoke/MethodHandle" ∧ y.cls ≠ "java/lang/invoke/VarHandle") : VCall p l e R s mI args below meth c index C y := by
  intro T locs cells slots XX W Pre Post hK b cB hcB hrecv g hg hsize s₀ hcome argsL rest hlen hstack hW hdg hpre
  obtain ⟨cellB, hb1, hb2, hb3⟩ := hrecv
  obtain ⟨v, vm₁, B, h1, h2, h3, h4⟩ := callV XX hexec (C := C) (bytes := bytes) (maxL := maxL) (ret := ret) hown hlink hinst hsel hcode hy hK hb1 hb3 (by rw [hb2]; exact hcB) hg hsize hlen hstack hW hdg hpre
  exact ⟨v, vm₁, B, h1, h2, h3, hcome.trans (h4 _ (Steps.refl _))⟩
theorem eRep_kp {μ : eM} {H H1 : Heap} (hR : eRep B K dA D μ H) (hn : μ.1 ≤ 576) (hk : ∀ q : Nat, q < H.size → eAd B q → H1[q]? = H[q]?) : eRep B K dA D μ H1 := by
  refine va_P.kept hR (fun k x hx => ?_)
  have h1 := eWs_of B K dA hx
  have h2 := (hR k x hx).lt
  refine hk x.1 h2 ?_
  rw [h1.2]
  show B < B + (k + 1) ∧ B + (k + 1) ≤ B + 576
  omega
theorem eRep_sz {μ : eM} {H : Heap} (hR : eRep B K dA D μ H) (hn : μ.1 = 576) : B + 576 < H.size := by
  have h1 := eWs_at B K dA (a := 576) (n := μ.1) (p := μ.2.2.1) (h := μ.2.2.2) (by omega) (by omega)
  exact (hR _ _ h1).lt
/-- the builder, with what keeps her -/
def tBd (B : Nat) (s : State) (H : Heap) (x : Jvm.Free.SBG.Fix) (bC : Cell) (da : Addr) (A : Cell) (n : Nat) : Prop := Jvm.Free.SBG.Bd x bC da A n ({ s with heap := H } : State) ∧ ¬ eAd B x.b ∧ ¬ eAd B da ∧ ¬ eAd B x.st ∧ s.heap.size ≤ x.b ∧ s.heap.size ≤ da
theorem tBd_fr {H H1 : Heap} {x : Jvm.Free.SBG.Fix} {bC : Cell} {da : Addr} {A : Cell} {n : Nat} (hk : ∀ q : Nat, q < H.size → ¬ eAd B q → H1[q]? = H[q]?) (h : tBd B s H x bC da A n) : tBd B s H1 x bC da A n := by
  obtain ⟨h1, h2, h3, h4, h5, h6⟩ := h
  have g1 : H[x.b]? = some bC := h1.1.hb
  have g2 : H[da]? = some A := h1.1.2.2.2.2.2.2.2.2.2.2.2.2.1
  refine ⟨Jvm.Free.SBG.Bd.carry (U := ({ s with heap := H } : State)) (U' := ({ s with heap := H1 } : State)) (al_refl s) ((hk _ (Array.getElem?_eq_some_iff.mp g1).1 h2).trans g1) ((hk _ (Array.getElem?_eq_some_iff.mp g2).1 h3).trans g2) (fun c hc => ?_) h1, h2, h3, h4, h5, h6⟩
  have hc' : H[x.st]? = some c := hc
  exact (hk _ (Array.getElem?_eq_some_iff.mp hc').1 h4).trans hc'
/-- from the room of a state to that of the start, and back -/
theorem bd_in {T : State} {x : Jvm.Free.SBG.Fix} {bC : Cell} {da : Addr} {A : Cell} {n : Nat} (hA : s.vm.Alike T.vm) (h : Jvm.Free.SBG.Bd x bC da A n T) : Jvm.Free.SBG.Bd x bC da A n ({ s with heap := T.heap } : State) := by
  refine Jvm.Free.SBG.Bd.carry (U := T) (U' := ({ s with heap := T.heap } : State)) hA.symm h.1.hb h.1.2.2.2.2.2.2.2.2.2.2.2.2.1 (fun c hc => hc) h
theorem bd_out {T : State} {x : Jvm.Free.SBG.Fix} {bC : Cell} {da : Addr} {A : Cell} {n : Nat} (hA : s.vm.Alike T.vm) (h : Jvm.Free.SBG.Bd x bC da A n ({ s with heap := T.heap } : State)) : Jvm.Free.SBG.Bd x bC da A n T :=
  Jvm.Free.SBG.Bd.carry (U := ({ s with heap := T.heap } : State)) (U' := T) hA h.1.hb h.1.2.2.2.2.2.2.2.2.2.2.2.2.1 (fun c hc => hc) h
theorem sl_out {T : State} {q : Jvm.Free.SB.SQ} {cS : ClassId} (hA : s.vm.Alike T.vm) (h : Jvm.Free.SBG.Sl q cS ({ s with heap := T.heap } : State)) : Jvm.Free.SBG.Sl q cS T :=
  Jvm.Free.SBG.Sl.carry (U := ({ s with heap := T.heap } : State)) (U' := T) hA h.1.1 h.1.2.2.2.2.2.2.2.2.2.1 h
theorem sl_in {T : State} {q : Jvm.Free.SB.SQ} {cS : ClassId} (hA : s.vm.Alike T.vm) (h : Jvm.Free.SBG.Sl q cS T) : Jvm.Free.SBG.Sl q cS ({ s with heap := T.heap } : State) :=
  Jvm.Free.SBG.Sl.carry (U := T) (U' := ({ s with heap := T.heap } : State)) hA.symm h.1.1 h.1.2.2.2.2.2.2.2.2.2.1 h
theorem cmp_of {T : State} (hA : s.vm.Alike T.vm) (hk : ∀ q : Nat, q < s.heap.size → ¬ eAd B q → T.heap[q]? = s.heap[q]?) (hC : eCst B K s) : ∃ (st : Addr) (cell : Cell), Jvm.Free.SB.CompactAt T st 1 ∧ ¬ eAd B st ∧ st < s.heap.size ∧ T.heap[st]? = some cell ∧ cell.vm.isStatics = true := by
  obtain ⟨cf, kf, fi, f, a, cell, h1, h2, h3, h4, h5, h6, h7, h8⟩ := hC.2.2.2.2.2.2.2.2.2.2.2.2.1
  obtain ⟨k', hi', he⟩ := State.fieldFound?_setVm hA h1
  have hlt := (Array.getElem?_eq_some_iff.mp h5).1
  have h9 : T.heap[a]? = some cell := (hk a hlt h8).trans h5
  exact ⟨a, cell, ⟨cf, fi, k', f, cell, hi', h2, by rw [he]; exact h3, by rw [he]; exact h4, h9, fun z => by rw [z] at h6; cases h6, h7⟩, h8, hlt, h9, h6⟩
set_option maxHeartbeats 2000000 in
theorem cat_a (hx : p.tables.exec = Jvm.exec) (hb : c.code = mBy m_L_sounds) (hml : c.maxLocals = ewMax m_L_sounds) (hown : s.vm.findClass "EchoWellsLaw" = some mI.cls) (hts : ∀ w ∈ ewL4, w.before args s = true) (hC : eCst B K s)
    {H : Heap} {locs : List Loc} {lsA : Array Slot} (hS : va_S (eAd B) s.heap H locs) (hsz : B + 576 < H.size) (hlsz : lsA.size = ewMax m_L_sounds) {a17 : Nat} {t : List Int} (h17 : lsA[17]? = some (.val (.ref a17))) (htx : tTx B s H a17 t) (htl : t.length ≤ 20)
    (hRf : 13 ≤ R.frames) (hRl : 832 ≤ R.locals) (hcs : cells + 3 ≤ R.cells) (hss : slots + 54 ≤ R.slots)
    (kk : ∀ (x : Jvm.Free.SBG.Fix) (bC : Cell) (da : Addr) (A : Cell) (H1 : Heap), tBd B s H1 x bC da A t.length → A.slots.size ≤ 34 → (∀ i : Nat, i < t.length → A.slots[i]? = some (.int (Int32.ofInt (t.getD i 0)))) → H.size ≤ H1.size → (∀ q : Nat, q < H.size → H1[q]? = H[q]?) →
      W p l e R s mI args below meth c H1 locs (cells + 3) (slots + 54) Q (F0 mI 217 lsA [.ref x.b])) :
    W p l e R s mI args below meth c H locs cells slots Q (F0 mI 205 lsA []) := by
  obtain ⟨-, -, -, q, cS, hqa, hsl, hql, hq1, hq2, hqs⟩ := htx
  have hBH : s.heap.size ≤ H.size := hS.1
  refine W.newc hx hb hown (hts _ (in4 (wd_mem (j := 1298) rfl) rfl)) (hts _ (in4 (wd_mem (j := 1299) rfl) rfl)) (hts _ (in4 (wd_mem (j := 30) rfl) rfl)) (g := F0 mI 205 lsA []) rfl sb_d.1 (by omega) (by omega) (fun cC kC h1 h2 h3 h4 => ?_)
  refine lv_dup (pc := 208) hx hb sb_d.2.1 rfl ?_
  refine W_via (fun T hT XX => ?_)
  have hAl := XX.warmed.alike
  have hTs : T.heap.size = H.size + 1 := by rw [hT]; simp
  have hTo : ∀ y : Nat, y < H.size → T.heap[y]? = H[y]? := fun y hy => by rw [hT, Array.getElem?_push, if_neg (Nat.ne_of_lt hy)]
  have hTb : T.heap[H.size]? = some { cls := cC, slots := kC.instanceTypes.map defaultValue, vm := .none } := by rw [hT]; simp
  obtain ⟨st, cst, hc1, hc2, hc3, hc4, hc5⟩ := cmp_of (T := T) hAl (fun y h5 h6 => (hTo y (by omega)).trans (hS.2.1 y h5 h6)) hC
  have hcall : SCall p l e R s mI args below meth c 290 Jvm.Free.SB.sbInitN := SCall.of_words hx rfl hown (hts _ (in4 (wd_mem (j := 1300) rfl) rfl)) (hts _ (in4 (wd_mem (j := 1301) rfl) rfl)) (hts _ (in4 (wd_mem (j := 1302) rfl) rfl)) (by decide)
  obtain ⟨T', L', x, bC', hxb, hxs, hxz, X', hL', hBd, hsz', kept, come⟩ := XX.sbInitV hx hcall (hts _ (in4 (wd_mem (j := 30) rfl) rfl)) (flat_before _ (inT_of tb_1 hts)) (inT_of tb_8 hts) hc1 (by decide) h1 h2 h3 hTb (by omega) (W := 8) (g := F0 mI 209 lsA [.ref H.size, .ref H.size]) rfl (by rw [hml]; exact hlsz) (Steps.refl _) (rest := [.ref H.size]) rfl (by simp [Value.category]) (by rw [hb]; exact sb_d.2.2.1) (by omega) (by omega) (by omega) (by omega)
  refine ⟨T', locs ++ L', _, _, F0 mI 212 lsA [.ref H.size], X', come, ?_⟩
  refine W.forget (fun w hw => by rw [hL' w hw]; exact hBH) ?_
  have hA' := X'.warmed.alike
  have hT'o : ∀ y : Nat, y < H.size → T'.heap[y]? = H[y]? := by
    intro y hy
    cases hq : H[y]? with
    | none => exact absurd (Array.getElem?_eq_none_iff.mp hq) (by omega)
    | some cy => exact kept y cy (by omega) ((hTo y hy).trans hq)
  refine lv_aload (pc := 212) hx hb sb_d.2.2.2.1 h17 ?_
  refine W_via (fun T2 hT2 X2 => ?_)
  have hAl2 := X2.warmed.alike
  have hB2 : Jvm.Free.SBG.Bd x bC' T.heap.size (Jvm.Free.SB.zeros x.cB 16) 0 T2 := bd_out hAl2 (by rw [hT2]; exact bd_in hA' hBd)
  have hsa : q.sa < H.size := (Array.getElem?_eq_some_iff.mp (show H[q.sa]? = some q.sC from hsl.1.1)).1
  have hsd : q.sd < H.size := (Array.getElem?_eq_some_iff.mp (show H[q.sd]? = some q.SA from hsl.1.2.2.2.2.2.2.2.2.2.1)).1
  have hS2 : Jvm.Free.SBG.Sl q cS T2 := Jvm.Free.SBG.Sl.carry (U := ({ s with heap := H } : State)) (U' := T2) hAl2 (by rw [hT2]; exact (hT'o _ hsa).trans hsl.1.1) (by rw [hT2]; exact (hT'o _ hsd).trans hsl.1.2.2.2.2.2.2.2.2.2.1) hsl
  have hap : Jvm.Free.SBG.Apart x T.heap.size q := by
    refine ⟨fun z => ?_, by omega, by omega, by omega, by omega⟩
    have z1 : T.heap[q.sa]? = some q.sC := (hTo _ hsa).trans hsl.1.1
    rw [z, hxs, hc4] at z1
    cases z1
    have z2 := hsl.1.2.2.1
    rw [hc5] at z2
    cases z2
  have hcall2 : VCall p l e R s mI args below meth c 291 Jvm.Free.SB.SBC Jvm.Free.SB.sbAppendSN := vcall_of hx hown (hts _ (in4 (wd_mem (j := 1328) rfl) rfl)) (hts _ (in4 (wd_mem (j := 1329) rfl) rfl)) (hts _ (in4 (wd_mem (j := 1330) rfl) rfl)) (hts _ (in4 (wd_mem (j := 1331) rfl) rfl)) (by decide)
  have hzs : (Jvm.Free.SB.zeros x.cB 16).slots.size = 16 := by simp [Jvm.Free.SB.zeros]
  obtain ⟨T3, L3, bC3, da3, A3, X3, hL3, hB3, hk3, hc3', hda3, hA3, hsz3, kept3, come3⟩ := X2.sbAppendSV hx hcall2 (hts _ (in4 (wd_mem (j := 30) rfl) rfl)) (flat_before _ (inT_of tb_2 hts)) (flat_before _ (inT_of tb_3 hts)) hB2 hS2 hap (cap := 34) (by rw [hzs]; unfold Jvm.Free.SBG.grownN; omega) (by rw [hzs]; unfold Jvm.Free.SBG.grownN; omega) (W := 8) (g := F0 mI 214 lsA [.ref a17, .ref H.size]) rfl (by rw [hml]; exact hlsz) (Steps.refl _) (rest := []) (by rw [hqa, hxb]) (by simp) (by rw [hb]; exact sb_d.2.2.2.2) (by omega) (by omega) (by omega) (by omega)
  refine ⟨T3, locs ++ L3, _, _, F0 mI 217 lsA [.ref x.b], X3, come3, ?_⟩
  refine W.forget (fun w hw => by rcases hL3 w hw with z | z <;> rw [z] <;> omega) ?_
  have hT3o : ∀ y : Nat, y < H.size → T3.heap[y]? = H[y]? := by
    intro y hy
    cases hq : H[y]? with
    | none => exact absurd (Array.getElem?_eq_none_iff.mp hq) (by omega)
    | some cy => exact kept3 y cy (by omega) (by omega) (by rw [hT2]; exact (hT'o y hy).trans hq)
  have hT2s : T2.heap.size = T'.heap.size := by rw [hT2]
  have k1 := kk x bC3 da3 A3 T3.heap ⟨by have := bd_in X3.warmed.alike hB3; rw [Nat.zero_add, hql] at this; exact this, fun z => by have := z.2; omega, fun z => by have := z.2; rcases hda3 with w | w <;> omega, by rw [hxs]; exact hc2, by omega, by rcases hda3 with w | w <;> omega⟩ (by
    rw [hzs] at hA3
    unfold Jvm.Free.SBG.grownN at hA3
    omega) (fun i hi => by
    have h5 := hc3' i (by omega)
    rw [Nat.zero_add] at h5
    rw [h5]
    exact hqs i hi) (by omega) hT3o
  exact W_more (by omega) (by omega) k1
theorem ch8 {x : Int} (h0 : 0 ≤ x) (h1 : x < 128) : (Int32.ofInt x).toInt8.toInt32 = Int32.ofInt x ∧ (0 : Int32) ≤ Int32.ofInt x ∧ Int32.ofInt x ≤ 255 := by
  have h : ∀ k : Nat, k < 128 → (Int32.ofInt (k : Int)).toInt8.toInt32 = Int32.ofInt (k : Int) ∧ (0 : Int32) ≤ Int32.ofInt (k : Int) ∧ Int32.ofInt (k : Int) ≤ 255 := by decide +kernel
  obtain ⟨k, rfl⟩ : ∃ k : Nat, x = (k : Int) := ⟨x.toNat, by omega⟩
  exact h k (by omega)
theorem va_of_sl {T : State} {q : Jvm.Free.SB.SQ} {cS : ClassId} {t : List Int} (hA : s.vm.Alike T.vm) (h : Jvm.Free.SBG.Sl q cS T) (hl : q.len = t.length) (h1 : ¬ eAd B q.sa) (h2 : ¬ eAd B q.sd) (hc : ∀ i : Nat, i < t.length → q.SA.slots[i]? = some (.int (Int32.ofInt (t.getD i 0)))) : tVa B s T.heap q.sa t := by
  obtain ⟨⟨g1, g2, g3, ⟨cV, kV, iV, g4, g4b⟩, ⟨cC, kC, iC, g5, g5b⟩, g6, g7, g8, g9, g10, g11, g12, g13, g14, g15, g16⟩, gc, gcl⟩ := h
  obtain ⟨kV', fV', -⟩ := State.fieldFound?_setVm (s := T) hA.symm g4
  obtain ⟨kC', fC', -⟩ := State.fieldFound?_setVm (s := T) hA.symm g5
  refine ⟨q.sd, ⟨q.sC, g1, g3, ?_, h1⟩, ⟨cC, kC', iC, q.fSC, q.sC, fC', g7, g1, g2, g9, h1⟩, ⟨cV, kV', iV, q.fSV, q.sC, fV', g6, g1, g2, g8, h1⟩, ⟨q.SA, g10, State.isArrayOf_alike hA.symm g11, g12, by omega, ?_, hc, h2⟩⟩
  · rw [gcl, ← hA.findClass]
    exact gc
  · rw [g13, hl]
    rfl
set_option maxHeartbeats 2000000 in
theorem cat_b (hx : p.tables.exec = Jvm.exec) (hb : c.code = mBy m_L_sounds) (hml : c.maxLocals = ewMax m_L_sounds) (hown : s.vm.findClass "EchoWellsLaw" = some mI.cls) (hts : ∀ w ∈ ewL4, w.before args s = true)
    {H : Heap} {locs : List Loc} {lsA : Array Slot} {ls : List eV} (hL : eLR B K s m_L_sounds H lsA (ewMax m_L_sounds) ls) (hsz : B + 576 < H.size) (hBH : s.heap.size ≤ H.size) {x : Jvm.Free.SBG.Fix} {bC : Cell} {da : Addr} {A : Cell} {t : List Int} (hBd : tBd B s H x bC da A t.length) (hA : A.slots.size ≤ 34) (hAc : ∀ i : Nat, i < t.length → A.slots[i]? = some (.int (Int32.ofInt (t.getD i 0)))) (htl : t.length ≤ 20) (htc : ∀ y ∈ t, 0 ≤ y ∧ y < 128) {v : Int} (hv0 : 0 ≤ v) (hv1 : v < 128)
    (hRf : 13 ≤ R.frames) (hRl : 832 ≤ R.locals) (hcs : cells + 3 ≤ R.cells) (hss : slots + 144 ≤ R.slots)
    (kk : ∀ (H1 : Heap) (lsB : Array Slot), eLR B K s m_L_sounds H1 lsB (ewMax m_L_sounds) (eSt ls 17 (vT (t ++ [v]))) → H.size ≤ H1.size → (∀ q : Nat, q < H.size → q ≠ x.b → q ≠ da → H1[q]? = H[q]?) →
      W p l e R s mI args below meth c H1 locs (cells + 3) (slots + 144) Q (F0 mI 235 lsB [])) :
    W p l e R s mI args below meth c H locs cells slots Q (F0 mI 225 lsA [.long (Int64.ofInt v), .ref x.b]) := by
  obtain ⟨hB0, hb1, hb2, hb3, hb4, hb5⟩ := hBd
  have hvR : inR v := by unfold inR; omega
  have hlsz : lsA.size = ewMax m_L_sounds := hL.1
  refine lv_l2i (pc := 225) hx hb sb_d3.1 (oL_l2i (inR_8 hvR)) ?_
  rw [wr_id hvR]
  refine lv_i2c (pc := 226) hx hb sb_d3.2.1 (oI_c hvR) ?_
  rw [show v % 65536 = v by omega]
  refine W_via (fun T hT XX => ?_)
  have hAl := XX.warmed.alike
  have hB1 : Jvm.Free.SBG.Bd x bC da A t.length T := bd_out hAl (by rw [hT]; exact hB0)
  obtain ⟨c1, c2, c3⟩ := ch8 hv0 hv1
  have hcall : VCall p l e R s mI args below meth c 296 Jvm.Free.SB.SBC Jvm.Free.SB.sbAppendCN := vcall_of hx hown (hts _ (in4 (wd_mem (j := 1432) rfl) rfl)) (hts _ (in4 (wd_mem (j := 1433) rfl) rfl)) (hts _ (in4 (wd_mem (j := 1434) rfl) rfl)) (hts _ (in4 (wd_mem (j := 1435) rfl) rfl)) (by decide)
  obtain ⟨T1, L1, bC1, da1, A1, X1, hL1, hB2, hk1, hn1, hda1, hA1, hsz1, kept1, come1⟩ := XX.sbAppendCV hx hcall (hts _ (in4 (wd_mem (j := 30) rfl) rfl)) (flat_before _ (inT_of tb_4 hts)) (flat_before _ (inT_of tb_5 hts)) hB1 c2 c3 (cap := 70) (by unfold Jvm.Free.SBG.grownN; omega) (by unfold Jvm.Free.SBG.grownN; omega) (W := 8) (g := F0 mI 227 lsA [.int (Int32.ofInt v), .ref x.b]) rfl (by rw [hml]; exact hlsz) (Steps.refl _) (rest := []) rfl (by simp) (by rw [hb]; exact sb_d3.2.2.1) (by omega) (by omega) (by omega) (by omega)
  refine ⟨T1, locs ++ L1, _, _, F0 mI 230 lsA [.ref x.b], X1, come1, ?_⟩
  refine W.forget (fun w hw => by rcases hL1 w hw with z | z <;> rw [z] <;> omega) ?_
  refine W_via (fun T2 hT2 X2 => ?_)
  have hB3 : Jvm.Free.SBG.Bd x bC1 da1 A1 (t.length + 1) T2 := bd_out X2.warmed.alike (by rw [hT2]; exact bd_in X1.warmed.alike hB2)
  have hA1s : A1.slots.size ≤ 70 := by
    unfold Jvm.Free.SBG.grownN at hA1
    omega
  have hcall2 : VCall p l e R s mI args below meth c 299 Jvm.Free.SB.SBC Jvm.Free.SB.sbToStringN := vcall_of hx hown (hts _ (in4 (wd_mem (j := 1445) rfl) rfl)) (hts _ (in4 (wd_mem (j := 1446) rfl) rfl)) (hts _ (in4 (wd_mem (j := 1447) rfl) rfl)) (hts _ (in4 (wd_mem (j := 1448) rfl) rfl)) (by decide)
  obtain ⟨T3, q, cS, X3, hq1, hq2, hq3, hsl, -, -, hqs, keep3, come3⟩ := X2.sbToStringGV hx hcall2 (hts _ (in4 (wd_mem (j := 30) rfl) rfl)) (flat_before _ (inT_of tb_6 hts)) (flat_before _ (inT_of tb_7 hts)) (inT_of tb_9 hts) hB3 (W := 8) (g := F0 mI 230 lsA [.ref x.b]) rfl (by rw [hml]; exact hlsz) (Steps.refl _) (rest := []) rfl (by simp) (by rw [hb]; exact sb_d3.2.2.2.1) (by omega) (by omega) (by omega) (by omega)
  refine ⟨T3, locs, _, _, F0 mI 233 lsA [.ref T2.heap.size], X3, come3, ?_⟩
  have hT3o : ∀ y : Nat, y < H.size → y ≠ x.b → y ≠ da → T3.heap[y]? = H[y]? := by
    intro y hy h5 h6
    cases hq : H[y]? with
    | none => exact absurd (Array.getElem?_eq_none_iff.mp hq) (by omega)
    | some cy =>
      have w1 : T1.heap[y]? = some cy := kept1 y cy h5 h6 (by rw [hT]; exact hq)
      exact keep3 y cy (by rw [hT2]; exact w1)
  have hT2s : H.size ≤ T2.heap.size := by rw [hT2]; rw [← hT]; exact hsz1
  have hT3s : H.size ≤ T3.heap.size := by
    have z1 : T3.heap[q.sa]? = some q.sC := hsl.1.1
    have z2 := (Array.getElem?_eq_some_iff.mp z1).1
    omega
  have n1 : ¬ eAd B q.sa := fun z => by have := z.2; omega
  have n2 : ¬ eAd B q.sd := fun z => by have := z.2; omega
  have hcont : ∀ i : Nat, i < (t ++ [v]).length → q.SA.slots[i]? = some (.int (Int32.ofInt ((t ++ [v]).getD i 0))) := by
    intro i hi
    rw [List.length_append, List.length_singleton] at hi
    rw [hqs i hi]
    by_cases h5 : i < t.length
    · rw [hk1 i h5, hAc i h5, List.getD_eq_getElem?_getD, List.getD_eq_getElem?_getD, List.getElem?_append_left h5]
    · have h6 : i = t.length := by omega
      subst h6
      rw [hn1, c1, List.getD_eq_getElem?_getD, List.getElem?_append_right (Nat.le_refl _), Nat.sub_self]
      rfl
  have hlen : q.len = (t ++ [v]).length := by rw [hq3, List.length_append, List.length_singleton]
  have htx : tTx B s T3.heap q.sa (t ++ [v]) := by
    refine ⟨by rw [List.length_append, List.length_singleton]; omega, fun y hy => ?_, va_of_sl X3.warmed.alike hsl hlen n1 n2 hcont, q, cS, rfl, sl_in X3.warmed.alike hsl, hlen, n1, n2, hcont⟩
    rcases List.mem_append.mp hy with h | h
    · exact htc y h
    · rw [List.mem_singleton] at h
      subst h
      exact ⟨hv0, hv1⟩
  have hlt : 17 < ewMax m_L_sounds := by decide +kernel
  have hL3 : lv_has lsA (ewMax m_L_sounds) (eKn B K lsA ls) := eLR.has B K hL
  refine lv_astore (pc := 233) hx hb sb_d3.2.2.2.2 hL3 hlt rfl (fun lsB hl2 => ?_)
  have hLo : eLR B K s m_L_sounds T3.heap lsB (ewMax m_L_sounds) (eSt ls 17 (vT (t ++ [v]))) := by
    rw [hq1] at htx
    obtain ⟨a1, a2, a3⟩ := hl2
    refine ⟨a1, a2, by rw [eSt_len]; exact hL.2.2.1, ?_, ?_⟩
    · intro k w hk hj
      rcases eSt_at hk (nJ_of hj) with ⟨rfl, rfl, -⟩ | ⟨hne, hl, hd⟩
      · cases hj
      · exact a3 (k, cv B K w) (List.mem_cons_of_mem _ (eKn_fl B K hl (Or.inr ⟨eJT hj, hj, rfl⟩) hne hd))
    · intro hm k t' h17 hk
      rcases eSt_at hk (fun z => by cases z) with ⟨rfl, hz, -⟩ | ⟨hne, hl, hd⟩
      · cases hz
        exact ⟨_, a3 _ List.mem_cons_self, htx⟩
      · exact absurd h17 hne
  have k1 := kk T3.heap lsB hLo hT3s hT3o
  exact W_more (by omega) (by omega) k1
theorem tx_lv : mLv m_L_sounds = 13 ∧ mLv m_L_echoLetter = 12 ∧ ewMax m_L_echoLetter ≤ 40 ∧ (mAr m_L_echoLetter).length = 3 ∧ mKd m_L_echoLetter = 0 ∧ mHh m_L_sounds = [] := by decide +kernel
set_option maxHeartbeats 2000000 in
/-- a letter is put behind: the builder, the call that gives the letter, the new text -/
theorem op_95 (C : eCx B K dA D p l s mI args meth c m_L_sounds) {ls : List eV} {ob : Nat} {w j : Int} {t : List Int} (l0 : ls[0]? = some (vR ob)) (l4 : ls[4]? = some (vI w)) (l17 : ls[17]? = some (vT t)) (l18 : ls[18]? = some (vI j)) (htl : t.length ≤ 20) {n e0 : Nat} {pp : Nat → Nat → Nat} {hh : Nat → Nat → Int} (hn : n = 576) (he : 0 < e0) {o : eO} {μ1 : eM} (hn1 : μ1.1 = 576)
    (hbd : eBd B K dA D l m_L_echoLetter [vR ob, vI w, vI j] (n, e0, pp, hh) o μ1 mc ms) (hRf : mLv m_L_sounds ≤ R.frames) (hRl : 64 * mLv m_L_sounds ≤ R.locals) (hcs : cells + mc + 40 ≤ R.cells) (hss : slots + ms + 240 ≤ R.slots)
    (ko : ∀ v, o = .inl v → ∃ x : Int, v = some (vL x) ∧ 0 ≤ x ∧ x < 128)
    (kv : ∀ x : Int, o = .inl (some (vL x)) → 0 ≤ x → x < 128 → eVv B K dA D p l e R s mI args below meth c Q m_L_sounds (cells + mc + 40) (slots + ms + 240) 126 (eSt ls 17 (vT (t ++ [x]))) [] (μ1.1, μ1.2.1 + 40, μ1.2.2))
    (kx : ∀ k, o = .inr k → 1 ≤ k → k ≤ 5 → ∀ (lsA : Array Slot) (rest : List Value) (ce : Cell) (q : Addr) (H1 : Heap) (locs1 : List Loc), eRep B K dA D μ1 H1 → va_S (eAd B) s.heap H1 locs1 → H1[q]? = some ce → ce.vm = .none → s.vm.findClass (ewEx k) = some ce.cls → vx_W p l e R s mI args below meth c H1 locs1 (cells + 3 + mc) (slots + 54 + ms) Q (F0 mI 222 lsA rest) q) :
    eVv B K dA D p l e R s mI args below meth c Q m_L_sounds cells slots 112 ls [] (n, e0, pp, hh) := by
  obtain ⟨hx, hbc, hr, hml, hown, hts, hlk, htb, hnm, hst, hB1, hK, hC⟩ := C
  have hown2 : s.vm.findClass "EchoWellsLaw" = some mI.cls := by rw [← tx_m.2.2.2.2.2.2.2]; exact hown
  have hal : m_L_echoLetter < m_L_law := by decide
  obtain ⟨hini, -, hmh, hpd, hal1, hmx, -, hk1, hstat, hinst⟩ := chM_spec hal
  obtain ⟨hcw4, hcwg⟩ := eCw_in hal
  obtain ⟨lv1, lv2, lv3, lv4, lv5, lv6⟩ := tx_lv
  intro H locs lsA hR hS hL
  rw [tx_m.2.2.1]
  obtain ⟨a17, h17, htx⟩ := hL.2.2.2.2 rfl 17 t rfl l17
  have htx0 := htx
  obtain ⟨-, htc, -, -⟩ := htx0
  have hsz := eRep_sz hR hn
  refine cat_a hx hbc hml hown2 hts hC hS hsz hL.1 h17 htx htl (by omega) (by omega) (by omega) (by omega) (fun x bC da A H1 hBd hA hAc hH1 hH1o => ?_)
  have hS1 : va_S (eAd B) s.heap H1 locs := ⟨Nat.le_trans hS.1 hH1, fun q h1 h2 => (hH1o q (Nat.lt_of_lt_of_le h1 hS.1)).trans (hS.2.1 q h1 h2), hS.2.2⟩
  have hR1 : eRep B K dA D (n, e0, pp, hh) H1 := eRep_kp hR (by show n ≤ 576; omega) (fun q h1 _ => hH1o q h1)
  have hL1 : eLR B K s m_L_sounds H1 lsA (ewMax m_L_sounds) ls := hL.fr B K (fun q h1 _ => hH1o q h1)
  have hl0 := hL.2.2.2.1 0 _ l0 rfl
  have hl4 := hL.2.2.2.1 4 _ l4 rfl
  have hl18 := hL.2.2.2.1 18 _ l18 rfl
  have hpush : ∀ g : JFrame, W p l e R s mI args below meth c H1 locs (cells + 3) (slots + 54) Q (F0 mI 218 lsA [cv B K (vR ob), .ref x.b]) → W p l e R s mI args below meth c H1 locs (cells + 3) (slots + 54) Q (F0 mI 217 lsA [.ref x.b]) := by
    intro _ h1
    by_cases hz : ob = 0
    · subst hz
      exact lv_aload_nN hx hbc sb_d2.1 rfl hl0 h1
    · obtain ⟨q, hq⟩ := rv_ref (B := B) (K := K) hz
      have hl0' : lsA[0]? = some (.val (.ref q)) := by rw [← hq]; exact hl0
      refine lv_aload_n hx hbc sb_d2.1 rfl hl0' ?_
      rw [← hq]
      exact h1
  refine hpush (F0 mI 217 lsA []) ?_
  refine lv_iload (pc := 218) hx hbc sb_d2.2.1 hl4 ?_
  refine lv_iload (pc := 220) hx hbc sb_d2.2.2.1 hl18 ?_
  have hM := eMt_of (l := l) hal hst (as := [vR ob, vI w, vI j]) rfl (by rw [lv4] at hal1; exact hal1) (by intro y hy; simp only [List.mem_cons, List.not_mem_nil, or_false] at hy; rcases hy with rfl | rfl | rfl <;> rfl) hbd
  unfold eMt at hM
  have hPc : ∀ U : State, U.heap = H1 → s.WarmedH U.vm → ePc B K dA D [vR ob, vI w, vI j] (n, e0, pp, hh) ([vR ob, vI w, vI j].map (cv B K)).toArray U := fun U hU hW => ⟨rfl, ewI_moved hts hK hC hB1 hW (by rw [hU]; exact hS1.1) (fun q h1 h2 => by rw [hU]; exact hS1.2.1 q h1 h2), by rw [hU]; exact hR1, fun h => absurd h (by show ¬ e0 = 0; omega)⟩
  have hfr : (eRm m_L_echoLetter mc ms).frames + 1 ≤ R.frames := by show mLv m_L_echoLetter + 1 ≤ _; omega
  have hlo : 8 + (ewMax m_L_echoLetter + 11) + (eRm m_L_echoLetter mc ms).locals ≤ R.locals := by show 8 + (ewMax m_L_echoLetter + 11) + 64 * mLv m_L_echoLetter ≤ _; omega
  have hcw : eCw m_L_echoLetter = .codeWith (mNm m_L_echoLetter) (mBy m_L_echoLetter) (ewMax m_L_echoLetter) (mRt m_L_echoLetter) (mHh m_L_echoLetter) := rfl
  have hws : ∀ w ∈ [eCw m_L_echoLetter], ∀ (a' : Array Value) (U : State), s.WarmedH U.vm → w.before a' U = true := by
    intro w hw a' U hW
    rw [List.mem_singleton] at hw
    subst hw
    exact word_at hW (good_of_word hcwg) (hts _ hcw4)
  have hfix : CallFix p mI c (mBy m_L_sounds) (ewMax m_L_sounds) s args ewL4 (mNm m_L_sounds).cls := ⟨hx, hbc, hml, hown, hts⟩
  have hlenD : ∀ sig, parseMethodDescriptor (mNm m_L_echoLetter).desc = some sig → 3 = sig.parameters.length := by
    intro sig hsig
    rw [hsig] at hpd
    simp only [Option.map_some, Option.some.injEq] at hpd
    rw [if_pos lv5, lv4] at hpd
    omega
  rw [hcw] at hM hws hcw4
  have hrun : vx_Run p l e R s mI args below meth c H1 locs (cells + 3) (slots + 54) mc ms (F0 mI 222 lsA [.int (Int32.ofInt j), .int (Int32.ofInt w), cv B K (vR ob), .ref x.b]) [.ref x.b] (eQc B K dA D o μ1 ([vR ob, vI w, vI j].map (cv B K)).toArray) (eXC B K dA D o μ1) (eAd B) :=
    vx_runSX hfix hM ⟨⟨rfl, rfl, hfr, hlo, hws, List.mem_singleton.mpr rfl⟩, hts _ hcw4, hts _ hini, hmh, hlenD, hts _ (in4 (wd_mem (j := 1425) rfl) rfl), hts _ (hstat lv5)⟩ ⟨ePc_blind, hPc⟩ rfl rfl hL.1 rfl (by simp [Value.category]) sb_d2.2.2.2 ⟨by omega, by omega⟩
  refine eCall_W hrun hS1 (fun k hk k1 k2 ce q H2 locs2 r1 r2 r3 r4 r5 => kx k hk k1 k2 lsA [.ref x.b] ce q H2 locs2 r1 r2 r3 r4 r5) (fun v hv H2 locs2 r0 r1 r2 => ?_)
  obtain ⟨xx, rfl, hx0, hx1⟩ := ko v hv
  have hL2 := hL1.fr B K r0
  have hsz2 : B + 576 < H2.size := eRep_sz r1 hn1
  have hBd2 := tBd_fr r0 hBd
  obtain ⟨-, nb1, nb2, -, nb4, nb5⟩ := id hBd2
  refine W_more (cells' := cells + 3 + mc) (slots' := slots + 54 + ms) (Nat.le_refl _) (Nat.le_refl _) ?_
  refine cat_b (cells := cells + 3 + mc) (slots := slots + 54 + ms) hx hbc hml hown2 hts hL2 hsz2 r2.1 hBd2 hA hAc htl htc hx0 hx1 (by omega) (by omega) (by omega) (by omega) (fun H3 lsB hL3 hH3 hH3o => ?_)
  have k1 := kv xx hv hx0 hx1 H3 locs2 lsB (eRep_kp (μ := (μ1.1, μ1.2.1 + 40, μ1.2.2)) r1 (by show μ1.1 ≤ 576; omega) (fun q h1 h2 => hH3o q h1 (fun z => nb1 (by rw [← z]; exact h2)) (fun z => nb2 (by rw [← z]; exact h2)))) ⟨Nat.le_trans r2.1 hH3, fun q h1 h2 => (hH3o q (Nat.lt_of_lt_of_le h1 r2.1) (fun z => by omega) (fun z => by omega)).trans (r2.2.1 q h1 h2), r2.2.2⟩ hL3
  rw [tx_m.2.2.2.1] at k1
  exact W_more (by omega) (by omega) k1
end
