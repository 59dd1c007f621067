/-! the small machine's memory in the JVM's heap -/
/-- where the cells lie -/
def eAd (B : Nat) : Nat → Prop := fun q => B < q ∧ q ≤ B + 576
def eKs : List Nat := [1, 2, 3, 4, 6, 7, 8, 9, 10, 11, 12]
abbrev eCl : List vw_C := [(RX1, TX1, 3), (RX2, TX2, 3), (RX3, TX3, 3), (RX4, TX4, 2), (RX6, TX6, 6), (RX7, TX7, 2), (RX8, TX8, 3), (RX9, TX9, 4), (RX10, TX10, 9), (RX11, TX11, 13), (RX12, TX12, 12)]
def eIx (k : Nat) : Nat := if k ≤ 4 then k - 1 else k - 2
def eRc (k : Nat) : String := match k with | 1 => RX1 | 2 => RX2 | 3 => RX3 | 4 => RX4 | 6 => RX6 | 7 => RX7 | 8 => RX8 | 9 => RX9 | 10 => RX10 | 11 => RX11 | _ => RX12
def eT (k : Nat) : u_T := match k with | 1 => TX1 | 2 => TX2 | 3 => TX3 | 4 => TX4 | 6 => TX6 | 7 => TX7 | 8 => TX8 | 9 => TX9 | 10 => TX10 | 11 => TX11 | _ => TX12
def eN (k : Nat) : Nat := match k with | 1 => 3 | 2 => 3 | 3 => 3 | 4 => 2 | 6 => 6 | 7 => 2 | 8 => 3 | 9 => 4 | 10 => 9 | 11 => 13 | _ => 12
def eTy (k : Nat) : Nat → FieldType := match k with | 1 => tyX1 | 2 => tyX2 | 3 => tyX3 | 4 => tyX4 | 6 => tyX6 | 7 => tyX7 | 8 => tyX8 | 9 => tyX9 | 10 => tyX10 | 11 => tyX11 | _ => tyX12
/-- 0 a number, 1 a reference, 2 a constant of the enum (a number of mine) -/
def eFt (t : FieldType) : Nat := match t with
  | .int => 0
  | .boolean => 0
  | .object "EchoWells$Order" => 2
  | _ => 1
theorem eCl_at : ∀ k ∈ eKs, eCl[eIx k]? = some (eRc k, eT k, eN k) := by
  intro k hk
  simp only [eKs, List.mem_cons, List.not_mem_nil, or_false] at hk
  rcases hk with rfl | rfl | rfl | rfl | rfl | rfl | rfl | rfl | rfl | rfl | rfl <;> rfl
theorem eCl_in : ∀ k ∈ eKs, ∀ w ∈ u_ws (eRc k) (eT k) (eN k), w ∈ lw_tbl := by
  intro k hk
  simp only [eKs, List.mem_cons, List.not_mem_nil, or_false] at hk
  rcases hk with rfl | rfl | rfl | rfl | rfl | rfl | rfl | rfl | rfl | rfl | rfl <;> decide +kernel
theorem eCl_ty : ∀ k ∈ eKs, ∀ j, j < eN k → parseFieldDescriptor ((eT k) j).2.2.1 = some (eTy k j) := by
  intro k hk
  simp only [eKs, List.mem_cons, List.not_mem_nil, or_false] at hk
  rcases hk with rfl | rfl | rfl | rfl | rfl | rfl | rfl | rfl | rfl | rfl | rfl
  · exact tyX1_ok
  · exact tyX2_ok
  · exact tyX3_ok
  · exact tyX4_ok
  · exact tyX6_ok
  · exact tyX7_ok
  · exact tyX8_ok
  · exact tyX9_ok
  · exact tyX10_ok
  · exact tyX11_ok
  · exact tyX12_ok
theorem eCl_nm : ∀ k ∈ eKs, ∀ a, a < eN k → ∀ b, b < eN k → a ≠ b → ((eT k) a).2.1 ≠ ((eT k) b).2.1 := by
  intro k hk
  simp only [eKs, List.mem_cons, List.not_mem_nil, or_false] at hk
  rcases hk with rfl | rfl | rfl | rfl | rfl | rfl | rfl | rfl | rfl | rfl | rfl
  · exact nmX1
  · exact nmX2
  · exact nmX3
  · exact nmX4
  · exact nmX6
  · exact nmX7
  · exact nmX8
  · exact nmX9
  · exact nmX10
  · exact nmX11
  · exact nmX12
theorem eCl_gd : ∀ k ∈ eKs, ∀ w ∈ u_ws (eRc k) (eT k) (eN k), goodWord w = true := by
  intro k hk
  simp only [eKs, List.mem_cons, List.not_mem_nil, or_false] at hk
  rcases hk with rfl | rfl | rfl | rfl | rfl | rfl | rfl | rfl | rfl | rfl | rfl <;> decide +kernel
section
variable (B : Nat) (K : Nat → Nat) (dA : Nat → ClassId)
/-- a reference: null, a cell, a constant -/
def rv (a : Nat) : Value := if a = 0 then .null else if a < 1000 then .ref (B + a) else .ref (K a)
def rvo (a : Nat) : Option Nat := if a = 0 then none else some (if a < 1000 then B + a else K a)
theorem rvo_eq (a : Nat) : va_rf (rvo B K a) = rv B K a := by
  unfold rvo rv
  split
  · rfl
  · split <;> rfl
def cv (v : eV) : Value := match v with
  | .inl x => .int (Int32.ofInt x)
  | .inr (.inl a) => rv B K a
  | .inr (.inr (.inl x)) => .long (Int64.ofInt x)
  | .inr (.inr (.inr (.inl x))) => .float x
  | .inr (.inr (.inr (.inr (.inl x)))) => .double x
  | .inr (.inr (.inr (.inr (.inr _)))) => .null
def eFv (k : Nat) (pr : Nat → Nat) (hr : Nat → Int) (j : Nat) : Value := match eFt (eTy k j) with
  | 0 => .int (Int32.ofInt (hr j))
  | 1 => rv B K (pr j)
  | _ => rv B K (hr j).toNat
def eAr (k len : Nat) (pr : Nat → Nat) (hr : Nat → Int) : vp_A :=
  if k ≤ 22 then (len, .inl fun j => Int32.ofInt (hr j))
  else if k = 23 then (len, .inr (.inl fun j => Int64.ofInt (hr j)))
  else if k = 24 then (len, .inr (.inr (.inr (.inl fun j => UInt64.ofNat (hr j).toNat))))
  else (len, .inr (.inr (.inr (.inr fun j => rvo B K (pr j)))))
def eRw (k len : Nat) (pr : Nat → Nat) (hr : Nat → Int) : va_E :=
  if k < 20 then .inr (eIx k, (List.range (eN k)).map (eFv B K k pr hr)) else .inl (dA k, eAr B K k len pr hr)
def eCe (p : Nat → Nat → Nat) (h : Nat → Nat → Int) (a : Nat) : va_E := eRw B K dA (ewK a) (ewL a) (p a) (h a)
def eWs (n : Nat) (p : Nat → Nat → Nat) (h : Nat → Nat → Int) : va_W := (List.range n).map fun i => (B + (i + 1), eCe B K dA p h (i + 1))
def eTys : List (ClassId × FieldType) := [(dA 20, .int), (dA 21, .char), (dA 22, .boolean), (dA 30, .object "EchoWells$Well"), (dA 31, .object "EchoWells$Rope"), (dA 32, .object "EchoWells$World")]
def eRep (D : va_G) (μ : eM) (H : Heap) : Prop := va_P D eCl (eWs B K dA μ.1 μ.2.2.1 μ.2.2.2) H
def eSz (a : Nat) : Nat := if ewK a < 20 then eN (ewK a) else ewL a
theorem eFv_cong {k j : Nat} {pr pr' : Nat → Nat} {hr hr' : Nat → Int} (h1 : pr j = pr' j) (h2 : hr j = hr' j) : eFv B K k pr hr j = eFv B K k pr' hr' j := by
  unfold eFv; rw [h1, h2]
theorem eWs_len (n : Nat) (p : Nat → Nat → Nat) (h : Nat → Nat → Int) : (eWs B K dA n p h).length = n := by simp [eWs]
theorem eWs_at {n a : Nat} {p : Nat → Nat → Nat} {h : Nat → Nat → Int} (h1 : 1 ≤ a) (h2 : a ≤ n) : (eWs B K dA n p h)[a - 1]? = some (B + a, eCe B K dA p h a) := by
  unfold eWs
  rw [List.getElem?_map, List.getElem?_range (by omega)]
  show some (B + (a - 1 + 1), eCe B K dA p h (a - 1 + 1)) = _
  rw [show a - 1 + 1 = a by omega]
theorem eWs_of {n k : Nat} {p : Nat → Nat → Nat} {h : Nat → Nat → Int} {q : Nat × va_E} (hq : (eWs B K dA n p h)[k]? = some q) : k < n ∧ q = (B + (k + 1), eCe B K dA p h (k + 1)) := by
  have h1 : k < (eWs B K dA n p h).length := (List.getElem?_eq_some_iff.mp hq).1
  rw [eWs_len] at h1
  have h2 := eWs_at B K dA (a := k + 1) (n := n) (p := p) (h := h) (by omega) (by omega)
  rw [show k + 1 - 1 = k by omega, hq] at h2
  exact ⟨h1, Option.some.inj h2⟩
theorem eWs_D {n : Nat} (p : Nat → Nat → Nat) (h : Nat → Nat → Int) (hn : n ≤ 576) : va_D (eAd B) (eWs B K dA n p h) := by
  constructor
  · intro i j x y hx hy hxy
    have h1 := (eWs_of B K dA hx).2
    have h2 := (eWs_of B K dA hy).2
    rw [h1, h2] at hxy
    simp only at hxy
    omega
  · intro k x hx
    have h0 := (eWs_of B K dA hx).1
    have h1 := (eWs_of B K dA hx).2
    rw [h1]
    show B < B + (k + 1) ∧ B + (k + 1) ≤ B + 576
    omega
theorem eWs_set {n a : Nat} {p p' : Nat → Nat → Nat} {h h' : Nat → Nat → Int} {E : va_E} (h1 : 1 ≤ a) (h2 : a ≤ n) (ho : ∀ b, b ≠ a → p' b = p b ∧ h' b = h b) (hE : eCe B K dA p' h' a = E) :
    (eWs B K dA n p h).set (a - 1) (B + a, E) = eWs B K dA n p' h' := by
  apply List.ext_getElem?
  intro i
  rw [List.getElem?_set, eWs_len]
  by_cases hi : a - 1 = i
  · rw [if_pos hi]
    subst hi
    rw [if_pos (show a - 1 < n by omega), eWs_at B K dA h1 h2, hE]
  · rw [if_neg hi]
    by_cases hn : i < n
    · have e1 := eWs_at B K dA (a := i + 1) (n := n) (p := p) (h := h) (by omega) (by omega)
      have e2 := eWs_at B K dA (a := i + 1) (n := n) (p := p') (h := h') (by omega) (by omega)
      rw [show i + 1 - 1 = i by omega] at e1 e2
      rw [e1, e2]
      obtain ⟨o1, o2⟩ := ho (i + 1) (by omega)
      unfold eCe
      rw [o1, o2]
    · rw [List.getElem?_eq_none (by rw [eWs_len]; omega), List.getElem?_eq_none (by rw [eWs_len]; omega)]
theorem eWs_app {n : Nat} {p p' : Nat → Nat → Nat} {h h' : Nat → Nat → Int} {E : va_E} (ho : ∀ b, b ≠ n + 1 → p' b = p b ∧ h' b = h b) (hE : eCe B K dA p' h' (n + 1) = E) :
    eWs B K dA n p h ++ [(B + (n + 1), E)] = eWs B K dA (n + 1) p' h' := by
  have e : eWs B K dA (n + 1) p' h' = eWs B K dA n p' h' ++ [(B + (n + 1), eCe B K dA p' h' (n + 1))] := by
    unfold eWs
    rw [List.range_succ, List.map_append]
    rfl
  rw [e, hE]
  congr 1
  unfold eWs
  apply List.map_congr_left
  intro i hi
  have := List.mem_range.mp hi
  obtain ⟨o1, o2⟩ := ho (i + 1) (by omega)
  unfold eCe
  rw [o1, o2]
theorem eMap_at (k : Nat) (f : Nat → Value) {j N : Nat} (hj : j < N) : ((List.range N).map f)[j]? = some (f j) := by
  rw [List.getElem?_map, List.getElem?_range hj]; rfl
theorem eMap_set (f g : Nat → Value) {j N : Nat} {v : Value} (hg : ∀ i, i ≠ j → g i = f i) (hv : g j = v) : ((List.range N).map f).set j v = (List.range N).map g := by
  apply List.ext_getElem?
  intro i
  rw [List.getElem?_set]
  by_cases hi : j = i
  · rw [if_pos hi]
    subst hi
    by_cases hn : j < N
    · rw [if_pos (by simpa using hn), List.getElem?_map, List.getElem?_range hn]
      simp [hv]
    · rw [if_neg (by simpa using hn), List.getElem?_eq_none (by simpa using hn)]
  · rw [if_neg hi, List.getElem?_map, List.getElem?_map]
    cases hr : (List.range N)[i]? with
    | none => rfl
    | some q =>
      have : q = i := by
        have h1 := List.getElem?_eq_some_iff.mp hr
        obtain ⟨h2, h3⟩ := h1
        rw [List.getElem_range] at h3
        exact h3.symm
      subst this
      simp [hg q (fun z => hi z.symm)]
end
/-! three rows of the kit, with the address told (their proofs follow va_new, va_newa, va_newq) -/
section
variable {p : Program} {l : Launch} {e : Env} {R : Room} {s : State} {m : MethodId} {args : Array Value} {below : List Frame} {meth : Method} {c : Code} {H : Heap} {locs : List Loc} {cells slots : Nat} {Q : State → Prop}
variable {cc : ByteArray} {pc : Nat} {ls : Array Slot} {rest : List Value} {D : va_G} {cl : List vw_C} {A : Nat → Prop} {a : Nat} {tys : List (ClassId × FieldType)} {ws : va_W} {H0 : Heap}
theorem ew_new (hexec : p.tables.exec = Jvm.exec) (hb : c.code = cc) {own C : String} {T : u_T} {N ci index : Nat} {Ts : List Cond} (hts : ∀ w ∈ Ts, w.before args s = true) (hin : ∀ w ∈ u_ws C T N, w ∈ Ts) (ty : Nat → FieldType) (hty : ∀ k, k < N → parseFieldDescriptor (T k).2.2.1 = some (ty k)) (hown : s.vm.findClass own = some m.cls) (hcl : (Cond.classLink own index C).before args s = true) (hinst : (Cond.instantiable C N).before args s = true) (hini : (Cond.initialized C).before args s = true)
    (hK : va_K D cl tys s) (hP : va_P D cl ws H) (hS : va_S A H0 H locs) (hc : cl[ci]? = some (C, T, N)) {fs : List Value} (hfs : ∀ j, j < N → defaultValue (ty j) = vp_V fs j) (hcells : cells + 1 ≤ R.cells) (hslots : slots + N ≤ R.slots) (hdg : decode cc pc = .ok (.new index, 3))
    (kk : ∀ (H1 : Heap), va_P D cl (ws ++ [(H.size, .inr (ci, fs))]) H1 → va_S A H0 H1 locs →
      W p l e R s m args below meth c H1 locs (cells + 1) (slots + N) Q (F0 m (pc + 3) ls (.ref H.size :: rest))) : W p l e R s m args below meth c H locs cells slots Q (F0 m pc ls rest) := by
  have hKn := hK.1 ci _ hc
  refine W.newcK hexec hb hown hcl hinst hini rfl hdg hcells hslots hKn.2.1 rfl fun H1 kC hkC e1 z1 o1 => ?_
  have hk : ∀ (k : Nat) (x : Nat × va_E), ws[k]? = some x → H1[x.1]? = H[x.1]? := fun k x hx => o1 x.1 ((hP k x hx).lt)
  refine kk H1 ((hP.kept hk).app (fun k x hx => ?_)) ⟨Nat.le_trans hS.1 (by omega), fun x h1 h2 => (o1 x (Nat.lt_of_lt_of_le h1 hS.1)).trans (hS.2.1 x h1 h2), hS.2.2⟩
  have hz : k < 1 := (List.getElem?_eq_some_iff.mp hx).1
  rw [show k = 0 by omega] at hx
  cases hx
  exact ⟨_, hc, (u_born ty hts hin hKn hkC e1 hty).to hfs⟩
theorem ew_newa (hexec : p.tables.exec = Jvm.exec) (hb : c.code = cc) {atype : ArrayType} (harr : (Cond.arrayClass (newarray.typeOf atype)).before args s = true) {ty : FieldType} (hty : newarray.typeOf atype = ty) (hP : va_P D cl ws H) (hS : va_S A H0 H locs)
    {n : Int32} {N' : Nat} {a0 : vp_A} (ha : ∀ cA : ClassId, vp_cell cA a0 = arrV cA N' (fun _ => defaultValue ty)) (hn : ¬ n < 0) (hN : n.toNatClampNeg = N') (hbytes : N' * componentBytes ty ≤ 536870912) (hcells : cells + 1 ≤ R.cells) (hslots : slots + N' ≤ R.slots) (hdg : decode cc pc = .ok (.newarray atype, 2))
    (kk : ∀ (cA : ClassId) (H1 : Heap), s.vm.findClass ("[" ++ ty.toString) = some cA → va_P D cl (ws ++ [(H.size, .inl (cA, a0))]) H1 → va_S A H0 H1 locs →
      W p l e R s m args below meth c H1 locs (cells + 1) (slots + N') Q (F0 m (pc + 2) ls (.ref H.size :: rest))) : W p l e R s m args below meth c H locs cells slots Q (F0 m pc ls (.int n :: rest)) := by
  subst hty
  refine va_newaK hexec hb harr rfl hdg rfl hn hN hbytes hcells hslots rfl fun H1 cA e1 z1 o1 hAr hNm => ?_
  have hk : ∀ (k : Nat) (x : Nat × va_E), ws[k]? = some x → H1[x.1]? = H[x.1]? := fun k x hx => o1 x.1 ((hP k x hx).lt)
  refine kk cA H1 hNm ((hP.kept hk).app (fun k x hx => ?_)) ⟨Nat.le_trans hS.1 (by omega), fun x h1 h2 => (o1 x (Nat.lt_of_lt_of_le h1 hS.1)).trans (hS.2.1 x h1 h2), hS.2.2⟩
  have hz : k < 1 := (List.getElem?_eq_some_iff.mp hx).1
  rw [show k = 0 by omega] at hx
  cases hx
  show H1[H.size]? = some (vp_cell _ _)
  rw [ha]
  exact e1
theorem ew_newq (hexec : p.tables.exec = Jvm.exec) (hb : c.code = cc) {own C : String} {index : Nat} (hown : s.vm.findClass own = some m.cls) (hclink : (Cond.classLink own index C).before args s = true) (hover : va_AO C s) (hP : va_P D cl ws H) (hS : va_S A H0 H locs)
    {n : Int32} {N' : Nat} (hn : ¬ n < 0) (hN : n.toNatClampNeg = N') (hbytes : N' * 4 ≤ 536870912) (hcells : cells + 1 ≤ R.cells) (hslots : slots + N' ≤ R.slots) (hdg : decode cc pc = .ok (.anewarray index, 3))
    (kk : ∀ (cA : ClassId) (H1 : Heap), s.vm.findClass ("[" ++ (FieldType.object C).toString) = some cA → va_P D cl (ws ++ [(H.size, .inl (cA, N', .inr (.inr (.inr (.inr (fun _ => none))))))]) H1 → va_S A H0 H1 locs →
      W p l e R s m args below meth c H1 locs (cells + 1) (slots + N') Q (F0 m (pc + 3) ls (.ref H.size :: rest))) : W p l e R s m args below meth c H locs cells slots Q (F0 m pc ls (.int n :: rest)) := by
  subst hN
  refine W.anew hexec hb hown hclink (va_AO.use hover) rfl hdg rfl hn hbytes hcells hslots fun cA kA comp f1 f2 f3 f4 => ?_
  generalize hH1 : H.push ({ cls := cA, slots := Array.replicate n.toNatClampNeg .null, vm := .none } : Cell) = H1
  have z1 : H1.size = H.size + 1 := by rw [← hH1, Array.size_push]
  have e1 : H1[H.size]? = some (arrV cA n.toNatClampNeg (fun _ => .null)) := by rw [← hH1, Array.getElem?_push_size, ← arrV_new]
  have o1 : ∀ q : Nat, q < H.size → H1[q]? = H[q]? := fun q hq => by rw [← hH1, Array.getElem?_push, if_neg (Nat.ne_of_lt hq)]
  have hk : ∀ (k : Nat) (x : Nat × va_E), ws[k]? = some x → H1[x.1]? = H[x.1]? := fun k x hx => o1 x.1 ((hP k x hx).lt)
  refine kk cA H1 f1 ((hP.kept hk).app (fun k x hx => ?_)) ⟨Nat.le_trans hS.1 (by omega), fun x h1 h2 => (o1 x (Nat.lt_of_lt_of_le h1 hS.1)).trans (hS.2.1 x h1 h2), hS.2.2⟩
  have hz : k < 1 := (List.getElem?_eq_some_iff.mp hx).1
  rw [show k = 0 by omega] at hx
  cases hx
  show H1[H.size]? = some (vp_cell _ _)
  rw [vp_cell_q]
  exact e1
end
