/-! charAt of a text that was made on the way -/
def jZ (B a0 b0 : Nat) (t0 : List Int) (s : State) (H : Heap) : Prop := va_O "java/lang/String" a0 (eAd B) s H ∧ va_OF "java/lang/String" "coder" "B" (.int 0) a0 (eAd B) s H ∧ va_OF "java/lang/String" "value" "[B" (.ref b0) a0 (eAd B) s H ∧ va_T .byte b0 t0.length (fun i => .int (Int32.ofInt (t0.getD i 0))) (eAd B) s H
theorem jZ_moved {B a0 b0 : Nat} {t0 : List Int} {s U : State} {H H1 : Heap} (hA : s.vm.Alike U.vm) (hk : ∀ q : Nat, q < H.size → ¬ eAd B q → H1[q]? = H[q]?) (h : jZ B a0 b0 t0 s H) : jZ B a0 b0 t0 U H1 :=
  ⟨(va_O.moved hA h.1).kept hk, (va_OF.moved hA h.2.1).kept hk, (va_OF.moved hA h.2.2.1).kept hk, (va_T.moved hA h.2.2.2).kept hk⟩
section
variable (B : Nat) (K : Nat → Nat) (dA : Nat → ClassId) (D : va_G) (a0 b0 : Nat) (t0 : List Int)
def jPc2 (vs : List Value) : Array Value → State → Prop := fun a st => a = vs.toArray ∧ ewI B K dA D st ∧ jZ B a0 b0 t0 st st.heap
def jMt2 (l : Launch) (y : MethodName) (bytes : ByteArray) (maxL : Nat) (ret : Option FieldType) (fr : Nat) (vs : List Value) (v : Option Value) : Prop :=
  vx_Met l y [Cond.code y bytes maxL ret] ({ frames := fr, cells := 0, slots := 0, locals := 64 * fr } : Room) (jPc2 B K dA D a0 b0 t0 vs) (jQc v) jXC 0 0 (eAd B)
def jBd2 (l : Launch) (y : MethodName) (bytes : ByteArray) (maxL : Nat) (ret : Option FieldType) (fr : Nat) (vs : List Value) (v : Option Value) : Prop :=
  ∀ (p : Program) (e : Env) (R : Room) (s : State) (mI : MethodId) (args : Array Value) (below : List Frame) (meth : Method) (c : Code) (lsA : Array Slot), jCx B K dA D p s mI meth c y bytes maxL ret → jZ B a0 b0 t0 s s.heap → fr ≤ R.frames → 64 * fr ≤ R.locals → lsA.size = maxL → (∀ (k : Nat) (w : Value), vs[k]? = some w → lsA[k]? = some (.val w)) →
    W p l e R s mI args below meth c s.heap [] 0 0 (vx_MQ below (jQc v) jXC args s 0 0 (eAd B)) (F0 mI 0 lsA [])
end
section
variable {B : Nat} {K : Nat → Nat} {dA : Nat → ClassId} {D : va_G} {l : Launch} {a0 b0 : Nat} {t0 : List Int}
theorem jPc2_blind {vs : List Value} : FrameBlind (jPc2 B K dA D a0 b0 t0 vs) := fun _ U _ _ h => ⟨h.1, ewI_blind h.2.1, jZ_moved (warm_refl U).alike (fun _ _ _ => rfl) h.2.2⟩
theorem jMt2_of {y : MethodName} {bytes : ByteArray} {maxL : Nat} {ret : Option FieldType} {fr : Nat} {vs : List Value} {v : Option Value} (hpn : plainName y.cls = true) (hc1 : ∀ w ∈ vs, ¬ w.category = 2) (hl : vs.length ≤ maxL) (hb : jBd2 B K dA D a0 b0 t0 l y bytes maxL ret fr vs v) : jMt2 B K dA D a0 b0 t0 l y bytes maxL ret fr vs v := by
  refine vx_ofW (ws' := []) hpn rfl (fun p e s m args below meth c s₁ Bd hml ht hP => ?_)
  obtain ⟨hargs, hI, hZ⟩ := hP
  subst hargs
  refine hb p e _ s m _ below meth c (argsToLocals vs.toArray maxL) ⟨Bd.exec, Bd.bytes, Bd.returns, hml, findClass_of_methodNamed Bd.named, Bd.notSynchronized, hI⟩ hZ (Nat.le_refl _) (Nat.le_refl _) ?_ ?_
  · rw [a2l _ _ hc1]
    simp
    omega
  · intro k w hk
    rw [a2l _ _ hc1]
    have hk2 := (List.getElem?_eq_some_iff.mp hk).1
    simp only [List.getElem?_toArray]
    rw [List.getElem?_append_left (by simpa using hk2), List.getElem?_map, hk]
    rfl
section
variable {p : Program} {e : Env} {R : Room} {s : State} {mI : MethodId} {args : Array Value} {below : List Frame} {meth : Method} {c : Code} {cells slots : Nat} {Q : State → Prop} {H : Heap} {locs : List Loc} {pc : Nat} {lsA : Array Slot} {rest : List Value}
theorem jPre_of2 (hts : ∀ w ∈ ewL4, w.before args s = true) (hK : va_K D eCl (eTys dA) s) (hC : eCst B K s) (hB : B + 1 ≤ s.heap.size) (hS : va_S (eAd B) s.heap H locs) (hZ : jZ B a0 b0 t0 s H) (vs : List Value) : PreS s H (jPc2 B K dA D a0 b0 t0 vs) vs :=
  ⟨jPc2_blind, fun U hU hW => ⟨rfl, ewI_moved hts hK hC hB hW (by rw [hU]; exact hS.1) (fun q h1 h2 => by rw [hU]; exact hS.2.1 q h1 h2), by rw [hU]; exact jZ_moved hW.alike (fun _ _ _ => rfl) hZ⟩⟩
theorem jcallS2 {own : String} {idx n : Nat} {y : MethodName} {bytes cc : ByteArray} {maxL fr : Nat} {ret : Option FieldType} {vs : List Value} {v : Option Value} (hx : p.tables.exec = Jvm.exec) (hb : c.code = cc) (hown : s.vm.findClass own = some mI.cls) (hts : ∀ w ∈ ewL4, w.before args s = true) (hK : va_K D eCl (eTys dA) s) (hC : eCst B K s) (hB : B + 1 ≤ s.heap.size) (hS : va_S (eAd B) s.heap H locs) (hZ : jZ B a0 b0 t0 s H)
    (hM : jMt2 B K dA D a0 b0 t0 l y bytes maxL ret fr vs v) (hw : Cond.code y bytes maxL ret ∈ ewL4) (hl : Cond.methodLink own idx y ∈ ewL4) (hst : Cond.static y ∈ ewL4) (hini : Cond.initialized y.cls ∈ ewL4) (hd : y.cls ≠ "java/lang/invoke/MethodHandle" ∧ y.cls ≠ "java/lang/invoke/VarHandle" ∧ (parseMethodDescriptor y.desc).map (fun d => d.parameters.length) = some n) (hn : vs.length = n)
    (hRf : fr + 1 ≤ R.frames) (hRl : 8 + (maxL + 11) + 64 * fr ≤ R.locals) (hcs : cells ≤ R.cells) (hss : slots ≤ R.slots) (hsz : lsA.size = c.maxLocals) (hcat : (rest.map fun v => v.category).sum ≤ 8) {st0 : List Value} (hst0 : st0 = vs.reverse ++ rest) (hdg : decode cc pc = .ok (.invokestatic idx, 3))
    (kk : ∀ locs1, va_S (eAd B) s.heap H locs1 → W p l e R s mI args below meth c H locs1 cells slots Q (F0 mI (pc + 3) lsA (v.toList ++ rest))) : W p l e R s mI args below meth c H locs cells slots Q (F0 mI pc lsA st0) := by
  refine jGo (a0 := vs.toArray) (vx_runS (Ts := ewL4) ⟨hx, hb, rfl, hown, hts⟩ hM ⟨⟨rfl, rfl, hRf, hRl, jws hts hw, List.mem_singleton.mpr rfl, hts _ hw, hts _ hini, ⟨hd.1, hd.2.1⟩, fun sig h => ?_, hts _ hl⟩, hts _ hst⟩ (jPre_of2 hts hK hC hB hS hZ vs) rfl hn hsz hst0 (by show 2 * 0 + _ ≤ 8; omega) hdg ⟨hcs, hss⟩) hS kk
  have h2 := hd.2.2
  rw [h] at h2
  simp only [Option.map_some, Option.some.injEq] at h2
  omega
theorem jcallV2 {own : String} {idx n : Nat} {y : MethodName} {bytes cc : ByteArray} {maxL fr : Nat} {ret : Option FieldType} {b : Nat} {vs : List Value} {v : Option Value} (hx : p.tables.exec = Jvm.exec) (hb : c.code = cc) (hown : s.vm.findClass own = some mI.cls) (hts : ∀ w ∈ ewL4, w.before args s = true) (hK : va_K D eCl (eTys dA) s) (hC : eCst B K s) (hB : B + 1 ≤ s.heap.size) (hS : va_S (eAd B) s.heap H locs) (hZ : jZ B a0 b0 t0 s H)
    (hO : va_O y.cls b (eAd B) s H) (hM : jMt2 B K dA D a0 b0 t0 l y bytes maxL ret fr (.ref b :: vs) v) (hw : Cond.code y bytes maxL ret ∈ ewL4) (hl : Cond.methodLink own idx y ∈ ewL4) (hin : Cond.instanceMethod y ∈ ewL4) (hse : Cond.selects y.cls y y ∈ ewL4) (hini : Cond.initialized y.cls ∈ ewL4) (hd : y.cls ≠ "java/lang/invoke/MethodHandle" ∧ y.cls ≠ "java/lang/invoke/VarHandle" ∧ (parseMethodDescriptor y.desc).map (fun d => d.parameters.length) = some n) (hn : vs.length = n)
    (hRf : fr + 1 ≤ R.frames) (hRl : 8 + (maxL + 11) + 64 * fr ≤ R.locals) (hcs : cells ≤ R.cells) (hss : slots ≤ R.slots) (hsz : lsA.size = c.maxLocals) (hcat : (rest.map fun v => v.category).sum ≤ 8) {st0 : List Value} (hst0 : st0 = vs.reverse ++ .ref b :: rest) (hdg : decode cc pc = .ok (.invokevirtual idx, 3))
    (kk : ∀ locs1, va_S (eAd B) s.heap H locs1 → W p l e R s mI args below meth c H locs1 cells slots Q (F0 mI (pc + 3) lsA (v.toList ++ rest))) : W p l e R s mI args below meth c H locs cells slots Q (F0 mI pc lsA st0) := by
  obtain ⟨cell, o1, o2, o3, -⟩ := hO
  refine jGo (a0 := (.ref b :: vs).toArray) (vx_runV (Ts := ewL4) ⟨hx, hb, rfl, hown, hts⟩ hM ⟨⟨rfl, rfl, hRf, hRl, jws hts hw, List.mem_singleton.mpr rfl, hts _ hw, hts _ hini, ⟨hd.1, hd.2.1⟩, fun sig h => ?_, hts _ hl⟩, hts _ hin, hts _ hse⟩ ⟨jPc2_blind, ⟨cell, o1, o2, o3⟩, (jPre_of2 hts hK hC hB hS hZ (.ref b :: vs)).2⟩ rfl hn hsz hst0 (by show 2 * 0 + _ ≤ 8; omega) hdg ⟨hcs, hss⟩) hS kk
  have h2 := hd.2.2
  rw [h] at h2
  simp only [Option.map_some, Option.some.injEq] at h2
  omega
end
theorem jB_lat2 : jBd2 B K dA D a0 b0 t0 l jLat prog_32_method_154_code 1 (some .boolean) 0 [.ref a0] (some (.int 1)) := by
  rintro p e R s mI args below meth c lsA ⟨hx, hb, hr, hml, hown, hlk, hI⟩ hZ hRf hRl hsz hl
  obtain ⟨hN, hK, hC, hB⟩ := hI
  have hts := fun w hw => hN w hw args
  have hS : va_S (eAd B) s.heap s.heap [] := ⟨Nat.le_refl _, fun _ _ _ => rfl, fun _ h => absurd h List.not_mem_nil⟩
  obtain ⟨-, -, -, -, -, -, -, -, -, -, -, h7, h8, -⟩ := hC
  refine va_gets hx hb h8 hS hown (hts _ (jw (j := 1056) rfl rfl)) (fun _ h => h) (by decide +kernel : decode prog_32_method_154_code 0 = .ok (.getstatic 38, 3)) ?_
  refine lv_if_eq hx hb (by decide +kernel : decode prog_32_method_154_code 3 = .ok (.ifCond .eq 14, 3)) (tgt := 17) rfl (fun h => absurd h (by decide)) (fun _ => ?_)
  refine lv_aload_n hx hb (by decide +kernel : decode prog_32_method_154_code 6 = .ok (.aload_n 0, 1)) rfl (hl 0 _ rfl) ?_
  refine vk_getf hx hb hZ.2.1 hS hown (hts _ (jw (j := 1526) rfl rfl)) (fun _ h => h) (by decide +kernel : decode prog_32_method_154_code 7 = .ok (.getfield 15, 3)) ?_
  refine lv_if_ne hx hb (by decide +kernel : decode prog_32_method_154_code 10 = .ok (.ifCond .ne 7, 3)) (tgt := 17) rfl (fun h => absurd rfl h) (fun _ => ?_)
  refine lv_iconst hx hb (by decide +kernel : decode prog_32_method_154_code 13 = .ok (.iconst 1, 1)) (v := 1) rfl ?_
  refine lv_goto hx hb (by decide +kernel : decode prog_32_method_154_code 14 = .ok (.goto 4, 3)) (tgt := 18) rfl ?_
  exact vx_ret (W.zret (ty := .boolean) hx hb hr rfl (fun t ht hW => ⟨rfl, ht⟩) (fun _ h => absurd h List.not_mem_nil) (by decide +kernel : decode prog_32_method_154_code 18 = .ok (.ireturn, 1)) hlk)
theorem ch_ok2 {b : Int} (h0 : 0 ≤ b) (h1 : b < 128) : ((Int32.ofInt b &&& 255).toUInt32 % 65536).toInt32 = Int32.ofInt b ∧ 0 ≤ b ∧ b < 65536 := by
  have h : ∀ k : Nat, k < 128 → ((Int32.ofInt (k : Int) &&& 255).toUInt32 % 65536).toInt32 = Int32.ofInt (k : Int) := by decide +kernel
  obtain ⟨k, rfl⟩ : ∃ k : Nat, b = (k : Int) := ⟨b.toNat, by omega⟩
  exact ⟨h k (by omega), by omega, by omega⟩
theorem jB_chl2 {i : Nat} (hlen : t0.length ≤ 21) (hch : 0 ≤ t0.getD i 0 ∧ t0.getD i 0 < 128) (hi : i < t0.length) : jBd2 B K dA D a0 b0 t0 l jChl prog_34_method_2_code 2 (some .char) 2 [.ref b0, .int (Int32.ofInt (i : Int))] (some (.int (Int32.ofInt (t0.getD i 0)))) := by
  rintro p e R s mI args below meth c lsA ⟨hx, hb, hr, hml, hown, hlk, hI⟩ hZ hRf hRl hsz hl
  have hT := hZ.2.2.2
  obtain ⟨hN, hK, hC, hB⟩ := hI
  have hts := fun w hw => hN w hw args
  have hS : va_S (eAd B) s.heap s.heap [] := ⟨Nat.le_refl _, fun _ _ _ => rfl, fun _ h => absurd h List.not_mem_nil⟩
  have hiR : inR (i : Int) := by unfold inR; omega
  have hnR : inR (t0.length : Int) := by unfold inR; omega
  have hM := jMt_of (l := l) (by decide) (by intro v hv; simp only [List.mem_cons, List.not_mem_nil, or_false] at hv; rcases hv with rfl | rfl <;> simp [Value.category]) (by simp) (jB_chk (B := B) (K := K) (dA := dA) (D := D) (l := l) hiR hnR (by omega) (by omega))
  refine lv_iload_n hx hb (by decide +kernel : decode prog_34_method_2_code 0 = .ok (.iload_n 1, 1)) rfl (hl 1 _ rfl) ?_
  refine lv_aload_n hx hb (by decide +kernel : decode prog_34_method_2_code 1 = .ok (.aload_n 0, 1)) rfl (hl 0 _ rfl) ?_
  refine va_tlen hx hb hT hS (v := Int32.ofInt (t0.length : Int)) rfl (by decide +kernel : decode prog_34_method_2_code 2 = .ok (.arraylength, 1)) ?_
  refine jcallS (n := 2) (own := "java/lang/StringLatin1") (idx := 9) (rest := []) hx hb hown hts hK hC hB hS hM (jw (j := 1071) rfl rfl) (jw (j := 1069) rfl rfl) (jw (j := 1070) rfl rfl) (jw (j := 23) rfl rfl) (by decide) rfl (by omega) (by omega) (by omega) (by omega) (by rw [hml]; exact hsz) (by simp) rfl (by decide +kernel : decode prog_34_method_2_code 3 = .ok (.invokestatic 9, 3)) (fun locs1 hS1 => ?_)
  refine lv_aload_n hx hb (by decide +kernel : decode prog_34_method_2_code 6 = .ok (.aload_n 0, 1)) rfl (hl 0 _ rfl) ?_
  refine lv_iload_n hx hb (by decide +kernel : decode prog_34_method_2_code 7 = .ok (.iload_n 1, 1)) rfl (hl 1 _ rfl) ?_
  refine va_tb hx hb hT hS1 (oI_vp hiR (by omega) (by omega)) (v := .int (Int32.ofInt (t0.getD i 0))) (by rw [oI_clamp hiR]; rfl) (by decide +kernel : decode prog_34_method_2_code 8 = .ok (.baload, 1)) ?_
  refine lv_sipush hx hb (by decide +kernel : decode prog_34_method_2_code 9 = .ok (.sipush 255, 3)) (v := 255) rfl ?_
  refine lv_iand hx hb (by decide +kernel : decode prog_34_method_2_code 12 = .ok (.iand, 1)) ?_
  obtain ⟨k1, k2, k3⟩ := ch_ok2 hch.1 hch.2
  refine lv_i2c hx hb (by decide +kernel : decode prog_34_method_2_code 13 = .ok (.i2c, 1)) k1 ?_
  exact vx_ret (W.zret (ty := .char) hx hb hr (na_c k2 k3) (fun t ht hW => ⟨rfl, ht⟩) hS1.2.2 (by decide +kernel : decode prog_34_method_2_code 14 = .ok (.ireturn, 1)) hlk)
theorem jB_chr2 {i : Nat} (hlen : t0.length ≤ 21) (hch : 0 ≤ t0.getD i 0 ∧ t0.getD i 0 < 128) (hi : i < t0.length) : jBd2 B K dA D a0 b0 t0 l jChr prog_32_method_56_code 2 (some .char) 3 [.ref a0, .int (Int32.ofInt (i : Int))] (some (.int (Int32.ofInt (t0.getD i 0)))) := by
  rintro p e R s mI args below meth c lsA ⟨hx, hb, hr, hml, hown, hlk, hI⟩ hZ hRf hRl hsz hl
  obtain ⟨hN, hK, hC, hB⟩ := hI
  have hts := fun w hw => hN w hw args
  have hS : va_S (eAd B) s.heap s.heap [] := ⟨Nat.le_refl _, fun _ _ _ => rfl, fun _ h => absurd h List.not_mem_nil⟩
  obtain ⟨o1, o2, o3, o4⟩ := id hZ
  have hM := jMt2_of (a0 := a0) (b0 := b0) (t0 := t0) (l := l) (by decide) (by intro w hw; rw [List.mem_singleton] at hw; subst hw; simp [Value.category]) (Nat.le_refl 1) (jB_lat2 (B := B) (K := K) (dA := dA) (D := D) (l := l))
  have hM2 := jMt2_of (a0 := a0) (b0 := b0) (t0 := t0) (l := l) (by decide) (by intro v hv; simp only [List.mem_cons, List.not_mem_nil, or_false] at hv; rcases hv with rfl | rfl <;> simp [Value.category]) (Nat.le_refl 2) (jB_chl2 (B := B) (K := K) (dA := dA) (D := D) (l := l) hlen hch hi)
  refine lv_aload_n hx hb (by decide +kernel : decode prog_32_method_56_code 0 = .ok (.aload_n 0, 1)) rfl (hl 0 _ rfl) ?_
  refine jcallV2 (vs := []) (n := 0) (own := "java/lang/String") (idx := 492) (rest := []) hx hb hown hts hK hC hB hS hZ o1 hM (jw (j := 1065) rfl rfl) (jw (j := 1062) rfl rfl) (jw (j := 1063) rfl rfl) (jw (j := 1064) rfl rfl) (jw (j := 23) rfl rfl) (by decide) rfl (by omega) (by omega) (by omega) (by omega) (by rw [hml]; exact hsz) (by simp) rfl (by decide +kernel : decode prog_32_method_56_code 1 = .ok (.invokevirtual 492, 3)) (fun locs1 hS1 => ?_)
  refine lv_if_eq hx hb (by decide +kernel : decode prog_32_method_56_code 4 = .ok (.ifCond .eq 12, 3)) (tgt := 16) rfl (fun h => absurd h (by decide)) (fun _ => ?_)
  refine lv_aload_n hx hb (by decide +kernel : decode prog_32_method_56_code 7 = .ok (.aload_n 0, 1)) rfl (hl 0 _ rfl) ?_
  refine vk_getf hx hb o3 hS1 hown (hts _ (jw (j := 1525) rfl rfl)) (fun _ h => h) (by decide +kernel : decode prog_32_method_56_code 8 = .ok (.getfield 9, 3)) ?_
  refine lv_iload_n hx hb (by decide +kernel : decode prog_32_method_56_code 11 = .ok (.iload_n 1, 1)) rfl (hl 1 _ rfl) ?_
  refine jcallS2 (n := 2) (own := "java/lang/String") (idx := 495) (rest := []) hx hb hown hts hK hC hB hS1 hZ hM2 (jw (j := 1068) rfl rfl) (jw (j := 1066) rfl rfl) (jw (j := 1067) rfl rfl) (jw (j := 25) rfl rfl) (by decide) rfl (by omega) (by omega) (by omega) (by omega) (by rw [hml]; exact hsz) (by simp) rfl (by decide +kernel : decode prog_32_method_56_code 12 = .ok (.invokestatic 495, 3)) (fun locs2 hS2 => ?_)
  obtain ⟨k1, k2, k3⟩ := ch_ok2 hch.1 hch.2
  exact vx_ret (W.zret (ty := .char) hx hb hr (na_c k2 k3) (fun t ht hW => ⟨rfl, ht⟩) hS2.2.2 (by decide +kernel : decode prog_32_method_56_code 15 = .ok (.ireturn, 1)) hlk)
end
theorem tx_m : mPc m_L_sounds 103 = 188 ∧ mPc m_L_sounds 105 = 193 ∧ mPc m_L_sounds 112 = 205 ∧ mPc m_L_sounds 126 = 235 ∧ mPc m_L_sounds 198 = 367 ∧ mPc m_L_sounds 201 = 374 ∧ ewMax m_L_sounds = 19 ∧ (mNm m_L_sounds).cls = "EchoWellsLaw" := by decide +kernel
theorem tx_d1 : decode (mBy m_L_sounds) 188 = .ok (.ldc_w 286, 3) ∧ decode (mBy m_L_sounds) 191 = .ok (.astore 17, 2) := by decide +kernel
theorem tx_d2 : decode (mBy m_L_sounds) 367 = .ok (.aload 17, 2) ∧ decode (mBy m_L_sounds) 369 = .ok (.iload 18, 2) ∧ decode (mBy m_L_sounds) 371 = .ok (.invokevirtual 191, 3) := by decide +kernel
section
variable {B : Nat} {K : Nat → Nat} {dA : Nat → ClassId} {D : va_G} {X : eX}
variable {p : Program} {l : Launch} {e : Env} {R : Room} {s : State} {mI : MethodId} {args : Array Value} {below : List Frame} {meth : Method} {c : Code} {cells slots mc ms : Nat} {Q : State → Prop} {m : Nat}
theorem eLR.putT {H : Heap} {lsA ls' : Array Slot} {nL i a : Nat} {L : List eV} {t : List Int} (h : eLR B K s m H lsA nL L) (h' : lv_has ls' nL ((i, Value.ref a) :: (eKn B K lsA L).filter (fun q => !(q.1 == i) && !(q.1 + 1 == i && q.2.category == 2)))) (ht : tTx B s H a t) : eLR B K s m H ls' nL (eSt L i (vT t)) := by
  obtain ⟨h1, h2, h3⟩ := h'
  refine ⟨h1, h2, by rw [eSt_len]; exact h.2.2.1, ?_, ?_⟩
  · intro k v hk hj
    rcases eSt_at hk (nJ_of hj) with ⟨rfl, rfl, -⟩ | ⟨hne, hl, hd⟩
    · cases hj
    · exact h3 (k, cv B K v) (List.mem_cons_of_mem _ (eKn_fl B K hl (Or.inr ⟨eJT hj, hj, rfl⟩) hne hd))
  · intro hm k t' h17 hk
    rcases eSt_at hk (fun z => by cases z) with ⟨rfl, hz, -⟩ | ⟨hne, hl, hd⟩
    · cases hz
      exact ⟨a, h3 _ List.mem_cons_self, ht⟩
    · obtain ⟨a', h4, h5⟩ := h.2.2.2.2 hm k t' h17 hl
      exact ⟨a', h3 (k, .ref a') (List.mem_cons_of_mem _ (eKn_fl B K hl (Or.inl ⟨rfl, h4, rfl⟩) hne hd)), h5⟩
theorem W_more {H : Heap} {locs : List Loc} {g : JFrame} {cells' slots' : Nat} (hc : cells ≤ cells') (hs : slots ≤ slots') (h : W p l e R s mI args below meth c H locs cells' slots' Q g) : W p l e R s mI args below meth c H locs cells slots Q g :=
  fun T hT XX => h T hT (XX.more hc hs)
theorem va_ldcwS {cc : ByteArray} {pc : Nat} {ls : Array Slot} {rest : List Value} {H : Heap} {locs : List Loc} (hexec : p.tables.exec = Jvm.exec) (hb : c.code = cc) {own tx : String} {index q : Nat} (hown : s.vm.findClass own = some mI.cls) (hZ : vk_R own index tx q s) (hdg : decode cc pc = .ok (.ldc_w index, 3))
    (k : W p l e R s mI args below meth c H locs cells slots Q (F0 mI (pc + 3) ls (.ref q :: rest))) : W p l e R s mI args below meth c H locs cells slots Q (F0 mI pc ls rest) := by
  intro T hT XX
  obtain ⟨t, a1, b1⟩ := k T hT XX
  refine ⟨t, ?_, b1⟩
  have hst : (Cond.stringRef own index tx).before args s = true := by
    have := hZ.1
    unfold Cond.before at this ⊢
    exact this
  have hev : (Term.string own index).eval args s none [] s = some (.ref q) := hZ.2
  obtain ⟨k, cf, i, a', hk, hcf, hcp, -, hr, hev'⟩ := Cond.stringRef_spec hown hst
  cases hev.symm.trans hev'
  obtain ⟨k', hk', he⟩ := XX.warmed.alike.2.2 _ _ hk
  have hr' : k'.resolved[index]? = some (some (.string q)) := by
    rcases XX.warmed.entry hk hk' index with h | ⟨h, -⟩
    · rw [h]; exact hr
    · rw [hr] at h; cases h
  subst hb
  jvm_step XX.here [hexec, hdg, ldc_w.wp_string (e := e) (s := T) (f := F0 mI pc ls rest) XX.here.top hk' (by rw [he]; exact hcf) hcp hr']
  exact a1
theorem sl_94 {pc a b k : Nat} {v : Int} {tg : List Nat} {ls st : List eV} {n e : Nat} {p : Nat → Nat → Nat} {h : Nat → Nat → Int} : eSel ewK ewL ewT X pc (94, a, b, k, v, tg) ls st (n, e, p, h) = (if 17 < ls.length then eNx (pc + 2) (eSt ls 17 (vT [])) st (n, e + 1, p, h) else none) := rfl
theorem ck_94 {m i a b k : Nat} {v : Int} {tg : List Nat} : chk m i (94, a, b, k, v, tg) = (decide (m = m_L_sounds) && decide (i = 103)) := rfl
theorem tx_nil (hC : eCst B K s) : tTx B s s.heap (K 1140) [] := by
  have h7 := hC.2.2.2.2.2.2.2.2.2.2.2.1 40 (by omega)
  have h16 := hC.2.2.2.2.2.2.2.2.2.2.2.2.2.2.2.2.2.2.2.2.1
  exact ⟨Nat.zero_le _, fun x hx => absurd hx List.not_mem_nil, ⟨K 1240, h7.1, h7.2.1, h7.2.2.1, h7.2.2.2⟩, h16⟩
theorem al_refl (s : State) : s.vm.Alike s.vm := (warm_refl s).alike
theorem op_94 (C : eCx B K dA D p l s mI args meth c m) {pc a b k : Nat} {v : Int} {tg : List Nat} {ls st ls' st' : List eV} {n e0 : Nat} {pp : Nat → Nat → Nat} {hh : Nat → Nat → Int} {μ' : eM} {pc' : Nat} (hk : chk m pc (94, a, b, k, v, tg) = true) (hs : eSel ewK ewL ewT X pc (94, a, b, k, v, tg) ls st (n, e0, pp, hh) = some (.inl (pc', ls', st', μ')))
    (kk : eVv B K dA D p l e R s mI args below meth c Q m (cells + 1) (slots + 6) pc' ls' st' μ') : eVv B K dA D p l e R s mI args below meth c Q m cells slots pc ls st (n, e0, pp, hh) := by
  obtain ⟨hx, hb, hr, hml, hown, hts, hlk, htb, hnm, hst, hB1, hK, hC⟩ := C
  rw [sl_94] at hs
  rw [ck_94] at hk
  simp only [Bool.and_eq_true, decide_eq_true_eq] at hk
  obtain ⟨rfl, rfl⟩ := hk
  split at hs
  next hlt =>
    cases hs
    intro H locs lsA hR hS hL
    refine W_more (cells' := cells + 1) (slots' := slots + 6) (Nat.le_add_right _ _) (Nat.le_add_right _ _) ?_
    rw [tx_m.1]
    have hown2 : s.vm.findClass "EchoWellsLaw" = some mI.cls := by rw [← tx_m.2.2.2.2.2.2.2]; exact hown
    have hV := hC.2.2.2.2.2.2.2.2.2.2.2.2.2.2.2.2.2.2.2.2.2
    refine va_ldcwS hx hb hown2 hV tx_d1.1 ?_
    refine lv_astore hx hb tx_d1.2 (eLR.has B K hL) (by rw [← hL.2.2.1]; exact hlt) rfl (fun ls2 hl2 => ?_)
    have h1 := kk H locs ls2 hR hS (eLR.putT hL hl2 (tTx_moved (al_refl s) hS.2.1 (tx_nil hC)))
    rw [show 103 + 2 = 105 from rfl, tx_m.2.1] at h1
    exact h1
  · cases hs
theorem ck_97 {m i a b k : Nat} {v : Int} {tg : List Nat} : chk m i (97, a, b, k, v, tg) = (decide (m = m_L_sounds) && decide (i = 198)) := rfl
theorem op_97 (C : eCx B K dA D p l s mI args meth c m) {pc a b k : Nat} {v : Int} {tg : List Nat} {ls st ls' st' : List eV} {n e0 : Nat} {pp : Nat → Nat → Nat} {hh : Nat → Nat → Int} {μ' : eM} {pc' : Nat} (hRf : mLv m ≤ R.frames) (hRl : 64 * mLv m ≤ R.locals) (hcs : cells ≤ R.cells) (hss : slots ≤ R.slots) (hk : chk m pc (97, a, b, k, v, tg) = true) (hw : eWf ls st (n, e0, pp, hh)) (hs : eSel ewK ewL ewT X pc (97, a, b, k, v, tg) ls st (n, e0, pp, hh) = some (.inl (pc', ls', st', μ')))
    (kk : eVv B K dA D p l e R s mI args below meth c Q m cells slots pc' ls' st' μ') : eVv B K dA D p l e R s mI args below meth c Q m cells slots pc ls st (n, e0, pp, hh) := by
  obtain ⟨hx, hb, hr, hml, hown, hts, hlk, htb, hnm, hst, hB1, hK, hC⟩ := C
  rw [sl_97 X] at hs
  rw [ck_97] at hk
  simp only [Bool.and_eq_true, decide_eq_true_eq] at hk
  obtain ⟨rfl, rfl⟩ := hk
  split at hs
  next t j hl17 hl18 =>
    split at hs
    next hlen =>
      split at hs
      next hg =>
        cases hs
        intro H locs lsA hR hS hL
        obtain ⟨a0, ha0, htx⟩ := hL.2.2.2.2 rfl 17 t rfl hl17
        obtain ⟨ht1, ht2, ⟨b0, hZ⟩, -⟩ := htx
        have hl18' := hL.2.2.2.1 18 _ hl18 rfl
        have hi : j.toNat < t.length := by omega
        have hch : 0 ≤ t.getD j.toNat 0 ∧ t.getD j.toNat 0 < 128 := by
          rw [List.getD_eq_getElem?_getD, List.getElem?_eq_getElem hi]
          exact ht2 _ (List.getElem_mem hi)
        have hlv : (13 : Nat) ≤ mLv m_L_sounds := by decide +kernel
        have hM := jMt2_of (a0 := a0) (b0 := b0) (t0 := t) (l := l) (by decide) (by intro v hv; simp only [List.mem_cons, List.not_mem_nil, or_false] at hv; rcases hv with rfl | rfl <;> simp [Value.category]) (Nat.le_refl 2) (jB_chr2 (B := B) (K := K) (dA := dA) (D := D) (l := l) ht1 hch hi)
        rw [show ((j.toNat : Nat) : Int) = j by omega] at hM
        rw [tx_m.2.2.2.2.1]
        refine lv_aload hx hb tx_d2.1 ha0 ?_
        refine lv_iload hx hb tx_d2.2.1 hl18' ?_
        have h1 := kk H locs lsA hR hS hL
        refine jcallV2 (vs := [.int (Int32.ofInt j)]) (n := 1) (rest := st.map (cv B K)) hx hb hown hts hK hC hB1 hS hZ hZ.1 hM (jw (j := 1061) rfl rfl) (jw (j := 1058) rfl rfl) (jw (j := 1059) rfl rfl) (jw (j := 1060) rfl rfl) (jw (j := 23) rfl rfl) (by decide) rfl (by omega) (by omega) hcs hss (by rw [hml]; exact hL.1) (Nat.le_trans (wt_sum st) hlen) rfl tx_d2.2.2 (fun locs1 hS1 => ?_)
        have h1 := kk H locs1 lsA hR hS1 hL
        rw [show 198 + 3 = 201 from rfl, tx_m.2.2.2.2.2.1] at h1
        exact h1
      · cases hs
    · cases hs
  · cases hs
theorem wf_94 {pc a b k : Nat} {v : Int} {tg : List Nat} {ls st ls' st' : List eV} {n e0 : Nat} {pp : Nat → Nat → Nat} {hh : Nat → Nat → Int} {μ' : eM} {pc' : Nat} (hw : eWf ls st (n, e0, pp, hh)) (hs : eSel ewK ewL ewT X pc (94, a, b, k, v, tg) ls st (n, e0, pp, hh) = some (.inl (pc', ls', st', μ'))) : eWf ls' st' μ' ∧ μ'.1 = n ∧ μ'.2.1 = e0 + 1 := by
  obtain ⟨h1, h2, h3, h4⟩ := hw
  rw [sl_94] at hs
  split at hs
  · cases hs
    exact ⟨⟨eSt_vl h1 (fun x hx => absurd hx List.not_mem_nil), h2, h3, h4⟩, rfl, rfl⟩
  · cases hs
theorem wf_97 {pc a b k : Nat} {v : Int} {tg : List Nat} {ls st ls' st' : List eV} {n e0 : Nat} {pp : Nat → Nat → Nat} {hh : Nat → Nat → Int} {μ' : eM} {pc' : Nat} (hw : eWf ls st (n, e0, pp, hh)) (hs : eSel ewK ewL ewT X pc (97, a, b, k, v, tg) ls st (n, e0, pp, hh) = some (.inl (pc', ls', st', μ'))) : eWf ls' st' μ' ∧ μ'.1 = n ∧ μ'.2.1 = e0 := by
  obtain ⟨h1, h2, h3, h4⟩ := hw
  rw [sl_97 X] at hs
  split at hs
  next t j hl17 hl18 =>
    split at hs
    · split at hs
      next hg =>
        cases hs
        refine ⟨⟨h1, List.forall_mem_cons.mpr ⟨?_, h2⟩, h3, h4⟩, rfl, rfl⟩
        have h5 : ∀ x ∈ t, 0 ≤ x ∧ x < 128 := h1 _ (List.mem_of_getElem? hl17)
        have hi : j.toNat < t.length := by omega
        have h6 := h5 (t.getD j.toNat 0) (by rw [List.getD_eq_getElem?_getD, List.getElem?_eq_getElem hi]; exact List.getElem_mem hi)
        show inR _
        unfold inR
        omega
      · cases hs
    · cases hs
  · cases hs
end
