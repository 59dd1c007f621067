/-! a letter put behind a text: the library's builder -/
theorem sb_d : decode (mBy m_L_sounds) 205 = .ok (.new 288, 3) ∧ decode (mBy m_L_sounds) 208 = .ok (.dup, 1) ∧ decode (mBy m_L_sounds) 209 = .ok (.invokespecial 290, 3) ∧ decode (mBy m_L_sounds) 212 = .ok (.aload 17, 2) ∧ decode (mBy m_L_sounds) 214 = .ok (.invokevirtual 291, 3) := by decide +kernel
theorem sb_d2 : decode (mBy m_L_sounds) 217 = .ok (.aload_n 0, 1) ∧ decode (mBy m_L_sounds) 218 = .ok (.iload 4, 2) ∧ decode (mBy m_L_sounds) 220 = .ok (.iload 18, 2) ∧ decode (mBy m_L_sounds) 222 = .ok (.invokestatic 294, 3) := by decide +kernel
theorem sb_d3 : decode (mBy m_L_sounds) 225 = .ok (.l2i, 1) ∧ decode (mBy m_L_sounds) 226 = .ok (.i2c, 1) ∧ decode (mBy m_L_sounds) 227 = .ok (.invokevirtual 296, 3) ∧ decode (mBy m_L_sounds) 230 = .ok (.invokevirtual 299, 3) ∧ decode (mBy m_L_sounds) 233 = .ok (.astore 17, 2) := by decide +kernel
theorem ch8 {x : Int} (h0 : 0 ≤ x) (h1 : x < 128) : (Int32.ofInt x).toInt8.toInt32 = Int32.ofInt x ∧ (0 : Int32) ≤ Int32.ofInt x ∧ Int32.ofInt x ≤ 255 := by
  have h : ∀ k : Nat, k < 128 → (Int32.ofInt (k : Int)).toInt8.toInt32 = Int32.ofInt (k : Int) ∧ (0 : Int32) ≤ Int32.ofInt (k : Int) ∧ Int32.ofInt (k : Int) ≤ 255 := by decide +kernel
  obtain ⟨k, rfl⟩ : ∃ k : Nat, x = (k : Int) := ⟨x.toNat, by omega⟩
  exact h k (by omega)
theorem bfs0 : ∀ j, j < 4 → defaultValue (bY0 j) = vp_V [.null, .int 0, .int 0, .int 0] j := by decide +kernel
def zN : State → Heap → Prop := fun _ _ => True
theorem zN_mv {A : Nat → Prop} : bMv A zN := fun _ _ _ _ _ _ _ => trivial
theorem va_O_A {E : String} {t : Nat} {A A' : Nat → Prop} {s : State} {H : Heap} (h : va_O E t A s H) (hA : ∀ q : Nat, q < H.size → ¬ A' q) : va_O E t A' s H := by
  obtain ⟨cell, h1, h2, h3, -⟩ := h
  exact ⟨cell, h1, h2, h3, hA _ (Array.getElem?_eq_some_iff.mp h1).1⟩
theorem va_OF_A {o n d : String} {v : Value} {t : Nat} {A A' : Nat → Prop} {s : State} {H : Heap} (h : va_OF o n d v t A s H) (hA : ∀ q : Nat, q < H.size → ¬ A' q) : va_OF o n d v t A' s H := by
  obtain ⟨cf, k, i, f, cell, h1, h2, h3, h4, h5, -⟩ := h
  exact ⟨cf, k, i, f, cell, h1, h2, h3, h4, h5, hA _ (Array.getElem?_eq_some_iff.mp h3).1⟩
theorem va_T_A {ty : FieldType} {t N : Nat} {f : Nat → Value} {A A' : Nat → Prop} {s : State} {H : Heap} (h : va_T ty t N f A s H) (hA : ∀ q : Nat, q < H.size → ¬ A' q) : va_T ty t N f A' s H := by
  obtain ⟨cell, h1, h2, h3, h4, h5, h6, -⟩ := h
  exact ⟨cell, h1, h2, h3, h4, h5, h6, hA _ (Array.getElem?_eq_some_iff.mp h1).1⟩
section
variable {B : Nat} {K : Nat → Nat} {dA : Nat → ClassId} {D : va_G} {X : eX}
variable {p : Program} {l : Launch} {e : Env} {R : Room} {s : State} {mI : MethodId} {args : Array Value} {below : List Frame} {meth : Method} {c : Code} {cells slots mc ms : Nat} {Q : State → Prop} {m : Nat} {D2 : va_G} {cB : ClassId} {Hb : Nat}
theorem eRep_kp {μ : eM} {H H1 : Heap} (hR : eRep B K dA D μ H) (hn : μ.1 ≤ 576) (hk : ∀ q : Nat, q < H.size → eAd B q → H1[q]? = H[q]?) : eRep B K dA D μ H1 := by
  refine va_P.kept hR (fun k x hx => ?_)
  have h1 := eWs_of B K dA hx
  have h2 := (hR k x hx).lt
  refine hk x.1 h2 ?_
  rw [h1.2]
  show B < B + (k + 1) ∧ B + (k + 1) ≤ B + 576
  omega
theorem eRep_sz {μ : eM} {H : Heap} (hR : eRep B K dA D μ H) (hn : μ.1 = 576) : B + 576 < H.size := by
  have h1 := eWs_at B K dA (a := 576) (n := μ.1) (p := μ.2.2.1) (h := μ.2.2.2) (by omega) (by omega)
  exact (hR _ _ h1).lt
/-- the builder, with what keeps her -/
def tBd (B : Nat) (s : State) (D2 : va_G) (cB : ClassId) (Hb : Nat) (H : Heap) (b d n cap : Nat) (f : Nat → Int32) : Prop := va_P D2 bCl (bW cB b d 0 (nI n) cap f) H ∧ va_D (fun q => Hb ≤ q) (bW cB b d 0 (nI n) cap f) ∧ bFit f ∧ (cap = 16 ∨ cap = 34) ∧ n ≤ cap ∧ s.heap.size ≤ Hb ∧ B + 576 < Hb
theorem tBd_fr {H H1 : Heap} {b d n cap : Nat} {f : Nat → Int32} (hk : ∀ q : Nat, q < H.size → ¬ eAd B q → H1[q]? = H[q]?) (h : tBd B s D2 cB Hb H b d n cap f) : tBd B s D2 cB Hb H1 b d n cap f := by
  obtain ⟨h1, h2, h3, h4, h5, h6, h7⟩ := h
  refine ⟨h1.kept (fun k q hq => hk _ (h1 k q hq).lt (fun z => ?_)), h2, h3, h4, h5, h6, h7⟩
  have h8 : Hb ≤ q.1 := h2.2 k q hq
  have h9 := z.2
  omega
theorem bIds (hts : ∀ w ∈ ewL4, w.before args s = true) : ∃ (D2 : va_G) (cB : ClassId), va_K D2 bCl [(cB, .byte)] s := by
  obtain ⟨c0, i0, h0⟩ := u_known hts bin0 (hts (.instantiable "java/lang/StringBuilder" 4) (jw (j := 1299) rfl rfl))
  obtain ⟨c1, i1, h1⟩ := u_known hts bin1 (hts (.instantiable "java/lang/String" 4) (jw (j := 861) rfl rfl))
  obtain ⟨cB, k, comp, h2, h3, h4⟩ := Cond.arrayClass_spec (hts (.arrayClass .byte) (jw (j := 862) rfl rfl))
  refine ⟨(fun c => match c with | 0 => c0 | _ => c1, fun c => match c with | 0 => i0 | _ => i1), cB, fun c q hq => ?_, fun k2 q hq => ?_⟩
  · match c, hq with
    | 0, hq => cases hq; exact h0
    | 1, hq => cases hq; exact h1
  · match k2, hq with
    | 0, hq => cases hq; exact ⟨fun n z => ⟨fun k h => (by cases h), k, h3, comp, h4⟩, h2⟩
theorem zLaw (hC : eCst B K s) {H : Heap} {locs : List Loc} (hS : va_S (eAd B) s.heap H locs) (hHb : s.heap.size ≤ Hb) : va_Z "java/lang/String" "COMPACT_STRINGS" "Z" (.int 1) (fun q => Hb ≤ q) s H := by
  obtain ⟨cf, kf, fi, f, a, cell, h1, h2, h3, h4, h5, h6, h7, h8⟩ := hC.2.2.2.2.2.2.2.2.2.2.2.2.1
  have hlt := (Array.getElem?_eq_some_iff.mp h5).1
  exact ⟨cf, kf, fi, f, a, cell, h1, h2, h3, h4, (hS.2.1 a hlt h8).trans h5, h6, h7, fun (z : Hb ≤ a) => by omega⟩
theorem lPre {H : Heap} {Z : State → Heap → Prop} (hts : ∀ w ∈ ewL4, w.before args s = true) (hK : va_K D2 bCl [(cB, .byte)] s) (hCZ : va_Z "java/lang/String" "COMPACT_STRINGS" "Z" (.int 1) (fun q => Hb ≤ q) s H) (hH : Hb ≤ H.size) (hZm : bMv (fun q => Hb ≤ q) Z) (hZ : Z s H) {ws : va_W} (hP : va_P D2 bCl ws H) (hD : va_D (fun q => Hb ≤ q) ws) (vs : List Value) : PreS s H (bPc (fun q => Hb ≤ q) D2 cB Z ws vs) vs :=
  ⟨bPc_blind hZm, fun U hU hW => ⟨rfl, ⟨ewN_of hts hW, va_K.moved hW.alike hK, by rw [hU]; exact va_Z.moved hW.alike hCZ, fun q hq => by rw [hU] at hq; exact Nat.le_trans hH hq⟩, by rw [hU]; exact hZm s U H H hW.alike (fun _ _ _ => rfl) hZ, by rw [hU]; exact hP, hD⟩⟩
theorem lGo {H : Heap} {locs : List Loc} {pc : Nat} {lsA : Array Slot} {st0 rest : List Value} {a0 : Array Value} {Post : Option Value → Heap → Heap → Prop} (hHb : s.heap.size ≤ Hb) (hr : vx_Run p l e R s mI args below meth c H locs cells slots mc ms (F0 mI pc lsA st0) rest (bQc (fun q => Hb ≤ q) Post a0) jXC (fun q => Hb ≤ q))
    (kk : ∀ (v : Option Value) (H1 : Heap), Post v H H1 → H.size ≤ H1.size → (∀ q : Nat, q < H.size → q < Hb → H1[q]? = H[q]?) → W p l e R s mI args below meth c H1 locs (cells + mc) (slots + ms) Q (F0 mI (pc + 3) lsA (v.toList ++ rest))) : W p l e R s mI args below meth c H locs cells slots Q (F0 mI pc lsA st0) := by
  intro T hT XX
  rcases hr T hT XX with ⟨v1, st₀, t, T', L, h0, X', hL, e1, e2, hq, st⟩ | ⟨q, st₀, t, T', L, E, ce, h0, X', hL, e1, e2, hx, hce, hcv, hcl, st⟩
  · obtain ⟨⟨v, hv, hp⟩, hF⟩ := hq
    cases hv
    obtain ⟨hz, hk⟩ := hF
    rw [h0] at hz hk hp
    have hw := W.forget (L := L) (locs := locs) (fun w hw => Nat.le_trans hHb (hL w hw)) (kk v1 T'.heap (by rw [e1]; exact hp) (by rw [e1]; exact hz) (fun q h1 h2 => by rw [e1]; exact hk q h1 (fun (z : Hb ≤ q) => by omega)))
    obtain ⟨t2, a1, b1⟩ := hw T' rfl X'
    exact ⟨t2, st t2 a1, b1⟩
  · exact hx.elim
theorem tVa_w (hts : ∀ w ∈ ewL4, w.before args s = true) (hK2 : va_K D2 bCl [(cB, .byte)] s) {H : Heap} (hB : B + 576 < Hb) {ws : va_W} (hP : va_P D2 bCl ws H) (hD : va_D (fun q => Hb ≤ q) ws) {s0 q n : Nat} {f : Nat → Int32} {t : List Int} (e2 : ws[2]? = some (s0, .inr (1, [.ref q, .int 0, .int 0, .int 0]))) (e3 : ws[3]? = some (q, .inl (cB, n, .inl f))) (hn : n = t.length) (hc : ∀ j, j < t.length → f j = Int32.ofInt (t.getD j 0)) : tVa B s H s0 t := by
  have h8 : Hb ≤ s0 := hD.2 2 _ e2
  have h9 : Hb ≤ q := hD.2 3 _ e3
  have n1 : ¬ eAd B s0 := fun z => by have := z.2; omega
  have n2 : ¬ eAd B q := fun z => by have := z.2; omega
  obtain ⟨cell0, g1, g2, g3⟩ := va_recv hK2 hP (ci := 1) rfl e2
  obtain ⟨r, h1, cell, q1, q2, q3, q4⟩ := hP 2 _ e2
  cases h1
  obtain ⟨hS, hfc, kC, hkC, hkind⟩ := hK2.1 1 _ rfl
  obtain ⟨cf, kf, fi, f9, hi, hsl⟩ := hS 1 (by decide)
  obtain ⟨cf0, kf0, fi0, f0, hi0, hsl0⟩ := hS 0 (by decide)
  have hcell : H[q]? = some (vp_cell cB (n, .inl f)) := hP 3 _ e3
  refine ⟨q, ⟨cell0, g1, g2, g3, n1⟩, ⟨cf, kf, fi, f9, cell, hi, (u_facts hfc hkC (u_lays hts bin1 (by decide)) hi).1, q1, (by rw [q3]; exact fun h => by cases h), (by rw [hsl, q4 1 (by decide)]; rfl), n1⟩, ⟨cf0, kf0, fi0, f0, cell, hi0, (u_facts hfc hkC (u_lays hts bin1 (by decide)) hi0).1, q1, (by rw [q3]; exact fun h => by cases h), (by rw [hsl0, q4 0 (by decide)]; rfl), n1⟩, ⟨_, hcell, (hK2.2 0 _ rfl).1 n (fun j => .int (f j)), fun h => (by cases h), ?_, ?_, fun j hj => ?_, n2⟩⟩
  · show t.length ≤ (arrV cB n (fun j => .int (f j))).slots.size
    rw [arrV_size]
    omega
  · show (arrV cB n (fun j => .int (f j))).slots.size.toInt32 = _
    rw [arrV_size, hn]
  · show (arrV cB n (fun j => .int (f j))).slots[j]? = _
    rw [arrV_read _ _ (by omega), hc j hj]
set_option maxHeartbeats 2000000 in
theorem cat_a (hx : p.tables.exec = Jvm.exec) (hb : c.code = mBy m_L_sounds) (hml : c.maxLocals = ewMax m_L_sounds) (hown : s.vm.findClass "EchoWellsLaw" = some mI.cls) (hts : ∀ w ∈ ewL4, w.before args s = true) (hC : eCst B K s)
    {H : Heap} {locs : List Loc} {lsA : Array Slot} (hS : va_S (eAd B) s.heap H locs) (hsz : B + 576 < H.size) (hlsz : lsA.size = ewMax m_L_sounds) {a17 : Nat} {t : List Int} (h17 : lsA[17]? = some (.val (.ref a17))) (htx : tTx B s H a17 t) (htl : t.length ≤ 20)
    (hRf : 13 ≤ R.frames) (hRl : 832 ≤ R.locals) (hcs : cells + 3 ≤ R.cells) (hss : slots + 54 ≤ R.slots)
    (kk : ∀ (D2 : va_G) (cB : ClassId) (b d cap : Nat) (f : Nat → Int32) (H1 : Heap), va_K D2 bCl [(cB, .byte)] s → tBd B s D2 cB H.size H1 b d t.length cap f → (∀ i : Nat, i < t.length → f i = Int32.ofInt (t.getD i 0)) → H.size ≤ H1.size → (∀ q : Nat, q < H.size → H1[q]? = H[q]?) →
      W p l e R s mI args below meth c H1 locs (cells + 3) (slots + 54) Q (F0 mI 217 lsA [.ref b])) :
    W p l e R s mI args below meth c H locs cells slots Q (F0 mI 205 lsA []) := by
  obtain ⟨-, htc, ⟨b0, z1, z2, z3, z4⟩, -⟩ := htx
  have hBH : s.heap.size ≤ H.size := hS.1
  obtain ⟨D2, cB, hK2⟩ := bIds hts
  have hZ0 := zLaw hC hS (Nat.le_refl _ : s.heap.size ≤ s.heap.size)
  refine W.newcK hx hb hown (hts _ (in4 (wd_mem (j := 1298) rfl) rfl)) (hts _ (in4 (wd_mem (j := 1299) rfl) rfl)) (hts _ (in4 (wd_mem (j := 30) rfl) rfl)) (g := F0 mI 205 lsA []) rfl sb_d.1 (by omega) (by omega) (hK2.1 0 _ rfl).2.1 rfl (fun H1 kC hkC e1 w1 o1 => ?_)
  refine lv_dup (pc := 208) hx hb sb_d.2.1 rfl ?_
  have hP0 : va_P D2 bCl [(H.size, .inr (0, [.null, .int 0, .int 0, .int 0]))] H1 := by
    intro k q hq
    match k, hq with
    | 0, hq => cases hq; exact ⟨_, rfl, (u_born bY0 hts bin0 (hK2.1 0 _ rfl) hkC e1 bY0_ok).to bfs0⟩
  have hD0 : va_D (fun q => H.size ≤ q) [(H.size, (.inr (0, [.null, .int 0, .int 0, .int 0]) : va_E))] := by
    refine ⟨fun i j p q hi hj _ => ?_, fun k q hq => ?_⟩
    · have h1 := (List.getElem?_eq_some_iff.mp hi).1
      have h2 := (List.getElem?_eq_some_iff.mp hj).1
      simp only [List.length_singleton] at h1 h2
      omega
    · match k, hq with
      | 0, hq => cases hq; exact Nat.le_refl _
  have hS1 : va_S (eAd B) s.heap H1 locs := ⟨by omega, fun q h1 h2 => (o1 q (by omega)).trans (hS.2.1 q h1 h2), hS.2.2⟩
  have hfix : CallFix p mI c (mBy m_L_sounds) (ewMax m_L_sounds) s args ewL4 "EchoWellsLaw" := ⟨hx, hb, hml, hown, hts⟩
  refine lGo (Hb := H.size) (pc := 209) (mc := 1) (ms := 16) (a0 := ([.ref H.size] : List Value).toArray) (rest := [.ref H.size]) hBH (vx_runI hfix (bMt_of (by decide) (Nat.le_of_ble_eq_true rfl) (bB_sbInit (Z := zN) (b := H.size) zN_mv)) ⟨⟨rfl, rfl, by show 2 + 1 ≤ _; omega, by show 8 + (1 + 11) + 64 * 2 ≤ _; omega, jws hts (jw (j := 1302) rfl rfl), List.mem_singleton.mpr rfl, hts _ (jw (j := 1302) rfl rfl), hts _ (jw (j := 30) rfl rfl), ⟨by decide, by decide⟩, bLen (n := 0) (by decide +kernel), hts _ (jw (j := 1300) rfl rfl)⟩, rfl, hts _ (jw (j := 1301) rfl rfl)⟩
    (lPre hts hK2 (zLaw hC hS1 hBH) (by omega) zN_mv trivial hP0 hD0 _) rfl rfl hlsz rfl (by show 2 * 0 + _ ≤ 8; simp [Value.category]) sb_d.2.2.1 ⟨by omega, by omega⟩) (fun v H2 hpost hz2 hk2 => ?_)
  obtain ⟨rfl, d1, hP1, hD1⟩ := hpost
  have hS2 : va_S (eAd B) s.heap H2 locs := ⟨by omega, fun q h1 h2 => (hk2 q (by omega) (by omega)).trans (hS1.2.1 q h1 h2), hS.2.2⟩
  have ho2 : ∀ q : Nat, q < H.size → ¬ (H.size ≤ q) → H2[q]? = H[q]? := fun q h1 _ => (hk2 q (by omega) h1).trans (o1 q h1)
  refine lv_aload (pc := 212) hx hb sb_d.2.2.2.1 h17 ?_
  have hZt : zS (fun q => H.size ≤ q) a17 b0 t s H := ⟨va_O_A z1 (fun q h1 (h2 : H.size ≤ q) => by omega), va_OF_A z2 (fun q h1 (h2 : H.size ≤ q) => by omega), va_OF_A z3 (fun q h1 (h2 : H.size ≤ q) => by omega), va_T_A z4 (fun q h1 (h2 : H.size ≤ q) => by omega)⟩
  have hZt2 : zS (fun q => H.size ≤ q) a17 b0 t s H2 := zS_mv s s H H2 (al_refl s) ho2 hZt
  have hf0 : bFit (fun _ => (0 : Int32)) := fun _ => rfl
  refine lGo (Hb := H.size) (pc := 214) (mc := 1) (ms := 34) (a0 := ([.ref H.size, .ref a17] : List Value).toArray) (rest := []) hBH (vx_runV (C := "java/lang/StringBuilder") hfix (bMt_of (by decide) (Nat.le_of_ble_eq_true rfl) (bB_bS (b := H.size) (d := d1) (ml := 0) (a0 := a17) (b0 := b0) (t0 := t) (by omega) htc hf0)) ⟨⟨rfl, rfl, by show 5 + 1 ≤ _; omega, by show 8 + (2 + 11) + 64 * 5 ≤ _; omega, jws hts (jw (j := 1331) rfl rfl), List.mem_singleton.mpr rfl, hts _ (jw (j := 1331) rfl rfl), hts _ (jw (j := 30) rfl rfl), ⟨by decide, by decide⟩, bLen (n := 1) (by decide +kernel), hts _ (jw (j := 1328) rfl rfl)⟩, hts _ (jw (j := 1329) rfl rfl), hts _ (jw (j := 1330) rfl rfl)⟩
    ⟨bPc_blind zS_mv, va_recv hK2 hP1 (ci := 0) (q0 := 0) rfl rfl, (lPre hts hK2 (zLaw hC hS2 hBH) (by omega) zS_mv hZt2 hP1 hD1 [.ref H.size, .ref a17]).2⟩ rfl rfl hlsz rfl (by show 2 * 0 + _ ≤ 8; simp) sb_d.2.2.2.2 ⟨by omega, by omega⟩) (fun v H3 hpost hz3 hk3 => ?_)
  obtain ⟨rfl, d2, cap2, f2, g1, g2, g3, g4, hP2, hD2⟩ := hpost
  have k1 := kk D2 cB H.size d2 cap2 f2 H3 hK2 ⟨hP2, hD2, g3, g1, g2, hBH, hsz⟩ g4 (by omega) (fun q h1 => (hk3 q (by omega) h1).trans (ho2 q h1 (by omega)))
  exact W_more (by omega) (by omega) k1
set_option maxHeartbeats 2000000 in
theorem cat_b (hx : p.tables.exec = Jvm.exec) (hb : c.code = mBy m_L_sounds) (hml : c.maxLocals = ewMax m_L_sounds) (hown : s.vm.findClass "EchoWellsLaw" = some mI.cls) (hts : ∀ w ∈ ewL4, w.before args s = true) (hC : eCst B K s)
    {H : Heap} {locs : List Loc} {lsA : Array Slot} {ls : List eV} (hL : eLR B K s m_L_sounds H lsA (ewMax m_L_sounds) ls) (hS : va_S (eAd B) s.heap H locs) (hK2 : va_K D2 bCl [(cB, .byte)] s) {b d cap : Nat} {f : Nat → Int32} {t : List Int} (hBd : tBd B s D2 cB Hb H b d t.length cap f) (hAc : ∀ i : Nat, i < t.length → f i = Int32.ofInt (t.getD i 0)) (htl : t.length ≤ 20) (htc : ∀ y ∈ t, 0 ≤ y ∧ y < 128) {v : Int} (hv0 : 0 ≤ v) (hv1 : v < 128)
    (hRf : 13 ≤ R.frames) (hRl : 832 ≤ R.locals) (hcs : cells + 3 ≤ R.cells) (hss : slots + 144 ≤ R.slots)
    (kk : ∀ (H1 : Heap) (lsB : Array Slot), eLR B K s m_L_sounds H1 lsB (ewMax m_L_sounds) (eSt ls 17 (vT (t ++ [v]))) → H.size ≤ H1.size → (∀ q : Nat, q < Hb → H1[q]? = H[q]?) →
      W p l e R s mI args below meth c H1 locs (cells + 3) (slots + 144) Q (F0 mI 235 lsB [])) :
    W p l e R s mI args below meth c H locs cells slots Q (F0 mI 225 lsA [.long (Int64.ofInt v), .ref b]) := by
  obtain ⟨hP, hD, hf, hcap, hnc, hbs, hB5⟩ := hBd
  have hbl : b < H.size := (hP 0 _ rfl).lt
  have hbH : Hb ≤ b := hD.2 0 _ rfl
  have hvR : inR v := by unfold inR; omega
  have hlsz : lsA.size = ewMax m_L_sounds := hL.1
  obtain ⟨c1, c2, c3⟩ := ch8 hv0 hv1
  refine lv_l2i (pc := 225) hx hb sb_d3.1 (oL_l2i (inR_8 hvR)) ?_
  rw [wr_id hvR]
  refine lv_i2c (pc := 226) hx hb sb_d3.2.1 (oI_c hvR) ?_
  rw [show v % 65536 = v by omega]
  have hfix : CallFix p mI c (mBy m_L_sounds) (ewMax m_L_sounds) s args ewL4 "EchoWellsLaw" := ⟨hx, hb, hml, hown, hts⟩
  have hx9 : ¬ (255 : Int32) < Int32.ofInt v := fun h => by
    have h1 := Int32.lt_iff_toInt_lt.mp h
    have h2 := Int32.le_iff_toInt_le.mp c3
    omega
  have hxf : fits .byte (.int (Int32.ofInt v)) = true := by
    have h := bfit_t (t := [v]) (by intro y hy; rw [List.mem_singleton] at hy; subst hy; exact ⟨hv0, hv1⟩) 0
    exact h
  refine lGo (Hb := Hb) (pc := 227) (mc := 1) (ms := 34) (a0 := ([.ref b, .int (Int32.ofInt v)] : List Value).toArray) (rest := []) hbs (vx_runV (C := "java/lang/StringBuilder") hfix (bMt_of (by decide) (Nat.le_of_ble_eq_true rfl) (bB_bC (Z := zN) (b := b) (d := d) (cap := cap) (n := t.length) (ml := 0) (x := Int32.ofInt v) (f := f) zN_mv (by omega) hnc hcap hf hx9 c1 hxf)) ⟨⟨rfl, rfl, by show 5 + 1 ≤ _; omega, by show 8 + (2 + 11) + 64 * 5 ≤ _; omega, jws hts (jw (j := 1435) rfl rfl), List.mem_singleton.mpr rfl, hts _ (jw (j := 1435) rfl rfl), hts _ (jw (j := 30) rfl rfl), ⟨by decide, by decide⟩, bLen (n := 1) (by decide +kernel), hts _ (jw (j := 1432) rfl rfl)⟩, hts _ (jw (j := 1433) rfl rfl), hts _ (jw (j := 1434) rfl rfl)⟩
    ⟨bPc_blind zN_mv, va_recv hK2 hP (ci := 0) (q0 := 0) rfl rfl, (lPre hts hK2 (zLaw hC hS hbs) (by omega) zN_mv trivial hP hD [.ref b, .int (Int32.ofInt v)]).2⟩ rfl rfl hlsz rfl (by show 2 * 0 + _ ≤ 8; simp) sb_d3.2.2.1 ⟨by omega, by omega⟩) (fun v2 H2 hpost hz2 hk2 => ?_)
  obtain ⟨rfl, d2, cap2, f2, g1, g2, g3, g4, g5, hP2, hD2⟩ := hpost
  have hS2 : va_S (eAd B) s.heap H2 locs := ⟨Nat.le_trans hS.1 hz2, fun q h1 h2 => (hk2 q (Nat.lt_of_lt_of_le h1 hS.1) (by omega)).trans (hS.2.1 q h1 h2), hS.2.2⟩
  refine lGo (Hb := Hb) (pc := 230) (mc := 2) (ms := 38) (a0 := ([.ref b] : List Value).toArray) (rest := []) hbs (vx_runV (C := "java/lang/StringBuilder") hfix (bMt_of (by decide) (Nat.le_of_ble_eq_true rfl) (bB_toS (Z := zN) (b := b) (d := d2) (cap := cap2) (n := t.length + 1) (ml := 0) (f := f2) zN_mv g2 (by omega) g3)) ⟨⟨rfl, rfl, by show 5 + 1 ≤ _; omega, by show 8 + (1 + 11) + 64 * 5 ≤ _; omega, jws hts (jw (j := 1448) rfl rfl), List.mem_singleton.mpr rfl, hts _ (jw (j := 1448) rfl rfl), hts _ (jw (j := 30) rfl rfl), ⟨by decide, by decide⟩, bLen (n := 0) (by decide +kernel), hts _ (jw (j := 1445) rfl rfl)⟩, hts _ (jw (j := 1446) rfl rfl), hts _ (jw (j := 1447) rfl rfl)⟩
    ⟨bPc_blind zN_mv, va_recv hK2 hP2 (ci := 0) (q0 := 0) rfl rfl, (lPre hts hK2 (zLaw hC hS2 hbs) (by omega) zN_mv trivial hP2 hD2 [.ref b]).2⟩ rfl rfl hlsz rfl (by show 2 * 0 + _ ≤ 8; simp) sb_d3.2.2.2.1 ⟨by omega, by omega⟩) (fun v3 H3 hpost hz3 hk3 => ?_)
  obtain ⟨s0, q, f3, rfl, g6, hP3, hD3⟩ := hpost
  have hcont : ∀ j, j < (t ++ [v]).length → f3 j = Int32.ofInt ((t ++ [v]).getD j 0) := by
    intro i hi
    rw [List.length_append, List.length_singleton] at hi
    rw [g6 i hi]
    by_cases h5 : i < t.length
    · rw [g4 i h5, hAc i h5, List.getD_eq_getElem?_getD, List.getD_eq_getElem?_getD, List.getElem?_append_left h5]
    · have h6 : i = t.length := by omega
      subst h6
      rw [g5, List.getD_eq_getElem?_getD, List.getElem?_append_right (Nat.le_refl _), Nat.sub_self]
      rfl
  have htx : tTx B s H3 s0 (t ++ [v]) := by
    refine ⟨by rw [List.length_append, List.length_singleton]; omega, fun y hy => ?_, tVa_w hts hK2 hB5 hP3 hD3 rfl rfl (by rw [List.length_append, List.length_singleton]) hcont, rfl⟩
    rcases List.mem_append.mp hy with h | h
    · exact htc y h
    · rw [List.mem_singleton] at h
      subst h
      exact ⟨hv0, hv1⟩
  have hlt : 17 < ewMax m_L_sounds := by decide +kernel
  have hL3 : lv_has lsA (ewMax m_L_sounds) (eKn B K lsA ls) := eLR.has B K hL
  refine lv_astore (pc := 233) hx hb sb_d3.2.2.2.2 hL3 hlt rfl (fun lsB hl2 => ?_)
  have hLo : eLR B K s m_L_sounds H3 lsB (ewMax m_L_sounds) (eSt ls 17 (vT (t ++ [v]))) := by
    obtain ⟨a1, a2, a3⟩ := hl2
    refine ⟨a1, a2, by rw [eSt_len]; exact hL.2.2.1, ?_, ?_⟩
    · intro k w hk hj
      rcases eSt_at hk (nJ_of hj) with ⟨rfl, rfl, -⟩ | ⟨hne, hl, hd⟩
      · cases hj
      · exact a3 (k, cv B K w) (List.mem_cons_of_mem _ (eKn_fl B K hl (Or.inr ⟨eJT hj, hj, rfl⟩) hne hd))
    · intro hm k t' h17 hk
      rcases eSt_at hk (fun z => by cases z) with ⟨rfl, hz, -⟩ | ⟨hne, hl, hd⟩
      · cases hz
        exact ⟨_, a3 _ List.mem_cons_self, htx⟩
      · exact absurd h17 hne
  have k1 := kk H3 lsB hLo (Nat.le_trans hz2 hz3) (fun q h1 => (hk3 q (by omega) h1).trans (hk2 q (by omega) h1))
  exact W_more (by omega) (by omega) k1
theorem tx_lv : mLv m_L_sounds = 13 ∧ mLv m_L_echoLetter = 12 ∧ ewMax m_L_echoLetter ≤ 40 ∧ (mAr m_L_echoLetter).length = 3 ∧ mKd m_L_echoLetter = 0 ∧ mHh m_L_sounds = [] := by decide +kernel
set_option maxHeartbeats 2000000 in
/-- a letter is put behind: the builder, the call that gives the letter, the new text -/
theorem op_95 (C : eCx B K dA D p l s mI args meth c m_L_sounds) {ls : List eV} {ob : Nat} {w j : Int} {t : List Int} (l0 : ls[0]? = some (vR ob)) (l4 : ls[4]? = some (vI w)) (l17 : ls[17]? = some (vT t)) (l18 : ls[18]? = some (vI j)) (htl : t.length ≤ 20) {n e0 : Nat} {pp : Nat → Nat → Nat} {hh : Nat → Nat → Int} (hn : n = 576) (he : 0 < e0) {o : eO} {μ1 : eM} (hn1 : μ1.1 = 576)
    (hbd : eBd B K dA D l m_L_echoLetter [vR ob, vI w, vI j] (n, e0, pp, hh) o μ1 mc ms) (hRf : mLv m_L_sounds ≤ R.frames) (hRl : 64 * mLv m_L_sounds ≤ R.locals) (hcs : cells + mc + 40 ≤ R.cells) (hss : slots + ms + 240 ≤ R.slots)
    (ko : ∀ v, o = .inl v → ∃ x : Int, v = some (vL x) ∧ 0 ≤ x ∧ x < 128)
    (kv : ∀ x : Int, o = .inl (some (vL x)) → 0 ≤ x → x < 128 → eVv B K dA D p l e R s mI args below meth c Q m_L_sounds (cells + mc + 40) (slots + ms + 240) 126 (eSt ls 17 (vT (t ++ [x]))) [] (μ1.1, μ1.2.1 + 40, μ1.2.2))
    (kx : ∀ k, o = .inr k → 1 ≤ k → k ≤ 5 → ∀ (lsA : Array Slot) (rest : List Value) (ce : Cell) (q : Addr) (H1 : Heap) (locs1 : List Loc), eRep B K dA D μ1 H1 → va_S (eAd B) s.heap H1 locs1 → H1[q]? = some ce → ce.vm = .none → s.vm.findClass (ewEx k) = some ce.cls → vx_W p l e R s mI args below meth c H1 locs1 (cells + 3 + mc) (slots + 54 + ms) Q (F0 mI 222 lsA rest) q) :
    eVv B K dA D p l e R s mI args below meth c Q m_L_sounds cells slots 112 ls [] (n, e0, pp, hh) := by
  obtain ⟨hx, hbc, hr, hml, hown, hts, hlk, htb, hnm, hst, hB1, hK, hC⟩ := C
  have hown2 : s.vm.findClass "EchoWellsLaw" = some mI.cls := by rw [← tx_m.2.2.2.2.2.2.2]; exact hown
  have hal : m_L_echoLetter < m_L_law := by decide
  obtain ⟨hini, -, hmh, hpd, hal1, hmx, -, hk1, hstat, hinst⟩ := chM_spec hal
  obtain ⟨hcw4, hcwg⟩ := eCw_in hal
  obtain ⟨lv1, lv2, lv3, lv4, lv5, lv6⟩ := tx_lv
  intro H locs lsA hR hS hL
  rw [tx_m.2.2.1]
  obtain ⟨a17, h17, htx⟩ := hL.2.2.2.2 rfl 17 t rfl l17
  have htx0 := htx
  obtain ⟨-, htc, -, -⟩ := htx0
  have hsz := eRep_sz hR hn
  refine cat_a hx hbc hml hown2 hts hC hS hsz hL.1 h17 htx htl (by omega) (by omega) (by omega) (by omega) (fun D2 cB b9 d9 cap9 f9 H1 hK2 hBd hAc hH1 hH1o => ?_)
  have hS1 : va_S (eAd B) s.heap H1 locs := ⟨Nat.le_trans hS.1 hH1, fun q h1 h2 => (hH1o q (Nat.lt_of_lt_of_le h1 hS.1)).trans (hS.2.1 q h1 h2), hS.2.2⟩
  have hR1 : eRep B K dA D (n, e0, pp, hh) H1 := eRep_kp hR (by show n ≤ 576; omega) (fun q h1 _ => hH1o q h1)
  have hL1 : eLR B K s m_L_sounds H1 lsA (ewMax m_L_sounds) ls := hL.fr B K (fun q h1 _ => hH1o q h1)
  have hl0 := hL.2.2.2.1 0 _ l0 rfl
  have hl4 := hL.2.2.2.1 4 _ l4 rfl
  have hl18 := hL.2.2.2.1 18 _ l18 rfl
  have hpush : ∀ g : JFrame, W p l e R s mI args below meth c H1 locs (cells + 3) (slots + 54) Q (F0 mI 218 lsA [cv B K (vR ob), .ref b9]) → W p l e R s mI args below meth c H1 locs (cells + 3) (slots + 54) Q (F0 mI 217 lsA [.ref b9]) := by
    intro _ h1
    by_cases hz : ob = 0
    · subst hz
      exact lv_aload_nN hx hbc sb_d2.1 rfl hl0 h1
    · obtain ⟨q, hq⟩ := rv_ref (B := B) (K := K) hz
      have hl0' : lsA[0]? = some (.val (.ref q)) := by rw [← hq]; exact hl0
      refine lv_aload_n hx hbc sb_d2.1 rfl hl0' ?_
      rw [← hq]
      exact h1
  refine hpush (F0 mI 217 lsA []) ?_
  refine lv_iload (pc := 218) hx hbc sb_d2.2.1 hl4 ?_
  refine lv_iload (pc := 220) hx hbc sb_d2.2.2.1 hl18 ?_
  have hM := eMt_of (l := l) hal hst (as := [vR ob, vI w, vI j]) rfl (by rw [lv4] at hal1; exact hal1) (by intro y hy; simp only [List.mem_cons, List.not_mem_nil, or_false] at hy; rcases hy with rfl | rfl | rfl <;> rfl) hbd
  unfold eMt at hM
  have hPc : ∀ U : State, U.heap = H1 → s.WarmedH U.vm → ePc B K dA D [vR ob, vI w, vI j] (n, e0, pp, hh) ([vR ob, vI w, vI j].map (cv B K)).toArray U := fun U hU hW => ⟨rfl, ewI_moved hts hK hC hB1 hW (by rw [hU]; exact hS1.1) (fun q h1 h2 => by rw [hU]; exact hS1.2.1 q h1 h2), by rw [hU]; exact hR1, fun h => absurd h (by show ¬ e0 = 0; omega)⟩
  have hfr : (eRm m_L_echoLetter mc ms).frames + 1 ≤ R.frames := by show mLv m_L_echoLetter + 1 ≤ _; omega
  have hlo : 8 + (ewMax m_L_echoLetter + 11) + (eRm m_L_echoLetter mc ms).locals ≤ R.locals := by show 8 + (ewMax m_L_echoLetter + 11) + 64 * mLv m_L_echoLetter ≤ _; omega
  have hcw : eCw m_L_echoLetter = .codeWith (mNm m_L_echoLetter) (mBy m_L_echoLetter) (ewMax m_L_echoLetter) (mRt m_L_echoLetter) (mHh m_L_echoLetter) := rfl
  have hws : ∀ w ∈ [eCw m_L_echoLetter], ∀ (a' : Array Value) (U : State), s.WarmedH U.vm → w.before a' U = true := by
    intro w hw a' U hW
    rw [List.mem_singleton] at hw
    subst hw
    exact word_at hW (good_of_word hcwg) (hts _ hcw4)
  have hfix : CallFix p mI c (mBy m_L_sounds) (ewMax m_L_sounds) s args ewL4 (mNm m_L_sounds).cls := ⟨hx, hbc, hml, hown, hts⟩
  have hlenD : ∀ sig, parseMethodDescriptor (mNm m_L_echoLetter).desc = some sig → 3 = sig.parameters.length := by
    intro sig hsig
    rw [hsig] at hpd
    simp only [Option.map_some, Option.some.injEq] at hpd
    rw [if_pos lv5, lv4] at hpd
    omega
  rw [hcw] at hM hws hcw4
  have hrun : vx_Run p l e R s mI args below meth c H1 locs (cells + 3) (slots + 54) mc ms (F0 mI 222 lsA [.int (Int32.ofInt j), .int (Int32.ofInt w), cv B K (vR ob), .ref b9]) [.ref b9] (eQc B K dA D o μ1 ([vR ob, vI w, vI j].map (cv B K)).toArray) (eXC B K dA D o μ1) (eAd B) :=
    vx_runSX hfix hM ⟨⟨rfl, rfl, hfr, hlo, hws, List.mem_singleton.mpr rfl⟩, hts _ hcw4, hts _ hini, hmh, hlenD, hts _ (in4 (wd_mem (j := 1425) rfl) rfl), hts _ (hstat lv5)⟩ ⟨ePc_blind, hPc⟩ rfl rfl hL.1 rfl (by simp [Value.category]) sb_d2.2.2.2 ⟨by omega, by omega⟩
  refine eCall_W hrun hS1 (fun k hk k1 k2 ce q H2 locs2 r1 r2 r3 r4 r5 => kx k hk k1 k2 lsA [.ref b9] ce q H2 locs2 r1 r2 r3 r4 r5) (fun v hv H2 locs2 r0 r1 r2 => ?_)
  obtain ⟨xx, rfl, hx0, hx1⟩ := ko v hv
  have hL2 := hL1.fr B K r0
  have hsz2 : B + 576 < H2.size := eRep_sz r1 hn1
  have hBd2 := tBd_fr r0 hBd
  obtain ⟨-, -, -, -, -, nb4, nb5⟩ := id hBd2
  refine W_more (cells' := cells + 3 + mc) (slots' := slots + 54 + ms) (Nat.le_refl _) (Nat.le_refl _) ?_
  refine cat_b (cells := cells + 3 + mc) (slots := slots + 54 + ms) hx hbc hml hown2 hts hC hL2 r2 hK2 hBd2 hAc htl htc hx0 hx1 (by omega) (by omega) (by omega) (by omega) (fun H3 lsB hL3 hH3 hH3o => ?_)
  have k1 := kv xx hv hx0 hx1 H3 locs2 lsB (eRep_kp (μ := (μ1.1, μ1.2.1 + 40, μ1.2.2)) r1 (by show μ1.1 ≤ 576; omega) (fun q h1 h2 => hH3o q (by have := h2.2; omega))) ⟨Nat.le_trans r2.1 hH3, fun q h1 h2 => (hH3o q (by omega)).trans (r2.2.1 q h1 h2), r2.2.2⟩ hL3
  rw [tx_m.2.2.2.1] at k1
  exact W_more (by omega) (by omega) k1
end
