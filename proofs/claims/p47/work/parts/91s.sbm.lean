/-! the builder's methods -/
def zS (A : Nat → Prop) (a0 b0 : Nat) (t0 : List Int) : State → Heap → Prop := fun s H => va_O "java/lang/String" a0 A s H ∧ va_OF "java/lang/String" "coder" "B" (.int 0) a0 A s H ∧ va_OF "java/lang/String" "value" "[B" (.ref b0) a0 A s H ∧ va_T .byte b0 t0.length (fun i => .int (Int32.ofInt (t0.getD i 0))) A s H
theorem zS_mv {A : Nat → Prop} {a0 b0 : Nat} {t0 : List Int} : bMv A (zS A a0 b0 t0) := fun s U H H1 hA hk h =>
  ⟨(va_O.moved hA h.1).kept hk, (va_OF.moved hA h.2.1).kept hk, (va_OF.moved hA h.2.2.1).kept hk, (va_T.moved hA h.2.2.2).kept hk⟩
theorem zS_rc {A : Nat → Prop} {a0 b0 : Nat} {t0 : List Int} {s : State} {H : Heap} {locs : List Loc} (hZ : zS A a0 b0 t0 s s.heap) (hS : va_S A s.heap H locs) : ∃ cellB : Cell, H[a0]? = some cellB ∧ cellB.vm.isStatics = false ∧ s.vm.findClass "java/lang/String" = some cellB.cls := by
  obtain ⟨cell, h1, h2, h3, -⟩ := hZ.1.kept hS.2.1
  exact ⟨cell, h1, h2, h3⟩
abbrev bW (cB : ClassId) (b d : Nat) (ml n : Int32) (cap : Nat) (f : Nat → Int32) : va_W := [(b, .inr (0, [.ref d, .int 0, .int ml, .int n])), (d, .inl (cB, cap, .inl f))]
def bFit (f : Nat → Int32) : Prop := ∀ j, fits .byte (.int (f j)) = true
theorem bEq {D2 : va_G} {cB cA : ClassId} {s : State} (h : va_K D2 bCl ([(cB, .byte)] ++ [(cA, .byte)]) s) : cA = cB := by
  have h1 : s.vm.findClass _ = some cB := (h.2 0 _ rfl).2
  have h2 : s.vm.findClass _ = some cA := (h.2 1 _ rfl).2
  exact Option.some.inj (h2.symm.trans h1)
theorem bfit_t {t : List Int} (h : ∀ y ∈ t, 0 ≤ y ∧ y < 128) (j : Nat) : fits .byte (.int (Int32.ofInt (t.getD j 0))) = true := by
  have hk : ∀ k : Nat, k < 128 → fits .byte (.int (Int32.ofInt (k : Int))) = true := by decide +kernel
  have h1 : 0 ≤ t.getD j 0 ∧ t.getD j 0 < 128 := by
    rw [List.getD_eq_getElem?_getD]
    cases hq : t[j]? with
    | none => exact ⟨Int.le_refl _, by decide⟩
    | some y => exact h y (List.mem_of_getElem? hq)
  obtain ⟨k, hk2⟩ : ∃ k : Nat, t.getD j 0 = (k : Int) := ⟨(t.getD j 0).toNat, by omega⟩
  rw [hk2]
  exact hk k (by omega)
theorem bq_16 : ∀ q : Nat, q < 22 → Int32.ofNat q - 16 ≤ 0 → q ≤ 16 := by decide +kernel
theorem bq_34 : ∀ q : Nat, q < 22 → Int32.ofNat q - 34 ≤ 0 := by decide +kernel
theorem bq_g : ∀ q : Nat, q < 22 → 16 < q → Int32.ofNat q - 16 < 18 := by decide +kernel
theorem bq_n : ∀ q : Nat, q < 22 → ¬ (Int32.ofNat q - 16 ≤ 0) → 16 < q := by decide +kernel
theorem bfit_cpy {f g : Nat → Int32} {sp dp n : Nat} (hf : bFit f) (hg : bFit g) : bFit (va_cpy f g sp dp n) := by
  intro j
  unfold va_cpy
  split
  · exact hf _
  · exact hg _
theorem bfit_v {cB : ClassId} {n : Nat} {f : Nat → Int32} (hf : bFit f) : ∀ (i : Nat) (v : Value), (vp_cell cB (n, .inl f)).slots[i]? = some v → fits .byte v = true := by
  intro i v hv
  have hv2 : (arrV cB n (fun j => .int (f j))).slots[i]? = some v := hv
  by_cases hi : i < n
  · rw [arrV_read _ _ hi] at hv2
    cases hv2
    exact hf i
  · rw [Array.getElem?_eq_none (by rw [arrV_size]; omega)] at hv2
    cases hv2
theorem bmin {n cap : Nat} (h : n ≤ cap) (hc : cap < 2 ^ 31) : (if nI n < nI cap then nI n else nI cap) = nI n := by
  by_cases h1 : n < cap
  · rw [if_pos (nI_lt h1 hc)]
  · obtain rfl : n = cap := by omega
    rw [if_neg (nI_nlt (Nat.le_refl _) hc)]
theorem bfs1 : ∀ j, j < 4 → defaultValue (bY1 j) = vp_V [.null, .int 0, .int 0, .int 0] j := by decide +kernel
theorem bfit_c {f : Nat → Int32} (hf : bFit f) : bFit (va_cpy f (fun _ => 0) 0 0 16) := by
  intro j
  by_cases h : j < 16
  · rw [sb_cpy0 h]; exact hf j
  · rw [pk_cpy_out (by omega)]; rfl
section
variable {A : Nat → Prop} {D2 : va_G} {cB : ClassId} {l : Launch}
set_option maxHeartbeats 1000000 in
theorem bB_coder {a0 b0 : Nat} {t0 : List Int} {ws : va_W} : bBd A D2 cB l ⟨"java/lang/String", "coder", "()B"⟩ prog_32_method_152_code 1 (some .byte) 0 0 0 (zS A a0 b0 t0) ws [.ref a0] (fun v9 H9 H1 => v9 = some (.int 0) ∧ H1 = H9) := by
  rintro p e R s mI args below meth c lsA ⟨hx, hb, hr, hml, hown, hlk, hnm, hI, hZ, hP, hD⟩ hRf hRl hRc hRs hl
  obtain ⟨hN, hK, hCS, hA⟩ := hI
  have hts := fun w hw => hN w hw args
  have hS : va_S A s.heap s.heap [] := ⟨Nat.le_refl _, fun _ _ _ => rfl, fun _ h => absurd h List.not_mem_nil⟩
  have X : bCt A D2 cB p s mI args c "java/lang/String" prog_32_method_152_code 1 := ⟨hx, hb, hml, hown, hts, hK, hCS, hA⟩
  have hl : lv_has lsA 1 [(0, .ref a0)] := hl
  have hZm : bMv A (zS A a0 b0 t0) := zS_mv
  refine va_gets hx hb hCS hS hown (hts (.fieldLink "java/lang/String" 38 "java/lang/String" "COMPACT_STRINGS" "Z") (jw (j := 1056) rfl rfl)) (fun _ h => h) (by decide +kernel : decode prog_32_method_152_code 0 = .ok (.getstatic 38, 3)) ?_
  refine lv_if_eq hx hb (by decide +kernel : decode prog_32_method_152_code 3 = .ok (.ifCond .eq 10, 3)) (tgt := 13) rfl (fun h => absurd h (by decide)) (fun _ => ?_)
  refine lv_aload_n hx hb (by decide +kernel : decode prog_32_method_152_code 6 = .ok (.aload_n 0, 1)) rfl (lv_at hl 0 rfl) ?_
  refine vk_getf hx hb hZ.2.1 hS hown (hts (.fieldLink "java/lang/String" 15 "java/lang/String" "coder" "B") (jw (j := 1526) rfl rfl)) (fun _ h => h) (by decide +kernel : decode prog_32_method_152_code 7 = .ok (.getfield 15, 3)) ?_
  refine lv_goto hx hb (by decide +kernel : decode prog_32_method_152_code 10 = .ok (.goto 4, 3)) (tgt := 14) rfl ?_
  exact vx_ret (W.widen (by omega) (by omega) (W.zret (ty := .byte) hx hb hr rfl (fun t ht hW => ⟨⟨_, rfl, ⟨rfl, ht⟩⟩, hS.F ht⟩) hS.2.2 (by decide +kernel : decode prog_32_method_152_code 14 = .ok (.ireturn, 1)) hlk))
set_option maxHeartbeats 1000000 in
theorem bB_slen {a0 b0 : Nat} {t0 : List Int} {ws : va_W} : bBd A D2 cB l ⟨"java/lang/String", "length", "()I"⟩ prog_32_method_54_code 1 (some .int) 1 0 0 (zS A a0 b0 t0) ws [.ref a0] (fun v9 H9 H1 => v9 = some (.int (nI t0.length)) ∧ H1 = H9) := by
  rintro p e R s mI args below meth c lsA ⟨hx, hb, hr, hml, hown, hlk, hnm, hI, hZ, hP, hD⟩ hRf hRl hRc hRs hl
  obtain ⟨hN, hK, hCS, hA⟩ := hI
  have hts := fun w hw => hN w hw args
  have hS : va_S A s.heap s.heap [] := ⟨Nat.le_refl _, fun _ _ _ => rfl, fun _ h => absurd h List.not_mem_nil⟩
  have X : bCt A D2 cB p s mI args c "java/lang/String" prog_32_method_54_code 1 := ⟨hx, hb, hml, hown, hts, hK, hCS, hA⟩
  have hl : lv_has lsA 1 [(0, .ref a0)] := hl
  have hZm : bMv A (zS A a0 b0 t0) := zS_mv
  refine lv_aload_n hx hb (by decide +kernel : decode prog_32_method_54_code 0 = .ok (.aload_n 0, 1)) rfl (lv_at hl 0 rfl) ?_
  refine vk_getf hx hb hZ.2.2.1 hS hown (hts (.fieldLink "java/lang/String" 9 "java/lang/String" "value" "[B") (jw (j := 1525) rfl rfl)) (fun _ h => h) (by decide +kernel : decode prog_32_method_54_code 1 = .ok (.getfield 9, 3)) ?_
  refine va_tlen hx hb hZ.2.2.2 hS (v := nI t0.length) rfl (by decide +kernel : decode prog_32_method_54_code 4 = .ok (.arraylength, 1)) ?_
  refine lv_aload_n hx hb (by decide +kernel : decode prog_32_method_54_code 5 = .ok (.aload_n 0, 1)) rfl (lv_at hl 0 rfl) ?_
  refine bcallV (C := "java/lang/String") (vs := []) (rest := [.int (nI t0.length)]) (n := 0) X hZm hS (hZm _ _ _ _ (al_refl s) hS.2.1 hZ) hP hD (zS_rc hZ hS) (bMt_of (by decide) (Nat.le_of_ble_eq_true rfl) (bB_coder )) (jw (j := 1055) rfl rfl : Cond.code ⟨"java/lang/String", "coder", "()B"⟩ prog_32_method_152_code 1 (some .byte) ∈ ewL4) (jw (j := 1052) rfl rfl : Cond.methodLink "java/lang/String" 335 ⟨"java/lang/String", "coder", "()B"⟩ ∈ ewL4) (jw (j := 1053) rfl rfl : Cond.instanceMethod ⟨"java/lang/String", "coder", "()B"⟩ ∈ ewL4) (jw (j := 1054) rfl rfl : Cond.selects "java/lang/String" ⟨"java/lang/String", "coder", "()B"⟩ ⟨"java/lang/String", "coder", "()B"⟩ ∈ ewL4) (jw (j := 23) rfl rfl : Cond.initialized "java/lang/String" ∈ ewL4) ⟨⟨by decide, by decide⟩, by decide +kernel⟩ rfl ⟨by omega, by omega⟩ ⟨by omega, by omega⟩ hl.1 (by simp [Value.category]) rfl (by decide +kernel : decode prog_32_method_54_code 6 = .ok (.invokevirtual 335, 3)) (fun v9 H1 locs1 hpost hS9 hz hk => ?_)
  obtain ⟨rfl, rfl⟩ := hpost
  have hS := hS9
  clear hS9
  refine lv_ishr hx hb (by decide +kernel : decode prog_32_method_54_code 9 = .ok (.ishr, 1)) ?_
  rw [sb_shr0]
  exact vx_ret (W.widen (by omega) (by omega) (W.zret (ty := .int) hx hb hr rfl (fun t ht hW => ⟨⟨_, rfl, ⟨rfl, ht⟩⟩, hS.F ht⟩) hS.2.2 (by decide +kernel : decode prog_32_method_54_code 10 = .ok (.ireturn, 1)) hlk))
set_option maxHeartbeats 1000000 in
theorem bB_canEnc {Z : State → Heap → Prop} (hZm : bMv A Z) {x : Int32} {ws : va_W} (hx9 : ¬ 255 < x) : bBd A D2 cB l ⟨"java/lang/StringLatin1", "canEncode", "(C)Z"⟩ prog_34_method_3_code 1 (some .boolean) 0 0 0 Z ws [.int x] (fun v9 H9 H1 => v9 = some (.int 1) ∧ H1 = H9) := by
  rintro p e R s mI args below meth c lsA ⟨hx, hb, hr, hml, hown, hlk, hnm, hI, hZ, hP, hD⟩ hRf hRl hRc hRs hl
  obtain ⟨hN, hK, hCS, hA⟩ := hI
  have hts := fun w hw => hN w hw args
  have hS : va_S A s.heap s.heap [] := ⟨Nat.le_refl _, fun _ _ _ => rfl, fun _ h => absurd h List.not_mem_nil⟩
  have X : bCt A D2 cB p s mI args c "java/lang/StringLatin1" prog_34_method_3_code 1 := ⟨hx, hb, hml, hown, hts, hK, hCS, hA⟩
  have hl : lv_has lsA 1 [(0, .int x)] := hl
  refine lv_iload_n hx hb (by decide +kernel : decode prog_34_method_3_code 0 = .ok (.iload_n 0, 1)) rfl (lv_at hl 0 rfl) ?_
  refine lv_sipush hx hb (by decide +kernel : decode prog_34_method_3_code 1 = .ok (.sipush 255, 3)) (v := 255) rfl ?_
  refine lv_icmp_gt hx hb (by decide +kernel : decode prog_34_method_3_code 4 = .ok (.if_icmp .gt 7, 3)) (tgt := 11) rfl (fun h => absurd h hx9) (fun _ => ?_)
  refine lv_iconst hx hb (by decide +kernel : decode prog_34_method_3_code 7 = .ok (.iconst 1, 1)) (v := 1) rfl ?_
  refine lv_goto hx hb (by decide +kernel : decode prog_34_method_3_code 8 = .ok (.goto 4, 3)) (tgt := 12) rfl ?_
  exact vx_ret (W.widen (by omega) (by omega) (W.zret (ty := .boolean) hx hb hr rfl (fun t ht hW => ⟨⟨_, rfl, ⟨rfl, ht⟩⟩, hS.F ht⟩) hS.2.2 (by decide +kernel : decode prog_34_method_3_code 12 = .ok (.ireturn, 1)) hlk))
set_option maxHeartbeats 1000000 in
theorem bB_lat1 {Z : State → Heap → Prop} (hZm : bMv A Z) {b d : Nat} {ml n : Int32} {ws : va_W} (he : ws[0]? = some (b, .inr (0, [.ref d, .int 0, .int ml, .int n]))) : bBd A D2 cB l ⟨"java/lang/AbstractStringBuilder", "isLatin1", "()Z"⟩ prog_17_method_68_code 1 (some .boolean) 0 0 0 Z ws [.ref b] (fun v9 H9 H1 => v9 = some (.int 1) ∧ H1 = H9) := by
  rintro p e R s mI args below meth c lsA ⟨hx, hb, hr, hml, hown, hlk, hnm, hI, hZ, hP, hD⟩ hRf hRl hRc hRs hl
  obtain ⟨hN, hK, hCS, hA⟩ := hI
  have hts := fun w hw => hN w hw args
  have hS : va_S A s.heap s.heap [] := ⟨Nat.le_refl _, fun _ _ _ => rfl, fun _ h => absurd h List.not_mem_nil⟩
  have X : bCt A D2 cB p s mI args c "java/lang/AbstractStringBuilder" prog_17_method_68_code 1 := ⟨hx, hb, hml, hown, hts, hK, hCS, hA⟩
  have hl : lv_has lsA 1 [(0, .ref b)] := hl
  refine va_gets hx hb hCS hS hown (hts (.fieldLink "java/lang/AbstractStringBuilder" 18 "java/lang/String" "COMPACT_STRINGS" "Z") (jw (j := 1307) rfl rfl)) (fun _ h => h) (by decide +kernel : decode prog_17_method_68_code 0 = .ok (.getstatic 18, 3)) ?_
  refine lv_if_eq hx hb (by decide +kernel : decode prog_17_method_68_code 3 = .ok (.ifCond .eq 14, 3)) (tgt := 17) rfl (fun h => absurd h (by decide)) (fun _ => ?_)
  refine lv_aload_n hx hb (by decide +kernel : decode prog_17_method_68_code 6 = .ok (.aload_n 0, 1)) rfl (lv_at hl 0 rfl) ?_
  refine va_get (Ts := ewL4) (C := "java/lang/StringBuilder") (T := bT0) (N := 4) (ci := 0) hx hb hts bin0 hown hK hP 0 he rfl 1 (by decide) (hts (.fieldLink "java/lang/AbstractStringBuilder" 22 "java/lang/AbstractStringBuilder" "coder" "B") (jw (j := 1316) rfl rfl)) (fun _ h => h) rfl (by decide +kernel : decode prog_17_method_68_code 7 = .ok (.getfield 22, 3)) ?_
  refine lv_if_ne hx hb (by decide +kernel : decode prog_17_method_68_code 10 = .ok (.ifCond .ne 7, 3)) (tgt := 17) rfl (fun h => absurd rfl h) (fun _ => ?_)
  refine lv_iconst hx hb (by decide +kernel : decode prog_17_method_68_code 13 = .ok (.iconst 1, 1)) (v := 1) rfl ?_
  refine lv_goto hx hb (by decide +kernel : decode prog_17_method_68_code 14 = .ok (.goto 4, 3)) (tgt := 18) rfl ?_
  exact vx_ret (W.widen (by omega) (by omega) (W.zret (ty := .boolean) hx hb hr rfl (fun t ht hW => ⟨⟨_, rfl, ⟨rfl, ht⟩⟩, hS.F ht⟩) hS.2.2 (by decide +kernel : decode prog_17_method_68_code 18 = .ok (.ireturn, 1)) hlk))
set_option maxHeartbeats 1000000 in
theorem bB_getV {Z : State → Heap → Prop} (hZm : bMv A Z) {b d : Nat} {ml n : Int32} {ws : va_W} (he : ws[0]? = some (b, .inr (0, [.ref d, .int 0, .int ml, .int n]))) : bBd A D2 cB l ⟨"java/lang/AbstractStringBuilder", "getValue", "()[B"⟩ prog_17_method_64_code 1 (some (.array .byte)) 0 0 0 Z ws [.ref b] (fun v9 H9 H1 => v9 = some (.ref d) ∧ H1 = H9) := by
  rintro p e R s mI args below meth c lsA ⟨hx, hb, hr, hml, hown, hlk, hnm, hI, hZ, hP, hD⟩ hRf hRl hRc hRs hl
  obtain ⟨hN, hK, hCS, hA⟩ := hI
  have hts := fun w hw => hN w hw args
  have hS : va_S A s.heap s.heap [] := ⟨Nat.le_refl _, fun _ _ _ => rfl, fun _ h => absurd h List.not_mem_nil⟩
  have X : bCt A D2 cB p s mI args c "java/lang/AbstractStringBuilder" prog_17_method_64_code 1 := ⟨hx, hb, hml, hown, hts, hK, hCS, hA⟩
  have hl : lv_has lsA 1 [(0, .ref b)] := hl
  refine lv_aload_n hx hb (by decide +kernel : decode prog_17_method_64_code 0 = .ok (.aload_n 0, 1)) rfl (lv_at hl 0 rfl) ?_
  refine va_get (Ts := ewL4) (C := "java/lang/StringBuilder") (T := bT0) (N := 4) (ci := 0) hx hb hts bin0 hown hK hP 0 he rfl 0 (by decide) (hts (.fieldLink "java/lang/AbstractStringBuilder" 15 "java/lang/AbstractStringBuilder" "value" "[B") (jw (j := 1315) rfl rfl)) (fun _ h => h) rfl (by decide +kernel : decode prog_17_method_64_code 1 = .ok (.getfield 15, 3)) ?_
  exact vx_ret (W.widen (by omega) (by omega) (W.aret hx hb hr (Or.inr ⟨_, rfl⟩) (Or.inr ⟨_, rfl⟩) (fun t ht hW => ⟨⟨_, rfl, ⟨rfl, ht⟩⟩, hS.F ht⟩) hS.2.2 (by decide +kernel : decode prog_17_method_64_code 4 = .ok (.areturn, 1)) hlk))
set_option maxHeartbeats 1000000 in
theorem bB_alen {Z : State → Heap → Prop} (hZm : bMv A Z) {b d : Nat} {ml n : Int32} {ws : va_W} (he : ws[0]? = some (b, .inr (0, [.ref d, .int 0, .int ml, .int n]))) : bBd A D2 cB l ⟨"java/lang/AbstractStringBuilder", "length", "()I"⟩ prog_17_method_6_code 1 (some .int) 0 0 0 Z ws [.ref b] (fun v9 H9 H1 => v9 = some (.int n) ∧ H1 = H9) := by
  rintro p e R s mI args below meth c lsA ⟨hx, hb, hr, hml, hown, hlk, hnm, hI, hZ, hP, hD⟩ hRf hRl hRc hRs hl
  obtain ⟨hN, hK, hCS, hA⟩ := hI
  have hts := fun w hw => hN w hw args
  have hS : va_S A s.heap s.heap [] := ⟨Nat.le_refl _, fun _ _ _ => rfl, fun _ h => absurd h List.not_mem_nil⟩
  have X : bCt A D2 cB p s mI args c "java/lang/AbstractStringBuilder" prog_17_method_6_code 1 := ⟨hx, hb, hml, hown, hts, hK, hCS, hA⟩
  have hl : lv_has lsA 1 [(0, .ref b)] := hl
  refine lv_aload_n hx hb (by decide +kernel : decode prog_17_method_6_code 0 = .ok (.aload_n 0, 1)) rfl (lv_at hl 0 rfl) ?_
  refine va_get (Ts := ewL4) (C := "java/lang/StringBuilder") (T := bT0) (N := 4) (ci := 0) hx hb hts bin0 hown hK hP 0 he rfl 3 (by decide) (hts (.fieldLink "java/lang/AbstractStringBuilder" 79 "java/lang/AbstractStringBuilder" "count" "I") (jw (j := 1318) rfl rfl)) (fun _ h => h) rfl (by decide +kernel : decode prog_17_method_6_code 1 = .ok (.getfield 79, 3)) ?_
  exact vx_ret (W.widen (by omega) (by omega) (W.zret (ty := .int) hx hb hr rfl (fun t ht hW => ⟨⟨_, rfl, ⟨rfl, ht⟩⟩, hS.F ht⟩) hS.2.2 (by decide +kernel : decode prog_17_method_6_code 4 = .ok (.ireturn, 1)) hlk))
set_option maxHeartbeats 1000000 in
theorem bB_asbInit {Z : State → Heap → Prop} (hZm : bMv A Z) {b : Nat} : bBd A D2 cB l ⟨"java/lang/AbstractStringBuilder", "<init>", "(I)V"⟩ prog_17_method_2_code 2 none 1 1 16 Z [(b, .inr (0, [.null, .int 0, .int 0, .int 0]))] [.ref b, .int 16] (fun v9 H9 H1 => v9 = none ∧ ∃ d : Nat, va_P D2 bCl (bW cB b d 0 0 16 (fun _ => 0)) H1 ∧ va_D A (bW cB b d 0 0 16 (fun _ => 0))) := by
  rintro p e R s mI args below meth c lsA ⟨hx, hb, hr, hml, hown, hlk, hnm, hI, hZ, hP, hD⟩ hRf hRl hRc hRs hl
  obtain ⟨hN, hK, hCS, hA⟩ := hI
  have hts := fun w hw => hN w hw args
  have hS : va_S A s.heap s.heap [] := ⟨Nat.le_refl _, fun _ _ _ => rfl, fun _ h => absurd h List.not_mem_nil⟩
  have X : bCt A D2 cB p s mI args c "java/lang/AbstractStringBuilder" prog_17_method_2_code 2 := ⟨hx, hb, hml, hown, hts, hK, hCS, hA⟩
  have hl : lv_has lsA 2 [(0, .ref b), (1, .int 16)] := hl
  refine lv_aload_n hx hb (by decide +kernel : decode prog_17_method_2_code 0 = .ok (.aload_n 0, 1)) rfl (lv_at hl 0 rfl) ?_
  refine W.objInit hx hb hown (hts (.methodLink "java/lang/AbstractStringBuilder" 3 objectInit) (jw (j := 1306) rfl rfl)) (hts (.instanceMethod objectInit) (jw (j := 42) rfl rfl)) (hts (.code objectInit ⟨#[0xb1]⟩ 1 none) (jw (j := 43) rfl rfl)) rfl (by rw [hml]; exact hl.1) rfl (by decide +kernel : decode prog_17_method_2_code 1 = .ok (.invokespecial 3, 3)) (by omega) (Nat.le_trans (m := 12) (Nat.le_of_ble_eq_true rfl) (by omega)) ?_
  refine W.eq (g2 := F0 mI 4 lsA []) rfl ?_
  refine va_gets hx hb hCS hS hown (hts (.fieldLink "java/lang/AbstractStringBuilder" 18 "java/lang/String" "COMPACT_STRINGS" "Z") (jw (j := 1307) rfl rfl)) (fun _ h => h) (by decide +kernel : decode prog_17_method_2_code 4 = .ok (.getstatic 18, 3)) ?_
  refine lv_if_eq hx hb (by decide +kernel : decode prog_17_method_2_code 7 = .ok (.ifCond .eq 18, 3)) (tgt := 25) rfl (fun h => absurd h (by decide)) (fun _ => ?_)
  refine lv_aload_n hx hb (by decide +kernel : decode prog_17_method_2_code 10 = .ok (.aload_n 0, 1)) rfl (lv_at hl 0 rfl) ?_
  refine lv_iload_n hx hb (by decide +kernel : decode prog_17_method_2_code 11 = .ok (.iload_n 1, 1)) rfl (lv_at hl 1 rfl) ?_
  refine va_newa (atype := .byte) hx hb (hts (.arrayClass .byte) (jw (j := 862) rfl rfl)) (ty := .byte) rfl hK hP hD hS hA (N' := 16) (a0 := (16, .inl (fun _ => 0))) (fun _ => rfl) (by decide) (by decide) (by decide) (by omega) (by omega) (by decide +kernel : decode prog_17_method_2_code 12 = .ok (.newarray .byte, 2)) (fun q cA H1 hK9 hP hD hS => ?_)
  have e9 := (bEq hK9).symm
  clear hK9
  subst e9
  have hP : va_P D2 bCl [(b, .inr (0, [.null, .int 0, .int 0, .int 0])), (q, .inl (cB, 16, .inl (fun _ => 0)))] _ := hP
  have hD : va_D A [(b, .inr (0, [.null, .int 0, .int 0, .int 0])), (q, .inl (cB, 16, .inl (fun _ => 0)))] := hD
  refine va_put (Ts := ewL4) (C := "java/lang/StringBuilder") (T := bT0) (N := 4) (ci := 0) (v := .ref q) (ty := bY0 0) hx hb hts bin0 bY0 bY0_ok bN0_ok hown hK hP hD hS 0 rfl rfl 0 (by decide) (hts (.fieldLink "java/lang/AbstractStringBuilder" 15 "java/lang/AbstractStringBuilder" "value" "[B") (jw (j := 1315) rfl rfl)) (fun _ h => h) rfl (bY0_ok 0 (by decide)) rfl rfl (Nat.le_of_ble_eq_true rfl) (by decide +kernel : decode prog_17_method_2_code 14 = .ok (.putfield 15, 3)) (fun H1 locs1 hP hD hS => ?_)
  have hP : va_P D2 bCl [(b, .inr (0, [.ref q, .int 0, .int 0, .int 0])), (q, .inl (cB, 16, .inl (fun _ => 0)))] _ := hP
  have hD : va_D A [(b, .inr (0, [.ref q, .int 0, .int 0, .int 0])), (q, .inl (cB, 16, .inl (fun _ => 0)))] := hD
  refine lv_aload_n hx hb (by decide +kernel : decode prog_17_method_2_code 17 = .ok (.aload_n 0, 1)) rfl (lv_at hl 0 rfl) ?_
  refine lv_iconst hx hb (by decide +kernel : decode prog_17_method_2_code 18 = .ok (.iconst 0, 1)) (v := 0) rfl ?_
  refine va_put (Ts := ewL4) (C := "java/lang/StringBuilder") (T := bT0) (N := 4) (ci := 0) (v := .int 0) (ty := bY0 1) hx hb hts bin0 bY0 bY0_ok bN0_ok hown hK hP hD hS 0 rfl rfl 1 (by decide) (hts (.fieldLink "java/lang/AbstractStringBuilder" 22 "java/lang/AbstractStringBuilder" "coder" "B") (jw (j := 1316) rfl rfl)) (fun _ h => h) rfl (bY0_ok 1 (by decide)) rfl rfl (Nat.le_of_ble_eq_true rfl) (by decide +kernel : decode prog_17_method_2_code 19 = .ok (.putfield 22, 3)) (fun H1 locs1 hP hD hS => ?_)
  have hP : va_P D2 bCl [(b, .inr (0, [.ref q, .int 0, .int 0, .int 0])), (q, .inl (cB, 16, .inl (fun _ => 0)))] _ := hP
  have hD : va_D A [(b, .inr (0, [.ref q, .int 0, .int 0, .int 0])), (q, .inl (cB, 16, .inl (fun _ => 0)))] := hD
  refine lv_goto hx hb (by decide +kernel : decode prog_17_method_2_code 22 = .ok (.goto 16, 3)) (tgt := 38) rfl ?_
  exact vx_ret (W.widen (by omega) (by omega) (W.vret hx hb hr (fun t ht hW => ⟨⟨_, rfl, ⟨rfl, q, by rw [ht]; exact hP, hD⟩⟩, hS.F ht⟩) hS.2.2 (by decide +kernel : decode prog_17_method_2_code 38 = .ok (.return_, 1)) hlk))
set_option maxHeartbeats 1000000 in
theorem bB_sbInit {Z : State → Heap → Prop} (hZm : bMv A Z) {b : Nat} : bBd A D2 cB l ⟨"java/lang/StringBuilder", "<init>", "()V"⟩ prog_33_method_1_code 1 none 2 1 16 Z [(b, .inr (0, [.null, .int 0, .int 0, .int 0]))] [.ref b] (fun v9 H9 H1 => v9 = none ∧ ∃ d : Nat, va_P D2 bCl (bW cB b d 0 0 16 (fun _ => 0)) H1 ∧ va_D A (bW cB b d 0 0 16 (fun _ => 0))) := by
  rintro p e R s mI args below meth c lsA ⟨hx, hb, hr, hml, hown, hlk, hnm, hI, hZ, hP, hD⟩ hRf hRl hRc hRs hl
  obtain ⟨hN, hK, hCS, hA⟩ := hI
  have hts := fun w hw => hN w hw args
  have hS : va_S A s.heap s.heap [] := ⟨Nat.le_refl _, fun _ _ _ => rfl, fun _ h => absurd h List.not_mem_nil⟩
  have X : bCt A D2 cB p s mI args c "java/lang/StringBuilder" prog_33_method_1_code 1 := ⟨hx, hb, hml, hown, hts, hK, hCS, hA⟩
  have hl : lv_has lsA 1 [(0, .ref b)] := hl
  refine lv_aload_n hx hb (by decide +kernel : decode prog_33_method_1_code 0 = .ok (.aload_n 0, 1)) rfl (lv_at hl 0 rfl) ?_
  refine lv_bipush hx hb (by decide +kernel : decode prog_33_method_1_code 1 = .ok (.bipush 16, 2)) (v := 16) rfl ?_
  refine bcallI (vs := [.int 16]) (rest := []) (n := 1) X hZm hS (hZm _ _ _ _ (al_refl s) hS.2.1 hZ) hP hD (bMt_of (by decide) (Nat.le_of_ble_eq_true rfl) (bB_asbInit hZm)) (jw (j := 1305) rfl rfl : Cond.code ⟨"java/lang/AbstractStringBuilder", "<init>", "(I)V"⟩ prog_17_method_2_code 2 none ∈ ewL4) (jw (j := 1303) rfl rfl : Cond.methodLink "java/lang/StringBuilder" 1 ⟨"java/lang/AbstractStringBuilder", "<init>", "(I)V"⟩ ∈ ewL4) (jw (j := 1304) rfl rfl : Cond.instanceMethod ⟨"java/lang/AbstractStringBuilder", "<init>", "(I)V"⟩ ∈ ewL4) (jw (j := 29) rfl rfl : Cond.initialized "java/lang/AbstractStringBuilder" ∈ ewL4) rfl ⟨⟨by decide, by decide⟩, by decide +kernel⟩ rfl ⟨by omega, by omega⟩ ⟨by omega, by omega⟩ hl.1 (by simp [Value.category]) rfl (by decide +kernel : decode prog_33_method_1_code 3 = .ok (.invokespecial 1, 3)) (fun v9 H1 locs1 hpost hS9 hz hk => ?_)
  obtain ⟨rfl, d, hP, hD⟩ := hpost
  have hS := hS9
  clear hS9
  exact vx_ret (W.widen (by omega) (by omega) (W.vret hx hb hr (fun t ht hW => ⟨⟨_, rfl, ⟨rfl, d, by rw [ht]; exact hP, hD⟩⟩, hS.F ht⟩) hS.2.2 (by decide +kernel : decode prog_33_method_1_code 6 = .ok (.return_, 1)) hlk))
set_option maxHeartbeats 1000000 in
theorem bB_newLen {Z : State → Heap → Prop} (hZm : bMv A Z) {g : Int32} {ws : va_W} (hg : g < 18) : bBd A D2 cB l ⟨"jdk/internal/util/ArraysSupport", "newLength", "(III)I"⟩ prog_43_method_27_code 4 (some .int) 1 0 0 Z ws [.int 16, .int g, .int 18] (fun v9 H9 H1 => v9 = some (.int 34) ∧ H1 = H9) := by
  rintro p e R s mI args below meth c lsA ⟨hx, hb, hr, hml, hown, hlk, hnm, hI, hZ, hP, hD⟩ hRf hRl hRc hRs hl
  obtain ⟨hN, hK, hCS, hA⟩ := hI
  have hts := fun w hw => hN w hw args
  have hS : va_S A s.heap s.heap [] := ⟨Nat.le_refl _, fun _ _ _ => rfl, fun _ h => absurd h List.not_mem_nil⟩
  have X : bCt A D2 cB p s mI args c "jdk/internal/util/ArraysSupport" prog_43_method_27_code 4 := ⟨hx, hb, hml, hown, hts, hK, hCS, hA⟩
  have hl : lv_has lsA 4 [(0, .int 16), (1, .int g), (2, .int 18)] := hl
  refine lv_iload_n hx hb (by decide +kernel : decode prog_43_method_27_code 0 = .ok (.iload_n 0, 1)) rfl (lv_at hl 0 rfl) ?_
  refine lv_iload_n hx hb (by decide +kernel : decode prog_43_method_27_code 1 = .ok (.iload_n 1, 1)) rfl (lv_at hl 1 rfl) ?_
  refine lv_iload_n hx hb (by decide +kernel : decode prog_43_method_27_code 2 = .ok (.iload_n 2, 1)) rfl (lv_at hl 2 rfl) ?_
  refine va_mmax hx hb (hml.trans hl.1.symm) hown (hts (.methodLink "jdk/internal/util/ArraysSupport" 194 Lib.Math.max.name) (jw (j := 1350) rfl rfl)) (hts (.static Lib.Math.max.name) (jw (j := 647) rfl rfl)) (hts (.initialized "java/lang/Math") (jw (j := 15) rfl rfl)) (hts (.code Lib.Math.max.name Lib.Math.max.code 2 (some .int)) (jw (j := 648) rfl rfl)) (by omega) (Nat.le_trans (m := 64) (Nat.le_of_ble_eq_true rfl) (by omega)) (by omega) (by omega) (by decide +kernel : decode prog_43_method_27_code 3 = .ok (.invokestatic 194, 3)) ?_
  rw [if_pos hg]
  refine lv_iadd hx hb (by decide +kernel : decode prog_43_method_27_code 6 = .ok (.iadd, 1)) ?_
  rw [show (16 : Int32) + 18 = 34 by decide]
  refine lv_istore_n hx hb (by decide +kernel : decode prog_43_method_27_code 7 = .ok (.istore_n 3, 1)) rfl hl (by omega) rfl (fun lsA hl => ?_)
  have hl : lv_has lsA 4 [(3, .int 34), (0, .int 16), (1, .int g), (2, .int 18)] := hl
  refine lv_iconst hx hb (by decide +kernel : decode prog_43_method_27_code 8 = .ok (.iconst 0, 1)) (v := 0) rfl ?_
  refine lv_iload_n hx hb (by decide +kernel : decode prog_43_method_27_code 9 = .ok (.iload_n 3, 1)) rfl (lv_at hl 0 rfl) ?_
  refine lv_icmp_ge hx hb (by decide +kernel : decode prog_43_method_27_code 10 = .ok (.if_icmp .ge 11, 3)) (tgt := 21) rfl (fun h => absurd h (by decide)) (fun _ => ?_)
  refine lv_iload_n hx hb (by decide +kernel : decode prog_43_method_27_code 13 = .ok (.iload_n 3, 1)) rfl (lv_at hl 0 rfl) ?_
  refine lv_ldc hx hb hown (v := 2147483639) (hts (.constant "jdk/internal/util/ArraysSupport" 200 2147483639) (jw (j := 1351) rfl rfl)) (by decide +kernel : decode prog_43_method_27_code 14 = .ok (.ldc 200, 2)) ?_
  refine lv_icmp_gt hx hb (by decide +kernel : decode prog_43_method_27_code 16 = .ok (.if_icmp .gt 5, 3)) (tgt := 21) rfl (fun h => absurd h (by decide)) (fun _ => ?_)
  refine lv_iload_n hx hb (by decide +kernel : decode prog_43_method_27_code 19 = .ok (.iload_n 3, 1)) rfl (lv_at hl 0 rfl) ?_
  exact vx_ret (W.widen (by omega) (by omega) (W.zret (ty := .int) hx hb hr rfl (fun t ht hW => ⟨⟨_, rfl, ⟨rfl, ht⟩⟩, hS.F ht⟩) hS.2.2 (by decide +kernel : decode prog_43_method_27_code 20 = .ok (.ireturn, 1)) hlk))
set_option maxHeartbeats 1000000 in
theorem bB_newCap {Z : State → Heap → Prop} (hZm : bMv A Z) {b d q : Nat} {ml n : Int32} {f : Nat → Int32} (hq : q < 22) (hq2 : 16 < q) : bBd A D2 cB l ⟨"java/lang/AbstractStringBuilder", "newCapacity", "(I)I"⟩ prog_17_method_10_code 6 (some .int) 2 0 0 Z [(b, .inr (0, [.ref d, .int 0, .int ml, .int n])), (d, .inl (cB, 16, .inl f))] [.ref b, .int (Int32.ofNat q)] (fun v9 H9 H1 => v9 = some (.int 34) ∧ H1 = H9) := by
  rintro p e R s mI args below meth c lsA ⟨hx, hb, hr, hml, hown, hlk, hnm, hI, hZ, hP, hD⟩ hRf hRl hRc hRs hl
  obtain ⟨hN, hK, hCS, hA⟩ := hI
  have hts := fun w hw => hN w hw args
  have hS : va_S A s.heap s.heap [] := ⟨Nat.le_refl _, fun _ _ _ => rfl, fun _ h => absurd h List.not_mem_nil⟩
  have X : bCt A D2 cB p s mI args c "java/lang/AbstractStringBuilder" prog_17_method_10_code 6 := ⟨hx, hb, hml, hown, hts, hK, hCS, hA⟩
  have hl : lv_has lsA 6 [(0, .ref b), (1, .int (Int32.ofNat q))] := hl
  refine lv_aload_n hx hb (by decide +kernel : decode prog_17_method_10_code 0 = .ok (.aload_n 0, 1)) rfl (lv_at hl 0 rfl) ?_
  refine va_get (Ts := ewL4) (C := "java/lang/StringBuilder") (T := bT0) (N := 4) (ci := 0) hx hb hts bin0 hown hK hP 0 rfl rfl 0 (by decide) (hts (.fieldLink "java/lang/AbstractStringBuilder" 15 "java/lang/AbstractStringBuilder" "value" "[B") (jw (j := 1315) rfl rfl)) (fun _ h => h) rfl (by decide +kernel : decode prog_17_method_10_code 1 = .ok (.getfield 15, 3)) ?_
  refine va_alen hx hb hK hP 1 0 rfl rfl (v := 16) rfl (by decide +kernel : decode prog_17_method_10_code 4 = .ok (.arraylength, 1)) ?_
  refine lv_istore_n hx hb (by decide +kernel : decode prog_17_method_10_code 5 = .ok (.istore_n 2, 1)) rfl hl (by omega) rfl (fun lsA hl => ?_)
  have hl : lv_has lsA 6 [(2, .int 16), (0, .ref b), (1, .int (Int32.ofNat q))] := hl
  refine lv_iload_n hx hb (by decide +kernel : decode prog_17_method_10_code 6 = .ok (.iload_n 1, 1)) rfl (lv_at hl 2 rfl) ?_
  refine lv_aload_n hx hb (by decide +kernel : decode prog_17_method_10_code 7 = .ok (.aload_n 0, 1)) rfl (lv_at hl 1 rfl) ?_
  refine va_get (Ts := ewL4) (C := "java/lang/StringBuilder") (T := bT0) (N := 4) (ci := 0) hx hb hts bin0 hown hK hP 0 rfl rfl 1 (by decide) (hts (.fieldLink "java/lang/AbstractStringBuilder" 22 "java/lang/AbstractStringBuilder" "coder" "B") (jw (j := 1316) rfl rfl)) (fun _ h => h) rfl (by decide +kernel : decode prog_17_method_10_code 8 = .ok (.getfield 22, 3)) ?_
  refine lv_ishl hx hb (by decide +kernel : decode prog_17_method_10_code 11 = .ok (.ishl, 1)) ?_
  rw [sb_shl0]
  refine lv_istore_n hx hb (by decide +kernel : decode prog_17_method_10_code 12 = .ok (.istore_n 3, 1)) rfl hl (by omega) rfl (fun lsA hl => ?_)
  have hl : lv_has lsA 6 [(3, .int (Int32.ofNat q)), (2, .int 16), (0, .ref b), (1, .int (Int32.ofNat q))] := hl
  refine lv_iload_n hx hb (by decide +kernel : decode prog_17_method_10_code 13 = .ok (.iload_n 3, 1)) rfl (lv_at hl 0 rfl) ?_
  refine lv_iload_n hx hb (by decide +kernel : decode prog_17_method_10_code 14 = .ok (.iload_n 2, 1)) rfl (lv_at hl 1 rfl) ?_
  refine lv_isub hx hb (by decide +kernel : decode prog_17_method_10_code 15 = .ok (.isub, 1)) ?_
  refine lv_istore hx hb (by decide +kernel : decode prog_17_method_10_code 16 = .ok (.istore 4, 2)) hl (by omega) rfl (fun lsA hl => ?_)
  have hl : lv_has lsA 6 [(4, .int (Int32.ofNat q - 16)), (3, .int (Int32.ofNat q)), (2, .int 16), (0, .ref b), (1, .int (Int32.ofNat q))] := hl
  refine lv_iload_n hx hb (by decide +kernel : decode prog_17_method_10_code 18 = .ok (.iload_n 2, 1)) rfl (lv_at hl 2 rfl) ?_
  refine lv_iload hx hb (by decide +kernel : decode prog_17_method_10_code 19 = .ok (.iload 4, 2)) (lv_at hl 0 rfl) ?_
  refine lv_iload_n hx hb (by decide +kernel : decode prog_17_method_10_code 21 = .ok (.iload_n 2, 1)) rfl (lv_at hl 2 rfl) ?_
  refine lv_iconst hx hb (by decide +kernel : decode prog_17_method_10_code 22 = .ok (.iconst 2, 1)) (v := 2) rfl ?_
  refine lv_aload_n hx hb (by decide +kernel : decode prog_17_method_10_code 23 = .ok (.aload_n 0, 1)) rfl (lv_at hl 3 rfl) ?_
  refine va_get (Ts := ewL4) (C := "java/lang/StringBuilder") (T := bT0) (N := 4) (ci := 0) hx hb hts bin0 hown hK hP 0 rfl rfl 1 (by decide) (hts (.fieldLink "java/lang/AbstractStringBuilder" 22 "java/lang/AbstractStringBuilder" "coder" "B") (jw (j := 1316) rfl rfl)) (fun _ h => h) rfl (by decide +kernel : decode prog_17_method_10_code 24 = .ok (.getfield 22, 3)) ?_
  refine lv_ishl hx hb (by decide +kernel : decode prog_17_method_10_code 27 = .ok (.ishl, 1)) ?_
  rw [sb_shl0]
  refine lv_iadd hx hb (by decide +kernel : decode prog_17_method_10_code 28 = .ok (.iadd, 1)) ?_
  rw [show (16 : Int32) + 2 = 18 by decide]
  refine bcallS (vs := [.int 16, .int (Int32.ofNat q - 16), .int 18]) (rest := []) (n := 3) X hZm hS (hZm _ _ _ _ (al_refl s) hS.2.1 hZ) hP hD (bMt_of (by decide) (Nat.le_of_ble_eq_true rfl) (bB_newLen hZm (bq_g q hq hq2))) (jw (j := 1349) rfl rfl : Cond.code ⟨"jdk/internal/util/ArraysSupport", "newLength", "(III)I"⟩ prog_43_method_27_code 4 (some .int) ∈ ewL4) (jw (j := 1347) rfl rfl : Cond.methodLink "java/lang/AbstractStringBuilder" 114 ⟨"jdk/internal/util/ArraysSupport", "newLength", "(III)I"⟩ ∈ ewL4) (jw (j := 1348) rfl rfl : Cond.static ⟨"jdk/internal/util/ArraysSupport", "newLength", "(III)I"⟩ ∈ ewL4) (jw (j := 31) rfl rfl : Cond.initialized "jdk/internal/util/ArraysSupport" ∈ ewL4) ⟨⟨by decide, by decide⟩, by decide +kernel⟩ rfl ⟨by omega, by omega⟩ ⟨by omega, by omega⟩ hl.1 (by simp [Value.category]) rfl (by decide +kernel : decode prog_17_method_10_code 29 = .ok (.invokestatic 114, 3)) (fun v9 H1 locs1 hpost hS9 hz hk => ?_)
  obtain ⟨rfl, rfl⟩ := hpost
  have hS := hS9
  clear hS9
  refine lv_istore hx hb (by decide +kernel : decode prog_17_method_10_code 32 = .ok (.istore 5, 2)) hl (by omega) rfl (fun lsA hl => ?_)
  have hl : lv_has lsA 6 [(5, .int 34), (4, .int (Int32.ofNat q - 16)), (3, .int (Int32.ofNat q)), (2, .int 16), (0, .ref b), (1, .int (Int32.ofNat q))] := hl
  refine lv_iload hx hb (by decide +kernel : decode prog_17_method_10_code 34 = .ok (.iload 5, 2)) (lv_at hl 0 rfl) ?_
  refine lv_ldc hx hb hown (v := 2147483647) (hts (.constant "java/lang/AbstractStringBuilder" 39 2147483647) (jw (j := 1355) rfl rfl)) (by decide +kernel : decode prog_17_method_10_code 36 = .ok (.ldc 39, 2)) ?_
  refine lv_icmp_ne hx hb (by decide +kernel : decode prog_17_method_10_code 38 = .ok (.if_icmp .ne 13, 3)) (tgt := 51) rfl (fun _ => ?_) (fun h => absurd h (by decide))
  refine lv_iload hx hb (by decide +kernel : decode prog_17_method_10_code 51 = .ok (.iload 5, 2)) (lv_at hl 0 rfl) ?_
  refine lv_aload_n hx hb (by decide +kernel : decode prog_17_method_10_code 53 = .ok (.aload_n 0, 1)) rfl (lv_at hl 4 rfl) ?_
  refine va_get (Ts := ewL4) (C := "java/lang/StringBuilder") (T := bT0) (N := 4) (ci := 0) hx hb hts bin0 hown hK hP 0 rfl rfl 1 (by decide) (hts (.fieldLink "java/lang/AbstractStringBuilder" 22 "java/lang/AbstractStringBuilder" "coder" "B") (jw (j := 1316) rfl rfl)) (fun _ h => h) rfl (by decide +kernel : decode prog_17_method_10_code 54 = .ok (.getfield 22, 3)) ?_
  refine lv_ishr hx hb (by decide +kernel : decode prog_17_method_10_code 57 = .ok (.ishr, 1)) ?_
  rw [sb_shr0]
  exact vx_ret (W.widen (by omega) (by omega) (W.zret (ty := .int) hx hb hr rfl (fun t ht hW => ⟨⟨_, rfl, ⟨rfl, ht⟩⟩, hS.F ht⟩) hS.2.2 (by decide +kernel : decode prog_17_method_10_code 58 = .ok (.ireturn, 1)) hlk))
set_option maxHeartbeats 1000000 in
theorem bB_copyOf {Z : State → Heap → Prop} (hZm : bMv A Z) {b d : Nat} {ml n : Int32} {f : Nat → Int32} (hf : bFit f) : bBd A D2 cB l ⟨"java/util/Arrays", "copyOf", "([BI)[B"⟩ prog_41_method_121_code 3 (some (.array .byte)) 1 1 34 Z [(b, .inr (0, [.ref d, .int 0, .int ml, .int n])), (d, .inl (cB, 16, .inl f))] [.ref d, .int 34] (fun v9 H9 H1 => ∃ q : Nat, v9 = some (.ref q) ∧ va_P D2 bCl [(b, .inr (0, [.ref d, .int 0, .int ml, .int n])), (d, .inl (cB, 16, .inl f)), (q, .inl (cB, 34, .inl (va_cpy f (fun _ => 0) 0 0 16)))] H1 ∧ va_D A [(b, .inr (0, [.ref d, .int 0, .int ml, .int n])), (d, .inl (cB, 16, .inl f)), (q, .inl (cB, 34, .inl (va_cpy f (fun _ => 0) 0 0 16)))]) := by
  rintro p e R s mI args below meth c lsA ⟨hx, hb, hr, hml, hown, hlk, hnm, hI, hZ, hP, hD⟩ hRf hRl hRc hRs hl
  obtain ⟨hN, hK, hCS, hA⟩ := hI
  have hts := fun w hw => hN w hw args
  have hS : va_S A s.heap s.heap [] := ⟨Nat.le_refl _, fun _ _ _ => rfl, fun _ h => absurd h List.not_mem_nil⟩
  have X : bCt A D2 cB p s mI args c "java/util/Arrays" prog_41_method_121_code 3 := ⟨hx, hb, hml, hown, hts, hK, hCS, hA⟩
  have hl : lv_has lsA 3 [(0, .ref d), (1, .int 34)] := hl
  refine lv_iload_n hx hb (by decide +kernel : decode prog_41_method_121_code 0 = .ok (.iload_n 1, 1)) rfl (lv_at hl 1 rfl) ?_
  refine lv_aload_n hx hb (by decide +kernel : decode prog_41_method_121_code 1 = .ok (.aload_n 0, 1)) rfl (lv_at hl 0 rfl) ?_
  refine va_alen hx hb hK hP 1 0 rfl rfl (v := 16) rfl (by decide +kernel : decode prog_41_method_121_code 2 = .ok (.arraylength, 1)) ?_
  refine lv_icmp_ne hx hb (by decide +kernel : decode prog_41_method_121_code 3 = .ok (.if_icmp .ne 11, 3)) (tgt := 14) rfl (fun _ => ?_) (fun h => absurd h (by decide))
  refine lv_iload_n hx hb (by decide +kernel : decode prog_41_method_121_code 14 = .ok (.iload_n 1, 1)) rfl (lv_at hl 1 rfl) ?_
  refine va_newa (atype := .byte) hx hb (hts (.arrayClass .byte) (jw (j := 862) rfl rfl)) (ty := .byte) rfl hK hP hD hS hA (N' := 34) (a0 := (34, .inl (fun _ => 0))) (fun _ => rfl) (by decide) (by decide) (by decide) (by omega) (by omega) (by decide +kernel : decode prog_41_method_121_code 15 = .ok (.newarray .byte, 2)) (fun q cA H1 hK9 hP hD hS => ?_)
  have e9 := (bEq hK9).symm
  clear hK9
  subst e9
  have hP : va_P D2 bCl [(b, .inr (0, [.ref d, .int 0, .int ml, .int n])), (d, .inl (cB, 16, .inl f)), (q, .inl (cB, 34, .inl (fun _ => 0)))] _ := hP
  have hD : va_D A [(b, .inr (0, [.ref d, .int 0, .int ml, .int n])), (d, .inl (cB, 16, .inl f)), (q, .inl (cB, 34, .inl (fun _ => 0)))] := hD
  refine lv_astore_n hx hb (by decide +kernel : decode prog_41_method_121_code 17 = .ok (.astore_n 2, 1)) rfl hl (by omega) rfl (fun lsA hl => ?_)
  have hl : lv_has lsA 3 [(2, .ref q), (0, .ref d), (1, .int 34)] := hl
  refine lv_aload_n hx hb (by decide +kernel : decode prog_41_method_121_code 18 = .ok (.aload_n 0, 1)) rfl (lv_at hl 1 rfl) ?_
  refine lv_iconst hx hb (by decide +kernel : decode prog_41_method_121_code 19 = .ok (.iconst 0, 1)) (v := 0) rfl ?_
  refine lv_aload_n hx hb (by decide +kernel : decode prog_41_method_121_code 20 = .ok (.aload_n 2, 1)) rfl (lv_at hl 0 rfl) ?_
  refine lv_iconst hx hb (by decide +kernel : decode prog_41_method_121_code 21 = .ok (.iconst 0, 1)) (v := 0) rfl ?_
  refine lv_aload_n hx hb (by decide +kernel : decode prog_41_method_121_code 22 = .ok (.aload_n 0, 1)) rfl (lv_at hl 1 rfl) ?_
  refine va_alen hx hb hK hP 1 0 rfl rfl (v := 16) rfl (by decide +kernel : decode prog_41_method_121_code 23 = .ok (.arraylength, 1)) ?_
  refine lv_iload_n hx hb (by decide +kernel : decode prog_41_method_121_code 24 = .ok (.iload_n 1, 1)) rfl (lv_at hl 2 rfl) ?_
  refine va_mmin hx hb (hml.trans hl.1.symm) hown (hts (.methodLink "java/util/Arrays" 304 Lib.Math.min.name) (jw (j := 1366) rfl rfl)) (hts (.static Lib.Math.min.name) (jw (j := 736) rfl rfl)) (hts (.initialized "java/lang/Math") (jw (j := 15) rfl rfl)) (hts (.code Lib.Math.min.name Lib.Math.min.code 2 (some .int)) (jw (j := 737) rfl rfl)) (by omega) (Nat.le_trans (m := 64) (Nat.le_of_ble_eq_true rfl) (by omega)) (by omega) (by omega) (by decide +kernel : decode prog_41_method_121_code 25 = .ok (.invokestatic 304, 3)) ?_
  rw [if_neg (by decide : ¬ (34 : Int32) < 16)]
  refine va_copyi hx hb (hml.trans hl.1.symm) hown (hts (.methodLink "java/util/Arrays" 150 arraycopyName) (jw (j := 1367) rfl rfl)) (hts (.native arraycopyName) (jw (j := 1369) rfl rfl)) (hts (.static arraycopyName) (jw (j := 1368) rfl rfl)) (hts (.initialized "java/lang/System") (jw (j := 33) rfl rfl)) hK hP hD hS 1 2 0 0 rfl rfl rfl rfl rfl (by decide) (by decide) (by decide) (by decide) (by decide) (fun i _ => hf _) (by omega) (Nat.le_trans (m := 64) (Nat.le_of_ble_eq_true rfl) (by omega)) (by decide +kernel : decode prog_41_method_121_code 28 = .ok (.invokestatic 150, 3)) (fun H1 locs1 hP hD hS => ?_)
  have hP : va_P D2 bCl [(b, .inr (0, [.ref d, .int 0, .int ml, .int n])), (d, .inl (cB, 16, .inl f)), (q, .inl (cB, 34, .inl (va_cpy f (fun _ => 0) 0 0 16)))] _ := hP
  have hD : va_D A [(b, .inr (0, [.ref d, .int 0, .int ml, .int n])), (d, .inl (cB, 16, .inl f)), (q, .inl (cB, 34, .inl (va_cpy f (fun _ => 0) 0 0 16)))] := hD
  refine lv_aload_n hx hb (by decide +kernel : decode prog_41_method_121_code 31 = .ok (.aload_n 2, 1)) rfl (lv_at hl 0 rfl) ?_
  exact vx_ret (W.widen (by omega) (by omega) (W.aret hx hb hr (Or.inr ⟨_, rfl⟩) (Or.inr ⟨_, rfl⟩) (fun t ht hW => ⟨⟨_, rfl, ⟨q, rfl, by rw [ht]; exact hP, hD⟩⟩, hS.F ht⟩) hS.2.2 (by decide +kernel : decode prog_41_method_121_code 32 = .ok (.areturn, 1)) hlk))
set_option maxHeartbeats 1000000 in
theorem bB_ens34 {Z : State → Heap → Prop} (hZm : bMv A Z) {b d q : Nat} {ml n : Int32} {f : Nat → Int32} (hq : q < 22) (hf : bFit f) : bBd A D2 cB l ⟨"java/lang/AbstractStringBuilder", "ensureCapacityInternal", "(I)V"⟩ prog_17_method_9_code 3 none 3 1 34 Z [(b, .inr (0, [.ref d, .int 0, .int ml, .int n])), (d, .inl (cB, 34, .inl f))] [.ref b, .int (Int32.ofNat q)] (fun v9 H9 H1 => v9 = none ∧ ∃ (d' cap' : Nat) (f' : Nat → Int32), (cap' = 16 ∨ cap' = 34) ∧ q ≤ cap' ∧ bFit f' ∧ (∀ j, j < 16 → f' j = f j) ∧ (34 = 34 → ∀ j, f' j = f j) ∧ va_P D2 bCl (bW cB b d' ml n cap' f') H1 ∧ va_D A (bW cB b d' ml n cap' f')) := by
  rintro p e R s mI args below meth c lsA ⟨hx, hb, hr, hml, hown, hlk, hnm, hI, hZ, hP, hD⟩ hRf hRl hRc hRs hl
  obtain ⟨hN, hK, hCS, hA⟩ := hI
  have hts := fun w hw => hN w hw args
  have hS : va_S A s.heap s.heap [] := ⟨Nat.le_refl _, fun _ _ _ => rfl, fun _ h => absurd h List.not_mem_nil⟩
  have X : bCt A D2 cB p s mI args c "java/lang/AbstractStringBuilder" prog_17_method_9_code 3 := ⟨hx, hb, hml, hown, hts, hK, hCS, hA⟩
  have hl : lv_has lsA 3 [(0, .ref b), (1, .int (Int32.ofNat q))] := hl
  refine lv_aload_n hx hb (by decide +kernel : decode prog_17_method_9_code 0 = .ok (.aload_n 0, 1)) rfl (lv_at hl 0 rfl) ?_
  refine va_get (Ts := ewL4) (C := "java/lang/StringBuilder") (T := bT0) (N := 4) (ci := 0) hx hb hts bin0 hown hK hP 0 rfl rfl 0 (by decide) (hts (.fieldLink "java/lang/AbstractStringBuilder" 15 "java/lang/AbstractStringBuilder" "value" "[B") (jw (j := 1315) rfl rfl)) (fun _ h => h) rfl (by decide +kernel : decode prog_17_method_9_code 1 = .ok (.getfield 15, 3)) ?_
  refine va_alen hx hb hK hP 1 0 rfl rfl (v := 34) rfl (by decide +kernel : decode prog_17_method_9_code 4 = .ok (.arraylength, 1)) ?_
  refine lv_aload_n hx hb (by decide +kernel : decode prog_17_method_9_code 5 = .ok (.aload_n 0, 1)) rfl (lv_at hl 0 rfl) ?_
  refine va_get (Ts := ewL4) (C := "java/lang/StringBuilder") (T := bT0) (N := 4) (ci := 0) hx hb hts bin0 hown hK hP 0 rfl rfl 1 (by decide) (hts (.fieldLink "java/lang/AbstractStringBuilder" 22 "java/lang/AbstractStringBuilder" "coder" "B") (jw (j := 1316) rfl rfl)) (fun _ h => h) rfl (by decide +kernel : decode prog_17_method_9_code 6 = .ok (.getfield 22, 3)) ?_
  refine lv_ishr hx hb (by decide +kernel : decode prog_17_method_9_code 9 = .ok (.ishr, 1)) ?_
  rw [sb_shr0]
  refine lv_istore_n hx hb (by decide +kernel : decode prog_17_method_9_code 10 = .ok (.istore_n 2, 1)) rfl hl (by omega) rfl (fun lsA hl => ?_)
  have hl : lv_has lsA 3 [(2, .int 34), (0, .ref b), (1, .int (Int32.ofNat q))] := hl
  refine lv_iload_n hx hb (by decide +kernel : decode prog_17_method_9_code 11 = .ok (.iload_n 1, 1)) rfl (lv_at hl 2 rfl) ?_
  refine lv_iload_n hx hb (by decide +kernel : decode prog_17_method_9_code 12 = .ok (.iload_n 2, 1)) rfl (lv_at hl 0 rfl) ?_
  refine lv_isub hx hb (by decide +kernel : decode prog_17_method_9_code 13 = .ok (.isub, 1)) ?_
  refine lv_if_le hx hb (by decide +kernel : decode prog_17_method_9_code 14 = .ok (.ifCond .le 24, 3)) (tgt := 38) rfl (fun _ => ?_) (fun h => absurd (bq_34 q hq) h)
  exact vx_ret (W.widen (by omega) (by omega) (W.vret hx hb hr (fun t ht hW => ⟨⟨_, rfl, ⟨rfl, d, 34, f, Or.inr rfl, by omega, hf, fun _ _ => rfl, fun _ _ => rfl, by rw [ht]; exact hP, hD⟩⟩, hS.F ht⟩) hS.2.2 (by decide +kernel : decode prog_17_method_9_code 38 = .ok (.return_, 1)) hlk))
set_option maxHeartbeats 1000000 in
theorem bB_ens16 {Z : State → Heap → Prop} (hZm : bMv A Z) {b d q : Nat} {ml n : Int32} {f : Nat → Int32} (hq : q < 22) (hf : bFit f) : bBd A D2 cB l ⟨"java/lang/AbstractStringBuilder", "ensureCapacityInternal", "(I)V"⟩ prog_17_method_9_code 3 none 3 1 34 Z [(b, .inr (0, [.ref d, .int 0, .int ml, .int n])), (d, .inl (cB, 16, .inl f))] [.ref b, .int (Int32.ofNat q)] (fun v9 H9 H1 => v9 = none ∧ ∃ (d' cap' : Nat) (f' : Nat → Int32), (cap' = 16 ∨ cap' = 34) ∧ q ≤ cap' ∧ bFit f' ∧ (∀ j, j < 16 → f' j = f j) ∧ (16 = 34 → ∀ j, f' j = f j) ∧ va_P D2 bCl (bW cB b d' ml n cap' f') H1 ∧ va_D A (bW cB b d' ml n cap' f')) := by
  rintro p e R s mI args below meth c lsA ⟨hx, hb, hr, hml, hown, hlk, hnm, hI, hZ, hP, hD⟩ hRf hRl hRc hRs hl
  obtain ⟨hN, hK, hCS, hA⟩ := hI
  have hts := fun w hw => hN w hw args
  have hS : va_S A s.heap s.heap [] := ⟨Nat.le_refl _, fun _ _ _ => rfl, fun _ h => absurd h List.not_mem_nil⟩
  have X : bCt A D2 cB p s mI args c "java/lang/AbstractStringBuilder" prog_17_method_9_code 3 := ⟨hx, hb, hml, hown, hts, hK, hCS, hA⟩
  have hl : lv_has lsA 3 [(0, .ref b), (1, .int (Int32.ofNat q))] := hl
  refine lv_aload_n hx hb (by decide +kernel : decode prog_17_method_9_code 0 = .ok (.aload_n 0, 1)) rfl (lv_at hl 0 rfl) ?_
  refine va_get (Ts := ewL4) (C := "java/lang/StringBuilder") (T := bT0) (N := 4) (ci := 0) hx hb hts bin0 hown hK hP 0 rfl rfl 0 (by decide) (hts (.fieldLink "java/lang/AbstractStringBuilder" 15 "java/lang/AbstractStringBuilder" "value" "[B") (jw (j := 1315) rfl rfl)) (fun _ h => h) rfl (by decide +kernel : decode prog_17_method_9_code 1 = .ok (.getfield 15, 3)) ?_
  refine va_alen hx hb hK hP 1 0 rfl rfl (v := 16) rfl (by decide +kernel : decode prog_17_method_9_code 4 = .ok (.arraylength, 1)) ?_
  refine lv_aload_n hx hb (by decide +kernel : decode prog_17_method_9_code 5 = .ok (.aload_n 0, 1)) rfl (lv_at hl 0 rfl) ?_
  refine va_get (Ts := ewL4) (C := "java/lang/StringBuilder") (T := bT0) (N := 4) (ci := 0) hx hb hts bin0 hown hK hP 0 rfl rfl 1 (by decide) (hts (.fieldLink "java/lang/AbstractStringBuilder" 22 "java/lang/AbstractStringBuilder" "coder" "B") (jw (j := 1316) rfl rfl)) (fun _ h => h) rfl (by decide +kernel : decode prog_17_method_9_code 6 = .ok (.getfield 22, 3)) ?_
  refine lv_ishr hx hb (by decide +kernel : decode prog_17_method_9_code 9 = .ok (.ishr, 1)) ?_
  rw [sb_shr0]
  refine lv_istore_n hx hb (by decide +kernel : decode prog_17_method_9_code 10 = .ok (.istore_n 2, 1)) rfl hl (by omega) rfl (fun lsA hl => ?_)
  have hl : lv_has lsA 3 [(2, .int 16), (0, .ref b), (1, .int (Int32.ofNat q))] := hl
  refine lv_iload_n hx hb (by decide +kernel : decode prog_17_method_9_code 11 = .ok (.iload_n 1, 1)) rfl (lv_at hl 2 rfl) ?_
  refine lv_iload_n hx hb (by decide +kernel : decode prog_17_method_9_code 12 = .ok (.iload_n 2, 1)) rfl (lv_at hl 0 rfl) ?_
  refine lv_isub hx hb (by decide +kernel : decode prog_17_method_9_code 13 = .ok (.isub, 1)) ?_
  refine lv_if_le hx hb (by decide +kernel : decode prog_17_method_9_code 14 = .ok (.ifCond .le 24, 3)) (tgt := 38) rfl (fun hle => ?_) (fun hle => ?_)
  · exact vx_ret (W.widen (by omega) (by omega) (W.vret hx hb hr (fun t ht hW => ⟨⟨_, rfl, ⟨rfl, d, 16, f, Or.inl rfl, bq_16 q hq hle, hf, fun _ _ => rfl, fun _ _ => rfl, by rw [ht]; exact hP, hD⟩⟩, hS.F ht⟩) hS.2.2 (by decide +kernel : decode prog_17_method_9_code 38 = .ok (.return_, 1)) hlk))
  · have hq2 := bq_n q hq hle
    refine lv_aload_n hx hb (by decide +kernel : decode prog_17_method_9_code 17 = .ok (.aload_n 0, 1)) rfl (lv_at hl 1 rfl) ?_
    refine lv_aload_n hx hb (by decide +kernel : decode prog_17_method_9_code 18 = .ok (.aload_n 0, 1)) rfl (lv_at hl 1 rfl) ?_
    refine va_get (Ts := ewL4) (C := "java/lang/StringBuilder") (T := bT0) (N := 4) (ci := 0) hx hb hts bin0 hown hK hP 0 rfl rfl 0 (by decide) (hts (.fieldLink "java/lang/AbstractStringBuilder" 15 "java/lang/AbstractStringBuilder" "value" "[B") (jw (j := 1315) rfl rfl)) (fun _ h => h) rfl (by decide +kernel : decode prog_17_method_9_code 19 = .ok (.getfield 15, 3)) ?_
    refine lv_aload_n hx hb (by decide +kernel : decode prog_17_method_9_code 22 = .ok (.aload_n 0, 1)) rfl (lv_at hl 1 rfl) ?_
    refine lv_iload_n hx hb (by decide +kernel : decode prog_17_method_9_code 23 = .ok (.iload_n 1, 1)) rfl (lv_at hl 2 rfl) ?_
    refine bcallU (owner := "java/lang/AbstractStringBuilder") (x := ⟨"java/lang/AbstractStringBuilder", "newCapacity", "(I)I"⟩) (vs := [.int (Int32.ofNat q)]) (rest := [.ref d, .ref b]) (n := 1) X hZm hS (hZm _ _ _ _ (al_refl s) hS.2.1 hZ) hP hD (q0 := 0) rfl (bMt_of (by decide) (Nat.le_of_ble_eq_true rfl) (bB_newCap hZm hq hq2)) (jw (j := 1346) rfl rfl : Cond.code ⟨"java/lang/AbstractStringBuilder", "newCapacity", "(I)I"⟩ prog_17_method_10_code 6 (some .int) ∈ ewL4) (jw (j := 1343) rfl rfl : Cond.methodLink "java/lang/AbstractStringBuilder" 104 ⟨"java/lang/AbstractStringBuilder", "newCapacity", "(I)I"⟩ ∈ ewL4) (jw (j := 1563) rfl rfl : Cond.sameMethod "java/lang/AbstractStringBuilder" "java/lang/AbstractStringBuilder" "newCapacity" "(I)I" ∈ ewL4) (va_Decl.of (hts _ (jw (j := 1345) rfl rfl : Cond.instanceMethod ⟨"java/lang/AbstractStringBuilder", "newCapacity", "(I)I"⟩ ∈ ewL4)) (hts _ (jw (j := 1346) rfl rfl : Cond.code ⟨"java/lang/AbstractStringBuilder", "newCapacity", "(I)I"⟩ prog_17_method_10_code 6 (some .int) ∈ ewL4))) (bSelP (hK.1 0 _ rfl).2.1 (hts _ (jw (j := 1563) rfl rfl : Cond.sameMethod "java/lang/AbstractStringBuilder" "java/lang/AbstractStringBuilder" "newCapacity" "(I)I" ∈ ewL4)) (hts _ (jw (j := 1345) rfl rfl : Cond.instanceMethod ⟨"java/lang/AbstractStringBuilder", "newCapacity", "(I)I"⟩ ∈ ewL4)) (hts _ (jw (j := 1344) rfl rfl : Cond.privateMethod ⟨"java/lang/AbstractStringBuilder", "newCapacity", "(I)I"⟩ ∈ ewL4))) (jw (j := 1345) rfl rfl : Cond.instanceMethod ⟨"java/lang/AbstractStringBuilder", "newCapacity", "(I)I"⟩ ∈ ewL4) (jw (j := 29) rfl rfl : Cond.initialized "java/lang/AbstractStringBuilder" ∈ ewL4) ⟨⟨by decide, by decide⟩, by decide +kernel⟩ rfl ⟨by omega, by omega⟩ ⟨by omega, by omega⟩ hl.1 (by simp [Value.category]) rfl (by decide +kernel : decode prog_17_method_9_code 24 = .ok (.invokevirtual 104, 3)) (fun v9 H1 locs1 hpost hS9 hz hk => ?_)
    obtain ⟨rfl, rfl⟩ := hpost
    have hS := hS9
    clear hS9
    refine lv_aload_n hx hb (by decide +kernel : decode prog_17_method_9_code 27 = .ok (.aload_n 0, 1)) rfl (lv_at hl 1 rfl) ?_
    refine va_get (Ts := ewL4) (C := "java/lang/StringBuilder") (T := bT0) (N := 4) (ci := 0) hx hb hts bin0 hown hK hP 0 rfl rfl 1 (by decide) (hts (.fieldLink "java/lang/AbstractStringBuilder" 22 "java/lang/AbstractStringBuilder" "coder" "B") (jw (j := 1316) rfl rfl)) (fun _ h => h) rfl (by decide +kernel : decode prog_17_method_9_code 28 = .ok (.getfield 22, 3)) ?_
    refine lv_ishl hx hb (by decide +kernel : decode prog_17_method_9_code 31 = .ok (.ishl, 1)) ?_
    rw [sb_shl0]
    refine bcallS (vs := [.ref d, .int 34]) (rest := [.ref b]) (n := 2) X hZm hS (hZm _ _ _ _ (al_refl s) hS.2.1 hZ) hP hD (bMt_of (by decide) (Nat.le_of_ble_eq_true rfl) (bB_copyOf hZm hf)) (jw (j := 1358) rfl rfl : Cond.code ⟨"java/util/Arrays", "copyOf", "([BI)[B"⟩ prog_41_method_121_code 3 (some (.array .byte)) ∈ ewL4) (jw (j := 1356) rfl rfl : Cond.methodLink "java/lang/AbstractStringBuilder" 108 ⟨"java/util/Arrays", "copyOf", "([BI)[B"⟩ ∈ ewL4) (jw (j := 1357) rfl rfl : Cond.static ⟨"java/util/Arrays", "copyOf", "([BI)[B"⟩ ∈ ewL4) (jw (j := 32) rfl rfl : Cond.initialized "java/util/Arrays" ∈ ewL4) ⟨⟨by decide, by decide⟩, by decide +kernel⟩ rfl ⟨by omega, by omega⟩ ⟨by omega, by omega⟩ hl.1 (by simp [Value.category]) rfl (by decide +kernel : decode prog_17_method_9_code 32 = .ok (.invokestatic 108, 3)) (fun v9 H1 locs1 hpost hS9 hz hk => ?_)
    obtain ⟨q9, rfl, hP, hD⟩ := hpost
    have hS := hS9
    clear hS9
    refine va_put (Ts := ewL4) (C := "java/lang/StringBuilder") (T := bT0) (N := 4) (ci := 0) (v := .ref q9) (ty := bY0 0) hx hb hts bin0 bY0 bY0_ok bN0_ok hown hK hP hD hS 0 rfl rfl 0 (by decide) (hts (.fieldLink "java/lang/AbstractStringBuilder" 15 "java/lang/AbstractStringBuilder" "value" "[B") (jw (j := 1315) rfl rfl)) (fun _ h => h) rfl (bY0_ok 0 (by decide)) rfl rfl (Nat.le_of_ble_eq_true rfl) (by decide +kernel : decode prog_17_method_9_code 35 = .ok (.putfield 15, 3)) (fun H1 locs1 hP hD hS => ?_)
    have hP : va_P D2 bCl [(b, .inr (0, [.ref q9, .int 0, .int ml, .int n])), (d, .inl (cB, 16, .inl f)), (q9, .inl (cB, 34, .inl (va_cpy f (fun _ => 0) 0 0 16)))] _ := hP
    have hD : va_D A [(b, .inr (0, [.ref q9, .int 0, .int ml, .int n])), (d, .inl (cB, 16, .inl f)), (q9, .inl (cB, 34, .inl (va_cpy f (fun _ => 0) 0 0 16)))] := hD
    have hP2 := hP.sub (ws' := bW cB b q9 ml n 34 (va_cpy f (fun _ => 0) 0 0 16)) [0, 2] rfl
    have hD2 := hD.sub (ws' := bW cB b q9 ml n 34 (va_cpy f (fun _ => 0) 0 0 16)) [0, 2] (by decide) rfl
    exact vx_ret (W.widen (by omega) (by omega) (W.vret hx hb hr (fun t ht hW => ⟨⟨_, rfl, ⟨rfl, q9, 34, _, Or.inr rfl, by omega, bfit_c hf, fun j hj => sb_cpy0 hj, fun h => absurd h (by decide), by rw [ht]; exact hP2, hD2⟩⟩, hS.F ht⟩) hS.2.2 (by decide +kernel : decode prog_17_method_9_code 38 = .ok (.return_, 1)) hlk))
theorem bB_ens {Z : State → Heap → Prop} (hZm : bMv A Z) {b d cap q : Nat} {ml n : Int32} {f : Nat → Int32} (hq : q < 22) (hf : bFit f) (hcap : cap = 16 ∨ cap = 34) : bBd A D2 cB l ⟨"java/lang/AbstractStringBuilder", "ensureCapacityInternal", "(I)V"⟩ prog_17_method_9_code 3 none 3 1 34 Z (bW cB b d ml n cap f) [.ref b, .int (Int32.ofNat q)] (fun v9 H9 H1 => v9 = none ∧ ∃ (d' cap' : Nat) (f' : Nat → Int32), (cap' = 16 ∨ cap' = 34) ∧ q ≤ cap' ∧ bFit f' ∧ (∀ j, j < 16 → f' j = f j) ∧ (cap = 34 → ∀ j, f' j = f j) ∧ va_P D2 bCl (bW cB b d' ml n cap' f') H1 ∧ va_D A (bW cB b d' ml n cap' f')) := by
  rcases hcap with rfl | rfl
  · exact bB_ens16 hZm hq hf
  · exact bB_ens34 hZm hq hf
set_option maxHeartbeats 1000000 in
theorem bB_infl {a0 b0 : Nat} {t0 : List Int} {b d cap : Nat} {ml n : Int32} {f : Nat → Int32} : bBd A D2 cB l ⟨"java/lang/AbstractStringBuilder", "inflateIfNeededFor", "(Ljava/lang/String;)V"⟩ prog_17_method_71_code 2 none 1 0 0 (zS A a0 b0 t0) [(b, .inr (0, [.ref d, .int 0, .int ml, .int n])), (d, .inl (cB, cap, .inl f))] [.ref b, .ref a0] (fun v9 H9 H1 => v9 = none ∧ H1 = H9) := by
  rintro p e R s mI args below meth c lsA ⟨hx, hb, hr, hml, hown, hlk, hnm, hI, hZ, hP, hD⟩ hRf hRl hRc hRs hl
  obtain ⟨hN, hK, hCS, hA⟩ := hI
  have hts := fun w hw => hN w hw args
  have hS : va_S A s.heap s.heap [] := ⟨Nat.le_refl _, fun _ _ _ => rfl, fun _ h => absurd h List.not_mem_nil⟩
  have X : bCt A D2 cB p s mI args c "java/lang/AbstractStringBuilder" prog_17_method_71_code 2 := ⟨hx, hb, hml, hown, hts, hK, hCS, hA⟩
  have hl : lv_has lsA 2 [(0, .ref b), (1, .ref a0)] := hl
  have hZm : bMv A (zS A a0 b0 t0) := zS_mv
  refine va_gets hx hb hCS hS hown (hts (.fieldLink "java/lang/AbstractStringBuilder" 18 "java/lang/String" "COMPACT_STRINGS" "Z") (jw (j := 1307) rfl rfl)) (fun _ h => h) (by decide +kernel : decode prog_17_method_71_code 0 = .ok (.getstatic 18, 3)) ?_
  refine lv_if_eq hx hb (by decide +kernel : decode prog_17_method_71_code 3 = .ok (.ifCond .eq 18, 3)) (tgt := 21) rfl (fun h => absurd h (by decide)) (fun _ => ?_)
  refine lv_aload_n hx hb (by decide +kernel : decode prog_17_method_71_code 6 = .ok (.aload_n 0, 1)) rfl (lv_at hl 0 rfl) ?_
  refine va_get (Ts := ewL4) (C := "java/lang/StringBuilder") (T := bT0) (N := 4) (ci := 0) hx hb hts bin0 hown hK hP 0 rfl rfl 1 (by decide) (hts (.fieldLink "java/lang/AbstractStringBuilder" 22 "java/lang/AbstractStringBuilder" "coder" "B") (jw (j := 1316) rfl rfl)) (fun _ h => h) rfl (by decide +kernel : decode prog_17_method_71_code 7 = .ok (.getfield 22, 3)) ?_
  refine lv_aload_n hx hb (by decide +kernel : decode prog_17_method_71_code 10 = .ok (.aload_n 1, 1)) rfl (lv_at hl 1 rfl) ?_
  refine bcallV (C := "java/lang/String") (vs := []) (rest := [.int 0]) (n := 0) X hZm hS (hZm _ _ _ _ (al_refl s) hS.2.1 hZ) hP hD (zS_rc hZ hS) (bMt_of (by decide) (Nat.le_of_ble_eq_true rfl) (bB_coder )) (jw (j := 1055) rfl rfl : Cond.code ⟨"java/lang/String", "coder", "()B"⟩ prog_32_method_152_code 1 (some .byte) ∈ ewL4) (jw (j := 1399) rfl rfl : Cond.methodLink "java/lang/AbstractStringBuilder" 40 ⟨"java/lang/String", "coder", "()B"⟩ ∈ ewL4) (jw (j := 1053) rfl rfl : Cond.instanceMethod ⟨"java/lang/String", "coder", "()B"⟩ ∈ ewL4) (jw (j := 1054) rfl rfl : Cond.selects "java/lang/String" ⟨"java/lang/String", "coder", "()B"⟩ ⟨"java/lang/String", "coder", "()B"⟩ ∈ ewL4) (jw (j := 23) rfl rfl : Cond.initialized "java/lang/String" ∈ ewL4) ⟨⟨by decide, by decide⟩, by decide +kernel⟩ rfl ⟨by omega, by omega⟩ ⟨by omega, by omega⟩ hl.1 (by simp [Value.category]) rfl (by decide +kernel : decode prog_17_method_71_code 11 = .ok (.invokevirtual 40, 3)) (fun v9 H1 locs1 hpost hS9 hz hk => ?_)
  obtain ⟨rfl, rfl⟩ := hpost
  have hS := hS9
  clear hS9
  refine lv_icmp_eq hx hb (by decide +kernel : decode prog_17_method_71_code 14 = .ok (.if_icmp .eq 7, 3)) (tgt := 21) rfl (fun _ => ?_) (fun h => absurd rfl h)
  exact vx_ret (W.widen (by omega) (by omega) (W.vret hx hb hr (fun t ht hW => ⟨⟨_, rfl, ⟨rfl, ht⟩⟩, hS.F ht⟩) hS.2.2 (by decide +kernel : decode prog_17_method_71_code 21 = .ok (.return_, 1)) hlk))
set_option maxHeartbeats 1000000 in
theorem bB_getB {a0 b0 : Nat} {t0 : List Int} {b d cap n : Nat} {ml c0 : Int32} {f : Nat → Int32} (htl : t0.length ≤ 21) (htc : ∀ y ∈ t0, 0 ≤ y ∧ y < 128) (hn : n + t0.length ≤ cap) (hcap : cap ≤ 34) : bBd A D2 cB l ⟨"java/lang/String", "getBytes", "([BIB)V"⟩ prog_32_method_147_code 4 none 1 0 0 (zS A a0 b0 t0) [(b, .inr (0, [.ref d, .int 0, .int ml, .int c0])), (d, .inl (cB, cap, .inl f))] [.ref a0, .ref d, .int (nI n), .int 0] (fun v9 H9 H1 => v9 = none ∧ va_P D2 bCl (bW cB b d ml c0 cap (va_cpy (fun j => Int32.ofInt (t0.getD j 0)) f 0 n t0.length)) H1 ∧ va_D A (bW cB b d ml c0 cap (va_cpy (fun j => Int32.ofInt (t0.getD j 0)) f 0 n t0.length))) := by
  rintro p e R s mI args below meth c lsA ⟨hx, hb, hr, hml, hown, hlk, hnm, hI, hZ, hP, hD⟩ hRf hRl hRc hRs hl
  obtain ⟨hN, hK, hCS, hA⟩ := hI
  have hts := fun w hw => hN w hw args
  have hS : va_S A s.heap s.heap [] := ⟨Nat.le_refl _, fun _ _ _ => rfl, fun _ h => absurd h List.not_mem_nil⟩
  have X : bCt A D2 cB p s mI args c "java/lang/String" prog_32_method_147_code 4 := ⟨hx, hb, hml, hown, hts, hK, hCS, hA⟩
  have hl : lv_has lsA 4 [(0, .ref a0), (1, .ref d), (2, .int (nI n)), (3, .int 0)] := hl
  have hZm : bMv A (zS A a0 b0 t0) := zS_mv
  refine lv_aload_n hx hb (by decide +kernel : decode prog_32_method_147_code 0 = .ok (.aload_n 0, 1)) rfl (lv_at hl 0 rfl) ?_
  refine bcallV (C := "java/lang/String") (vs := []) (rest := []) (n := 0) X hZm hS (hZm _ _ _ _ (al_refl s) hS.2.1 hZ) hP hD (zS_rc hZ hS) (bMt_of (by decide) (Nat.le_of_ble_eq_true rfl) (bB_coder )) (jw (j := 1055) rfl rfl : Cond.code ⟨"java/lang/String", "coder", "()B"⟩ prog_32_method_152_code 1 (some .byte) ∈ ewL4) (jw (j := 1052) rfl rfl : Cond.methodLink "java/lang/String" 335 ⟨"java/lang/String", "coder", "()B"⟩ ∈ ewL4) (jw (j := 1053) rfl rfl : Cond.instanceMethod ⟨"java/lang/String", "coder", "()B"⟩ ∈ ewL4) (jw (j := 1054) rfl rfl : Cond.selects "java/lang/String" ⟨"java/lang/String", "coder", "()B"⟩ ⟨"java/lang/String", "coder", "()B"⟩ ∈ ewL4) (jw (j := 23) rfl rfl : Cond.initialized "java/lang/String" ∈ ewL4) ⟨⟨by decide, by decide⟩, by decide +kernel⟩ rfl ⟨by omega, by omega⟩ ⟨by omega, by omega⟩ hl.1 (by simp [Value.category]) rfl (by decide +kernel : decode prog_32_method_147_code 1 = .ok (.invokevirtual 335, 3)) (fun v9 H1 locs1 hpost hS9 hz hk => ?_)
  obtain ⟨rfl, rfl⟩ := hpost
  have hS := hS9
  clear hS9
  refine lv_iload_n hx hb (by decide +kernel : decode prog_32_method_147_code 4 = .ok (.iload_n 3, 1)) rfl (lv_at hl 3 rfl) ?_
  refine lv_icmp_ne hx hb (by decide +kernel : decode prog_32_method_147_code 5 = .ok (.if_icmp .ne 23, 3)) (tgt := 28) rfl (fun h => absurd rfl h) (fun _ => ?_)
  refine lv_aload_n hx hb (by decide +kernel : decode prog_32_method_147_code 8 = .ok (.aload_n 0, 1)) rfl (lv_at hl 0 rfl) ?_
  refine vk_getf hx hb hZ.2.2.1 hS hown (hts (.fieldLink "java/lang/String" 9 "java/lang/String" "value" "[B") (jw (j := 1525) rfl rfl)) (fun _ h => h) (by decide +kernel : decode prog_32_method_147_code 9 = .ok (.getfield 9, 3)) ?_
  refine lv_iconst hx hb (by decide +kernel : decode prog_32_method_147_code 12 = .ok (.iconst 0, 1)) (v := 0) rfl ?_
  refine lv_aload_n hx hb (by decide +kernel : decode prog_32_method_147_code 13 = .ok (.aload_n 1, 1)) rfl (lv_at hl 1 rfl) ?_
  refine lv_iload_n hx hb (by decide +kernel : decode prog_32_method_147_code 14 = .ok (.iload_n 2, 1)) rfl (lv_at hl 2 rfl) ?_
  refine lv_iload_n hx hb (by decide +kernel : decode prog_32_method_147_code 15 = .ok (.iload_n 3, 1)) rfl (lv_at hl 3 rfl) ?_
  refine lv_ishl hx hb (by decide +kernel : decode prog_32_method_147_code 16 = .ok (.ishl, 1)) ?_
  rw [sb_shl0]
  refine lv_aload_n hx hb (by decide +kernel : decode prog_32_method_147_code 17 = .ok (.aload_n 0, 1)) rfl (lv_at hl 0 rfl) ?_
  refine vk_getf hx hb hZ.2.2.1 hS hown (hts (.fieldLink "java/lang/String" 9 "java/lang/String" "value" "[B") (jw (j := 1525) rfl rfl)) (fun _ h => h) (by decide +kernel : decode prog_32_method_147_code 18 = .ok (.getfield 9, 3)) ?_
  refine va_tlen hx hb hZ.2.2.2 hS (v := nI t0.length) rfl (by decide +kernel : decode prog_32_method_147_code 21 = .ok (.arraylength, 1)) ?_
  refine vk_copyt hx hb (hml.trans hl.1.symm) hown (hts (.methodLink "java/lang/String" 212 arraycopyName) (jw (j := 1423) rfl rfl)) (hts (.native arraycopyName) (jw (j := 1369) rfl rfl)) (hts (.static arraycopyName) (jw (j := 1368) rfl rfl)) (hts (.initialized "java/lang/System") (jw (j := 33) rfl rfl)) hK hP hD hS hZ.2.2.2 1 0 rfl rfl (by decide) (nI_pos (by omega)) (nI_pos (by omega)) (by rw [sb_cl0, nI_clamp (by omega)]; omega) (by rw [nI_clamp (n := n) (by omega), nI_clamp (n := t0.length) (by omega)]; exact hn) (fun i _ => bfit_t htc _) (by omega) (Nat.le_trans (m := 64) (Nat.le_of_ble_eq_true rfl) (by omega)) (by decide +kernel : decode prog_32_method_147_code 22 = .ok (.invokestatic 212, 3)) (fun H1 locs1 hP hD hS => ?_)
  rw [sb_cl0, nI_clamp (n := n) (by omega), nI_clamp (n := t0.length) (by omega)] at hP hD
  have hP : va_P D2 bCl [(b, .inr (0, [.ref d, .int 0, .int ml, .int c0])), (d, .inl (cB, cap, .inl (va_cpy (fun j => Int32.ofInt (t0.getD j 0)) f 0 n t0.length)))] _ := hP
  have hD : va_D A [(b, .inr (0, [.ref d, .int 0, .int ml, .int c0])), (d, .inl (cB, cap, .inl (va_cpy (fun j => Int32.ofInt (t0.getD j 0)) f 0 n t0.length)))] := hD
  refine lv_goto hx hb (by decide +kernel : decode prog_32_method_147_code 25 = .ok (.goto 18, 3)) (tgt := 43) rfl ?_
  exact vx_ret (W.widen (by omega) (by omega) (W.vret hx hb hr (fun t ht hW => ⟨⟨_, rfl, ⟨rfl, by rw [ht]; exact hP, hD⟩⟩, hS.F ht⟩) hS.2.2 (by decide +kernel : decode prog_32_method_147_code 43 = .ok (.return_, 1)) hlk))
set_option maxHeartbeats 1000000 in
theorem bB_putS {a0 b0 : Nat} {t0 : List Int} {b d cap n : Nat} {ml c0 : Int32} {f : Nat → Int32} (htl : t0.length ≤ 21) (htc : ∀ y ∈ t0, 0 ≤ y ∧ y < 128) (hn : n + t0.length ≤ cap) (hcap : cap ≤ 34) : bBd A D2 cB l ⟨"java/lang/AbstractStringBuilder", "putStringAt", "(ILjava/lang/String;)V"⟩ prog_17_method_73_code 3 none 2 0 0 (zS A a0 b0 t0) [(b, .inr (0, [.ref d, .int 0, .int ml, .int c0])), (d, .inl (cB, cap, .inl f))] [.ref b, .int (nI n), .ref a0] (fun v9 H9 H1 => v9 = none ∧ va_P D2 bCl (bW cB b d ml c0 cap (va_cpy (fun j => Int32.ofInt (t0.getD j 0)) f 0 n t0.length)) H1 ∧ va_D A (bW cB b d ml c0 cap (va_cpy (fun j => Int32.ofInt (t0.getD j 0)) f 0 n t0.length))) := by
  rintro p e R s mI args below meth c lsA ⟨hx, hb, hr, hml, hown, hlk, hnm, hI, hZ, hP, hD⟩ hRf hRl hRc hRs hl
  obtain ⟨hN, hK, hCS, hA⟩ := hI
  have hts := fun w hw => hN w hw args
  have hS : va_S A s.heap s.heap [] := ⟨Nat.le_refl _, fun _ _ _ => rfl, fun _ h => absurd h List.not_mem_nil⟩
  have X : bCt A D2 cB p s mI args c "java/lang/AbstractStringBuilder" prog_17_method_73_code 3 := ⟨hx, hb, hml, hown, hts, hK, hCS, hA⟩
  have hl : lv_has lsA 3 [(0, .ref b), (1, .int (nI n)), (2, .ref a0)] := hl
  have hZm : bMv A (zS A a0 b0 t0) := zS_mv
  refine lv_aload_n hx hb (by decide +kernel : decode prog_17_method_73_code 0 = .ok (.aload_n 0, 1)) rfl (lv_at hl 0 rfl) ?_
  refine lv_aload_n hx hb (by decide +kernel : decode prog_17_method_73_code 1 = .ok (.aload_n 2, 1)) rfl (lv_at hl 2 rfl) ?_
  refine bcallU (owner := "java/lang/AbstractStringBuilder") (x := ⟨"java/lang/AbstractStringBuilder", "inflateIfNeededFor", "(Ljava/lang/String;)V"⟩) (vs := [.ref a0]) (rest := []) (n := 1) X hZm hS (hZm _ _ _ _ (al_refl s) hS.2.1 hZ) hP hD (q0 := 0) rfl (bMt_of (by decide) (Nat.le_of_ble_eq_true rfl) (bB_infl )) (jw (j := 1398) rfl rfl : Cond.code ⟨"java/lang/AbstractStringBuilder", "inflateIfNeededFor", "(Ljava/lang/String;)V"⟩ prog_17_method_71_code 2 none ∈ ewL4) (jw (j := 1395) rfl rfl : Cond.methodLink "java/lang/AbstractStringBuilder" 397 ⟨"java/lang/AbstractStringBuilder", "inflateIfNeededFor", "(Ljava/lang/String;)V"⟩ ∈ ewL4) (jw (j := 1565) rfl rfl : Cond.sameMethod "java/lang/AbstractStringBuilder" "java/lang/AbstractStringBuilder" "inflateIfNeededFor" "(Ljava/lang/String;)V" ∈ ewL4) (va_Decl.of (hts _ (jw (j := 1397) rfl rfl : Cond.instanceMethod ⟨"java/lang/AbstractStringBuilder", "inflateIfNeededFor", "(Ljava/lang/String;)V"⟩ ∈ ewL4)) (hts _ (jw (j := 1398) rfl rfl : Cond.code ⟨"java/lang/AbstractStringBuilder", "inflateIfNeededFor", "(Ljava/lang/String;)V"⟩ prog_17_method_71_code 2 none ∈ ewL4))) (bSelP (hK.1 0 _ rfl).2.1 (hts _ (jw (j := 1565) rfl rfl : Cond.sameMethod "java/lang/AbstractStringBuilder" "java/lang/AbstractStringBuilder" "inflateIfNeededFor" "(Ljava/lang/String;)V" ∈ ewL4)) (hts _ (jw (j := 1397) rfl rfl : Cond.instanceMethod ⟨"java/lang/AbstractStringBuilder", "inflateIfNeededFor", "(Ljava/lang/String;)V"⟩ ∈ ewL4)) (hts _ (jw (j := 1396) rfl rfl : Cond.privateMethod ⟨"java/lang/AbstractStringBuilder", "inflateIfNeededFor", "(Ljava/lang/String;)V"⟩ ∈ ewL4))) (jw (j := 1397) rfl rfl : Cond.instanceMethod ⟨"java/lang/AbstractStringBuilder", "inflateIfNeededFor", "(Ljava/lang/String;)V"⟩ ∈ ewL4) (jw (j := 29) rfl rfl : Cond.initialized "java/lang/AbstractStringBuilder" ∈ ewL4) ⟨⟨by decide, by decide⟩, by decide +kernel⟩ rfl ⟨by omega, by omega⟩ ⟨by omega, by omega⟩ hl.1 (by simp [Value.category]) rfl (by decide +kernel : decode prog_17_method_73_code 2 = .ok (.invokevirtual 397, 3)) (fun v9 H1 locs1 hpost hS9 hz hk => ?_)
  obtain ⟨rfl, rfl⟩ := hpost
  have hS := hS9
  clear hS9
  refine lv_aload_n hx hb (by decide +kernel : decode prog_17_method_73_code 5 = .ok (.aload_n 2, 1)) rfl (lv_at hl 2 rfl) ?_
  refine lv_aload_n hx hb (by decide +kernel : decode prog_17_method_73_code 6 = .ok (.aload_n 0, 1)) rfl (lv_at hl 0 rfl) ?_
  refine va_get (Ts := ewL4) (C := "java/lang/StringBuilder") (T := bT0) (N := 4) (ci := 0) hx hb hts bin0 hown hK hP 0 rfl rfl 0 (by decide) (hts (.fieldLink "java/lang/AbstractStringBuilder" 15 "java/lang/AbstractStringBuilder" "value" "[B") (jw (j := 1315) rfl rfl)) (fun _ h => h) rfl (by decide +kernel : decode prog_17_method_73_code 7 = .ok (.getfield 15, 3)) ?_
  refine lv_iload_n hx hb (by decide +kernel : decode prog_17_method_73_code 10 = .ok (.iload_n 1, 1)) rfl (lv_at hl 1 rfl) ?_
  refine lv_aload_n hx hb (by decide +kernel : decode prog_17_method_73_code 11 = .ok (.aload_n 0, 1)) rfl (lv_at hl 0 rfl) ?_
  refine va_get (Ts := ewL4) (C := "java/lang/StringBuilder") (T := bT0) (N := 4) (ci := 0) hx hb hts bin0 hown hK hP 0 rfl rfl 1 (by decide) (hts (.fieldLink "java/lang/AbstractStringBuilder" 22 "java/lang/AbstractStringBuilder" "coder" "B") (jw (j := 1316) rfl rfl)) (fun _ h => h) rfl (by decide +kernel : decode prog_17_method_73_code 12 = .ok (.getfield 22, 3)) ?_
  refine bcallV (C := "java/lang/String") (vs := [.ref d, .int (nI n), .int 0]) (rest := []) (n := 3) X hZm hS (hZm _ _ _ _ (al_refl s) hS.2.1 hZ) hP hD (zS_rc hZ hS) (bMt_of (by decide) (Nat.le_of_ble_eq_true rfl) (bB_getB htl htc hn hcap)) (jw (j := 1422) rfl rfl : Cond.code ⟨"java/lang/String", "getBytes", "([BIB)V"⟩ prog_32_method_147_code 4 none ∈ ewL4) (jw (j := 1419) rfl rfl : Cond.methodLink "java/lang/AbstractStringBuilder" 399 ⟨"java/lang/String", "getBytes", "([BIB)V"⟩ ∈ ewL4) (jw (j := 1420) rfl rfl : Cond.instanceMethod ⟨"java/lang/String", "getBytes", "([BIB)V"⟩ ∈ ewL4) (jw (j := 1421) rfl rfl : Cond.selects "java/lang/String" ⟨"java/lang/String", "getBytes", "([BIB)V"⟩ ⟨"java/lang/String", "getBytes", "([BIB)V"⟩ ∈ ewL4) (jw (j := 23) rfl rfl : Cond.initialized "java/lang/String" ∈ ewL4) ⟨⟨by decide, by decide⟩, by decide +kernel⟩ rfl ⟨by omega, by omega⟩ ⟨by omega, by omega⟩ hl.1 (by simp [Value.category]) rfl (by decide +kernel : decode prog_17_method_73_code 15 = .ok (.invokevirtual 399, 3)) (fun v9 H1 locs1 hpost hS9 hz hk => ?_)
  obtain ⟨rfl, hP, hD⟩ := hpost
  have hS := hS9
  clear hS9
  exact vx_ret (W.widen (by omega) (by omega) (W.vret hx hb hr (fun t ht hW => ⟨⟨_, rfl, ⟨rfl, by rw [ht]; exact hP, hD⟩⟩, hS.F ht⟩) hS.2.2 (by decide +kernel : decode prog_17_method_73_code 18 = .ok (.return_, 1)) hlk))
set_option maxHeartbeats 1000000 in
theorem bB_aS {a0 b0 : Nat} {t0 : List Int} {b d : Nat} {ml : Int32} {f : Nat → Int32} (htl : t0.length ≤ 21) (htc : ∀ y ∈ t0, 0 ≤ y ∧ y < 128) (hf : bFit f) : bBd A D2 cB l ⟨"java/lang/AbstractStringBuilder", "append", "(Ljava/lang/String;)Ljava/lang/AbstractStringBuilder;"⟩ prog_17_method_22_code 3 (some (.object "java/lang/AbstractStringBuilder")) 4 1 34 (zS A a0 b0 t0) [(b, .inr (0, [.ref d, .int 0, .int ml, .int 0])), (d, .inl (cB, 16, .inl f))] [.ref b, .ref a0] (fun v9 H9 H1 => v9 = some (.ref b) ∧ ∃ (d' cap' : Nat) (f' : Nat → Int32), (cap' = 16 ∨ cap' = 34) ∧ t0.length ≤ cap' ∧ bFit f' ∧ (∀ j, j < t0.length → f' j = Int32.ofInt (t0.getD j 0)) ∧ va_P D2 bCl (bW cB b d' ml (nI t0.length) cap' f') H1 ∧ va_D A (bW cB b d' ml (nI t0.length) cap' f')) := by
  rintro p e R s mI args below meth c lsA ⟨hx, hb, hr, hml, hown, hlk, hnm, hI, hZ, hP, hD⟩ hRf hRl hRc hRs hl
  obtain ⟨hN, hK, hCS, hA⟩ := hI
  have hts := fun w hw => hN w hw args
  have hS : va_S A s.heap s.heap [] := ⟨Nat.le_refl _, fun _ _ _ => rfl, fun _ h => absurd h List.not_mem_nil⟩
  have X : bCt A D2 cB p s mI args c "java/lang/AbstractStringBuilder" prog_17_method_22_code 3 := ⟨hx, hb, hml, hown, hts, hK, hCS, hA⟩
  have hl : lv_has lsA 3 [(0, .ref b), (1, .ref a0)] := hl
  have hZm : bMv A (zS A a0 b0 t0) := zS_mv
  refine lv_aload_n hx hb (by decide +kernel : decode prog_17_method_22_code 0 = .ok (.aload_n 1, 1)) rfl (lv_at hl 1 rfl) ?_
  refine lv_ifnonnull hx hb (by decide +kernel : decode prog_17_method_22_code 1 = .ok (.ifnonnull 8, 3)) (tgt := 9) rfl ?_
  refine lv_aload_n hx hb (by decide +kernel : decode prog_17_method_22_code 9 = .ok (.aload_n 1, 1)) rfl (lv_at hl 1 rfl) ?_
  refine bcallV (C := "java/lang/String") (vs := []) (rest := []) (n := 0) X hZm hS (hZm _ _ _ _ (al_refl s) hS.2.1 hZ) hP hD (zS_rc hZ hS) (bMt_of (by decide) (Nat.le_of_ble_eq_true rfl) (bB_slen )) (jw (j := 1051) rfl rfl : Cond.code ⟨"java/lang/String", "length", "()I"⟩ prog_32_method_54_code 1 (some .int) ∈ ewL4) (jw (j := 1390) rfl rfl : Cond.methodLink "java/lang/AbstractStringBuilder" 32 ⟨"java/lang/String", "length", "()I"⟩ ∈ ewL4) (jw (j := 1049) rfl rfl : Cond.instanceMethod ⟨"java/lang/String", "length", "()I"⟩ ∈ ewL4) (jw (j := 1050) rfl rfl : Cond.selects "java/lang/String" ⟨"java/lang/String", "length", "()I"⟩ ⟨"java/lang/String", "length", "()I"⟩ ∈ ewL4) (jw (j := 23) rfl rfl : Cond.initialized "java/lang/String" ∈ ewL4) ⟨⟨by decide, by decide⟩, by decide +kernel⟩ rfl ⟨by omega, by omega⟩ ⟨by omega, by omega⟩ hl.1 (by simp [Value.category]) rfl (by decide +kernel : decode prog_17_method_22_code 10 = .ok (.invokevirtual 32, 3)) (fun v9 H1 locs1 hpost hS9 hz hk => ?_)
  obtain ⟨rfl, rfl⟩ := hpost
  have hS := hS9
  clear hS9
  refine lv_istore_n hx hb (by decide +kernel : decode prog_17_method_22_code 13 = .ok (.istore_n 2, 1)) rfl hl (by omega) rfl (fun lsA hl => ?_)
  have hl : lv_has lsA 3 [(2, .int (nI t0.length)), (0, .ref b), (1, .ref a0)] := hl
  refine lv_aload_n hx hb (by decide +kernel : decode prog_17_method_22_code 14 = .ok (.aload_n 0, 1)) rfl (lv_at hl 1 rfl) ?_
  refine lv_aload_n hx hb (by decide +kernel : decode prog_17_method_22_code 15 = .ok (.aload_n 0, 1)) rfl (lv_at hl 1 rfl) ?_
  refine va_get (Ts := ewL4) (C := "java/lang/StringBuilder") (T := bT0) (N := 4) (ci := 0) hx hb hts bin0 hown hK hP 0 rfl rfl 3 (by decide) (hts (.fieldLink "java/lang/AbstractStringBuilder" 79 "java/lang/AbstractStringBuilder" "count" "I") (jw (j := 1318) rfl rfl)) (fun _ h => h) rfl (by decide +kernel : decode prog_17_method_22_code 16 = .ok (.getfield 79, 3)) ?_
  refine lv_iload_n hx hb (by decide +kernel : decode prog_17_method_22_code 19 = .ok (.iload_n 2, 1)) rfl (lv_at hl 0 rfl) ?_
  refine lv_iadd hx hb (by decide +kernel : decode prog_17_method_22_code 20 = .ok (.iadd, 1)) ?_
  rw [Int32.zero_add]
  refine bcallU (owner := "java/lang/AbstractStringBuilder") (x := ⟨"java/lang/AbstractStringBuilder", "ensureCapacityInternal", "(I)V"⟩) (vs := [.int (Int32.ofNat t0.length)]) (rest := []) (n := 1) X hZm hS (hZm _ _ _ _ (al_refl s) hS.2.1 hZ) hP hD (q0 := 0) rfl (bMt_of (by decide) (Nat.le_of_ble_eq_true rfl) (bB_ens hZm (by omega) hf (Or.inl rfl))) (jw (j := 1342) rfl rfl : Cond.code ⟨"java/lang/AbstractStringBuilder", "ensureCapacityInternal", "(I)V"⟩ prog_17_method_9_code 3 none ∈ ewL4) (jw (j := 1339) rfl rfl : Cond.methodLink "java/lang/AbstractStringBuilder" 100 ⟨"java/lang/AbstractStringBuilder", "ensureCapacityInternal", "(I)V"⟩ ∈ ewL4) (jw (j := 1562) rfl rfl : Cond.sameMethod "java/lang/AbstractStringBuilder" "java/lang/AbstractStringBuilder" "ensureCapacityInternal" "(I)V" ∈ ewL4) (va_Decl.of (hts _ (jw (j := 1341) rfl rfl : Cond.instanceMethod ⟨"java/lang/AbstractStringBuilder", "ensureCapacityInternal", "(I)V"⟩ ∈ ewL4)) (hts _ (jw (j := 1342) rfl rfl : Cond.code ⟨"java/lang/AbstractStringBuilder", "ensureCapacityInternal", "(I)V"⟩ prog_17_method_9_code 3 none ∈ ewL4))) (bSelP (hK.1 0 _ rfl).2.1 (hts _ (jw (j := 1562) rfl rfl : Cond.sameMethod "java/lang/AbstractStringBuilder" "java/lang/AbstractStringBuilder" "ensureCapacityInternal" "(I)V" ∈ ewL4)) (hts _ (jw (j := 1341) rfl rfl : Cond.instanceMethod ⟨"java/lang/AbstractStringBuilder", "ensureCapacityInternal", "(I)V"⟩ ∈ ewL4)) (hts _ (jw (j := 1340) rfl rfl : Cond.privateMethod ⟨"java/lang/AbstractStringBuilder", "ensureCapacityInternal", "(I)V"⟩ ∈ ewL4))) (jw (j := 1341) rfl rfl : Cond.instanceMethod ⟨"java/lang/AbstractStringBuilder", "ensureCapacityInternal", "(I)V"⟩ ∈ ewL4) (jw (j := 29) rfl rfl : Cond.initialized "java/lang/AbstractStringBuilder" ∈ ewL4) ⟨⟨by decide, by decide⟩, by decide +kernel⟩ rfl ⟨by omega, by omega⟩ ⟨by omega, by omega⟩ hl.1 (by simp [Value.category]) rfl (by decide +kernel : decode prog_17_method_22_code 21 = .ok (.invokevirtual 100, 3)) (fun v9 H1 locs1 hpost hS9 hz hk => ?_)
  obtain ⟨rfl, d2, cap2, f2, hcap, hqc, hf2, hc16, -, hP, hD⟩ := hpost
  have hS := hS9
  clear hS9
  refine lv_aload_n hx hb (by decide +kernel : decode prog_17_method_22_code 24 = .ok (.aload_n 0, 1)) rfl (lv_at hl 1 rfl) ?_
  refine lv_aload_n hx hb (by decide +kernel : decode prog_17_method_22_code 25 = .ok (.aload_n 0, 1)) rfl (lv_at hl 1 rfl) ?_
  refine va_get (Ts := ewL4) (C := "java/lang/StringBuilder") (T := bT0) (N := 4) (ci := 0) hx hb hts bin0 hown hK hP 0 rfl rfl 3 (by decide) (hts (.fieldLink "java/lang/AbstractStringBuilder" 79 "java/lang/AbstractStringBuilder" "count" "I") (jw (j := 1318) rfl rfl)) (fun _ h => h) rfl (by decide +kernel : decode prog_17_method_22_code 26 = .ok (.getfield 79, 3)) ?_
  refine lv_aload_n hx hb (by decide +kernel : decode prog_17_method_22_code 29 = .ok (.aload_n 1, 1)) rfl (lv_at hl 2 rfl) ?_
  refine bcallU (owner := "java/lang/AbstractStringBuilder") (x := ⟨"java/lang/AbstractStringBuilder", "putStringAt", "(ILjava/lang/String;)V"⟩) (vs := [.int (nI 0), .ref a0]) (rest := []) (n := 2) X hZm hS (hZm _ _ _ _ (al_refl s) hS.2.1 hZ) hP hD (q0 := 0) rfl (bMt_of (by decide) (Nat.le_of_ble_eq_true rfl) (bB_putS (n := 0) htl htc (by omega) (by omega))) (jw (j := 1394) rfl rfl : Cond.code ⟨"java/lang/AbstractStringBuilder", "putStringAt", "(ILjava/lang/String;)V"⟩ prog_17_method_73_code 3 none ∈ ewL4) (jw (j := 1391) rfl rfl : Cond.methodLink "java/lang/AbstractStringBuilder" 208 ⟨"java/lang/AbstractStringBuilder", "putStringAt", "(ILjava/lang/String;)V"⟩ ∈ ewL4) (jw (j := 1564) rfl rfl : Cond.sameMethod "java/lang/AbstractStringBuilder" "java/lang/AbstractStringBuilder" "putStringAt" "(ILjava/lang/String;)V" ∈ ewL4) (va_Decl.of (hts _ (jw (j := 1393) rfl rfl : Cond.instanceMethod ⟨"java/lang/AbstractStringBuilder", "putStringAt", "(ILjava/lang/String;)V"⟩ ∈ ewL4)) (hts _ (jw (j := 1394) rfl rfl : Cond.code ⟨"java/lang/AbstractStringBuilder", "putStringAt", "(ILjava/lang/String;)V"⟩ prog_17_method_73_code 3 none ∈ ewL4))) (bSelP (hK.1 0 _ rfl).2.1 (hts _ (jw (j := 1564) rfl rfl : Cond.sameMethod "java/lang/AbstractStringBuilder" "java/lang/AbstractStringBuilder" "putStringAt" "(ILjava/lang/String;)V" ∈ ewL4)) (hts _ (jw (j := 1393) rfl rfl : Cond.instanceMethod ⟨"java/lang/AbstractStringBuilder", "putStringAt", "(ILjava/lang/String;)V"⟩ ∈ ewL4)) (hts _ (jw (j := 1392) rfl rfl : Cond.privateMethod ⟨"java/lang/AbstractStringBuilder", "putStringAt", "(ILjava/lang/String;)V"⟩ ∈ ewL4))) (jw (j := 1393) rfl rfl : Cond.instanceMethod ⟨"java/lang/AbstractStringBuilder", "putStringAt", "(ILjava/lang/String;)V"⟩ ∈ ewL4) (jw (j := 29) rfl rfl : Cond.initialized "java/lang/AbstractStringBuilder" ∈ ewL4) ⟨⟨by decide, by decide⟩, by decide +kernel⟩ rfl ⟨by omega, by omega⟩ ⟨by omega, by omega⟩ hl.1 (by simp [Value.category]) rfl (by decide +kernel : decode prog_17_method_22_code 30 = .ok (.invokevirtual 208, 3)) (fun v9 H1 locs1 hpost hS9 hz hk => ?_)
  obtain ⟨rfl, hP, hD⟩ := hpost
  have hS := hS9
  clear hS9
  refine lv_aload_n hx hb (by decide +kernel : decode prog_17_method_22_code 33 = .ok (.aload_n 0, 1)) rfl (lv_at hl 1 rfl) ?_
  refine lv_dup hx hb (by decide +kernel : decode prog_17_method_22_code 34 = .ok (.dup, 1)) rfl ?_
  refine va_get (Ts := ewL4) (C := "java/lang/StringBuilder") (T := bT0) (N := 4) (ci := 0) hx hb hts bin0 hown hK hP 0 rfl rfl 3 (by decide) (hts (.fieldLink "java/lang/AbstractStringBuilder" 79 "java/lang/AbstractStringBuilder" "count" "I") (jw (j := 1318) rfl rfl)) (fun _ h => h) rfl (by decide +kernel : decode prog_17_method_22_code 35 = .ok (.getfield 79, 3)) ?_
  refine lv_iload_n hx hb (by decide +kernel : decode prog_17_method_22_code 38 = .ok (.iload_n 2, 1)) rfl (lv_at hl 0 rfl) ?_
  refine lv_iadd hx hb (by decide +kernel : decode prog_17_method_22_code 39 = .ok (.iadd, 1)) ?_
  rw [Int32.zero_add]
  refine va_put (Ts := ewL4) (C := "java/lang/StringBuilder") (T := bT0) (N := 4) (ci := 0) (v := .int (nI t0.length)) (ty := bY0 3) hx hb hts bin0 bY0 bY0_ok bN0_ok hown hK hP hD hS 0 rfl rfl 3 (by decide) (hts (.fieldLink "java/lang/AbstractStringBuilder" 79 "java/lang/AbstractStringBuilder" "count" "I") (jw (j := 1318) rfl rfl)) (fun _ h => h) rfl (bY0_ok 3 (by decide)) rfl rfl (Nat.le_of_ble_eq_true rfl) (by decide +kernel : decode prog_17_method_22_code 40 = .ok (.putfield 79, 3)) (fun H1 locs1 hP hD hS => ?_)
  have hP : va_P D2 bCl [(b, .inr (0, [.ref d2, .int 0, .int ml, .int (nI t0.length)])), (d2, .inl (cB, cap2, .inl (va_cpy (fun j => Int32.ofInt (t0.getD j 0)) f2 0 0 t0.length)))] _ := hP
  have hD : va_D A [(b, .inr (0, [.ref d2, .int 0, .int ml, .int (nI t0.length)])), (d2, .inl (cB, cap2, .inl (va_cpy (fun j => Int32.ofInt (t0.getD j 0)) f2 0 0 t0.length)))] := hD
  refine lv_aload_n hx hb (by decide +kernel : decode prog_17_method_22_code 43 = .ok (.aload_n 0, 1)) rfl (lv_at hl 1 rfl) ?_
  exact vx_ret (W.widen (by omega) (by omega) (W.aret hx hb hr (Or.inl ⟨_, rfl⟩) (Or.inr ⟨_, rfl⟩) (fun t ht hW => ⟨⟨_, rfl, ⟨rfl, d2, cap2, _, hcap, hqc, bfit_cpy (fun j => bfit_t htc j) hf2, fun j hj => sb_cpy0 hj, by rw [ht]; exact hP, hD⟩⟩, hS.F ht⟩) hS.2.2 (by decide +kernel : decode prog_17_method_22_code 44 = .ok (.areturn, 1)) hlk))
set_option maxHeartbeats 1000000 in
theorem bB_bS {a0 b0 : Nat} {t0 : List Int} {b d : Nat} {ml : Int32} {f : Nat → Int32} (htl : t0.length ≤ 21) (htc : ∀ y ∈ t0, 0 ≤ y ∧ y < 128) (hf : bFit f) : bBd A D2 cB l ⟨"java/lang/StringBuilder", "append", "(Ljava/lang/String;)Ljava/lang/StringBuilder;"⟩ prog_33_method_7_code 2 (some (.object "java/lang/StringBuilder")) 5 1 34 (zS A a0 b0 t0) [(b, .inr (0, [.ref d, .int 0, .int ml, .int 0])), (d, .inl (cB, 16, .inl f))] [.ref b, .ref a0] (fun v9 H9 H1 => v9 = some (.ref b) ∧ ∃ (d' cap' : Nat) (f' : Nat → Int32), (cap' = 16 ∨ cap' = 34) ∧ t0.length ≤ cap' ∧ bFit f' ∧ (∀ j, j < t0.length → f' j = Int32.ofInt (t0.getD j 0)) ∧ va_P D2 bCl (bW cB b d' ml (nI t0.length) cap' f') H1 ∧ va_D A (bW cB b d' ml (nI t0.length) cap' f')) := by
  rintro p e R s mI args below meth c lsA ⟨hx, hb, hr, hml, hown, hlk, hnm, hI, hZ, hP, hD⟩ hRf hRl hRc hRs hl
  obtain ⟨hN, hK, hCS, hA⟩ := hI
  have hts := fun w hw => hN w hw args
  have hS : va_S A s.heap s.heap [] := ⟨Nat.le_refl _, fun _ _ _ => rfl, fun _ h => absurd h List.not_mem_nil⟩
  have X : bCt A D2 cB p s mI args c "java/lang/StringBuilder" prog_33_method_7_code 2 := ⟨hx, hb, hml, hown, hts, hK, hCS, hA⟩
  have hl : lv_has lsA 2 [(0, .ref b), (1, .ref a0)] := hl
  have hZm : bMv A (zS A a0 b0 t0) := zS_mv
  refine lv_aload_n hx hb (by decide +kernel : decode prog_33_method_7_code 0 = .ok (.aload_n 0, 1)) rfl (lv_at hl 0 rfl) ?_
  refine lv_aload_n hx hb (by decide +kernel : decode prog_33_method_7_code 1 = .ok (.aload_n 1, 1)) rfl (lv_at hl 1 rfl) ?_
  refine bcallSU (vs := [.ref a0]) (rest := []) (n := 1) X hZm hS (hZm _ _ _ _ (al_refl s) hS.2.1 hZ) hP hD (q0 := 0) rfl (bMt_of (by decide) (Nat.le_of_ble_eq_true rfl) (bB_aS htl htc hf)) (jw (j := 1334) rfl rfl : Cond.code ⟨"java/lang/AbstractStringBuilder", "append", "(Ljava/lang/String;)Ljava/lang/AbstractStringBuilder;"⟩ prog_17_method_22_code 3 (some (.object "java/lang/AbstractStringBuilder")) ∈ ewL4) (jw (j := 1332) rfl rfl : Cond.methodLink "java/lang/StringBuilder" 29 ⟨"java/lang/AbstractStringBuilder", "append", "(Ljava/lang/String;)Ljava/lang/AbstractStringBuilder;"⟩ ∈ ewL4) (jw (j := 1560) rfl rfl : Cond.sameMethod "java/lang/AbstractStringBuilder" "java/lang/AbstractStringBuilder" "append" "(Ljava/lang/String;)Ljava/lang/AbstractStringBuilder;" ∈ ewL4) (jw (j := 1327) rfl rfl : Cond.superclass "java/lang/StringBuilder" "java/lang/AbstractStringBuilder" ∈ ewL4) (jw (j := 1333) rfl rfl : Cond.instanceMethod ⟨"java/lang/AbstractStringBuilder", "append", "(Ljava/lang/String;)Ljava/lang/AbstractStringBuilder;"⟩ ∈ ewL4) (jw (j := 29) rfl rfl : Cond.initialized "java/lang/AbstractStringBuilder" ∈ ewL4) ⟨by decide, by decide +kernel⟩ rfl ⟨by omega, by omega⟩ ⟨by omega, by omega⟩ hl.1 (by simp [Value.category]) rfl (by decide +kernel : decode prog_33_method_7_code 2 = .ok (.invokespecial 29, 3)) (fun v9 H1 locs1 hpost hS9 hz hk => ?_)
  obtain ⟨rfl, d2, cap2, f2, g1, g2, g3, g4, hP, hD⟩ := hpost
  have hS := hS9
  clear hS9
  refine lv_pop hx hb (by decide +kernel : decode prog_33_method_7_code 5 = .ok (.pop, 1)) rfl ?_
  refine lv_aload_n hx hb (by decide +kernel : decode prog_33_method_7_code 6 = .ok (.aload_n 0, 1)) rfl (lv_at hl 0 rfl) ?_
  exact vx_ret (W.widen (by omega) (by omega) (W.aret hx hb hr (Or.inl ⟨_, rfl⟩) (Or.inr ⟨_, rfl⟩) (fun t ht hW => ⟨⟨_, rfl, ⟨rfl, d2, cap2, f2, g1, g2, g3, g4, by rw [ht]; exact hP, hD⟩⟩, hS.F ht⟩) hS.2.2 (by decide +kernel : decode prog_33_method_7_code 7 = .ok (.areturn, 1)) hlk))
set_option maxHeartbeats 1000000 in
theorem bB_aC {Z : State → Heap → Prop} (hZm : bMv A Z) {b d cap n : Nat} {ml x : Int32} {f : Nat → Int32} (hn : n < 21) (hnc : n ≤ cap) (hcap : cap = 16 ∨ cap = 34) (hf : bFit f) (hx9 : ¬ 255 < x) (hx8 : x.toInt8.toInt32 = x) (hxf : fits .byte (.int x) = true) : bBd A D2 cB l ⟨"java/lang/AbstractStringBuilder", "append", "(C)Ljava/lang/AbstractStringBuilder;"⟩ prog_17_method_31_code 2 (some (.object "java/lang/AbstractStringBuilder")) 4 1 34 Z [(b, .inr (0, [.ref d, .int 0, .int ml, .int (nI n)])), (d, .inl (cB, cap, .inl f))] [.ref b, .int x] (fun v9 H9 H1 => v9 = some (.ref b) ∧ ∃ (d' cap' : Nat) (f' : Nat → Int32), (cap' = 16 ∨ cap' = 34) ∧ n + 1 ≤ cap' ∧ bFit f' ∧ (∀ j, j < n → f' j = f j) ∧ f' n = x ∧ va_P D2 bCl (bW cB b d' ml (nI (n + 1)) cap' f') H1 ∧ va_D A (bW cB b d' ml (nI (n + 1)) cap' f')) := by
  rintro p e R s mI args below meth c lsA ⟨hx, hb, hr, hml, hown, hlk, hnm, hI, hZ, hP, hD⟩ hRf hRl hRc hRs hl
  obtain ⟨hN, hK, hCS, hA⟩ := hI
  have hts := fun w hw => hN w hw args
  have hS : va_S A s.heap s.heap [] := ⟨Nat.le_refl _, fun _ _ _ => rfl, fun _ h => absurd h List.not_mem_nil⟩
  have X : bCt A D2 cB p s mI args c "java/lang/AbstractStringBuilder" prog_17_method_31_code 2 := ⟨hx, hb, hml, hown, hts, hK, hCS, hA⟩
  have hl : lv_has lsA 2 [(0, .ref b), (1, .int x)] := hl
  refine lv_aload_n hx hb (by decide +kernel : decode prog_17_method_31_code 0 = .ok (.aload_n 0, 1)) rfl (lv_at hl 0 rfl) ?_
  refine lv_aload_n hx hb (by decide +kernel : decode prog_17_method_31_code 1 = .ok (.aload_n 0, 1)) rfl (lv_at hl 0 rfl) ?_
  refine va_get (Ts := ewL4) (C := "java/lang/StringBuilder") (T := bT0) (N := 4) (ci := 0) hx hb hts bin0 hown hK hP 0 rfl rfl 3 (by decide) (hts (.fieldLink "java/lang/AbstractStringBuilder" 79 "java/lang/AbstractStringBuilder" "count" "I") (jw (j := 1318) rfl rfl)) (fun _ h => h) rfl (by decide +kernel : decode prog_17_method_31_code 2 = .ok (.getfield 79, 3)) ?_
  refine lv_iconst hx hb (by decide +kernel : decode prog_17_method_31_code 5 = .ok (.iconst 1, 1)) (v := 1) rfl ?_
  refine lv_iadd hx hb (by decide +kernel : decode prog_17_method_31_code 6 = .ok (.iadd, 1)) ?_
  rw [nI_1]
  refine bcallU (owner := "java/lang/AbstractStringBuilder") (x := ⟨"java/lang/AbstractStringBuilder", "ensureCapacityInternal", "(I)V"⟩) (vs := [.int (Int32.ofNat (n + 1))]) (rest := []) (n := 1) X hZm hS (hZm _ _ _ _ (al_refl s) hS.2.1 hZ) hP hD (q0 := 0) rfl (bMt_of (by decide) (Nat.le_of_ble_eq_true rfl) (bB_ens hZm (by omega) hf hcap)) (jw (j := 1342) rfl rfl : Cond.code ⟨"java/lang/AbstractStringBuilder", "ensureCapacityInternal", "(I)V"⟩ prog_17_method_9_code 3 none ∈ ewL4) (jw (j := 1339) rfl rfl : Cond.methodLink "java/lang/AbstractStringBuilder" 100 ⟨"java/lang/AbstractStringBuilder", "ensureCapacityInternal", "(I)V"⟩ ∈ ewL4) (jw (j := 1562) rfl rfl : Cond.sameMethod "java/lang/AbstractStringBuilder" "java/lang/AbstractStringBuilder" "ensureCapacityInternal" "(I)V" ∈ ewL4) (va_Decl.of (hts _ (jw (j := 1341) rfl rfl : Cond.instanceMethod ⟨"java/lang/AbstractStringBuilder", "ensureCapacityInternal", "(I)V"⟩ ∈ ewL4)) (hts _ (jw (j := 1342) rfl rfl : Cond.code ⟨"java/lang/AbstractStringBuilder", "ensureCapacityInternal", "(I)V"⟩ prog_17_method_9_code 3 none ∈ ewL4))) (bSelP (hK.1 0 _ rfl).2.1 (hts _ (jw (j := 1562) rfl rfl : Cond.sameMethod "java/lang/AbstractStringBuilder" "java/lang/AbstractStringBuilder" "ensureCapacityInternal" "(I)V" ∈ ewL4)) (hts _ (jw (j := 1341) rfl rfl : Cond.instanceMethod ⟨"java/lang/AbstractStringBuilder", "ensureCapacityInternal", "(I)V"⟩ ∈ ewL4)) (hts _ (jw (j := 1340) rfl rfl : Cond.privateMethod ⟨"java/lang/AbstractStringBuilder", "ensureCapacityInternal", "(I)V"⟩ ∈ ewL4))) (jw (j := 1341) rfl rfl : Cond.instanceMethod ⟨"java/lang/AbstractStringBuilder", "ensureCapacityInternal", "(I)V"⟩ ∈ ewL4) (jw (j := 29) rfl rfl : Cond.initialized "java/lang/AbstractStringBuilder" ∈ ewL4) ⟨⟨by decide, by decide⟩, by decide +kernel⟩ rfl ⟨by omega, by omega⟩ ⟨by omega, by omega⟩ hl.1 (by simp [Value.category]) rfl (by decide +kernel : decode prog_17_method_31_code 7 = .ok (.invokevirtual 100, 3)) (fun v9 H1 locs1 hpost hS9 hz hk => ?_)
  obtain ⟨rfl, d2, cap2, f2, hcap2, hqc, hf2, hc16, hc34, hP, hD⟩ := hpost
  have hS := hS9
  clear hS9
  refine lv_aload_n hx hb (by decide +kernel : decode prog_17_method_31_code 10 = .ok (.aload_n 0, 1)) rfl (lv_at hl 0 rfl) ?_
  refine bcallU (owner := "java/lang/AbstractStringBuilder") (x := ⟨"java/lang/AbstractStringBuilder", "isLatin1", "()Z"⟩) (vs := []) (rest := []) (n := 0) X hZm hS (hZm _ _ _ _ (al_refl s) hS.2.1 hZ) hP hD (q0 := 0) rfl (bMt_of (by decide) (Nat.le_of_ble_eq_true rfl) (bB_lat1 hZm rfl)) (jw (j := 1374) rfl rfl : Cond.code ⟨"java/lang/AbstractStringBuilder", "isLatin1", "()Z"⟩ prog_17_method_68_code 1 (some .boolean) ∈ ewL4) (jw (j := 1370) rfl rfl : Cond.methodLink "java/lang/AbstractStringBuilder" 83 ⟨"java/lang/AbstractStringBuilder", "isLatin1", "()Z"⟩ ∈ ewL4) (jw (j := 1372) rfl rfl : Cond.sameMethod "java/lang/AbstractStringBuilder" "java/lang/AbstractStringBuilder" "isLatin1" "()Z" ∈ ewL4) (va_Decl.of (hts _ (jw (j := 1371) rfl rfl : Cond.instanceMethod ⟨"java/lang/AbstractStringBuilder", "isLatin1", "()Z"⟩ ∈ ewL4)) (hts _ (jw (j := 1374) rfl rfl : Cond.code ⟨"java/lang/AbstractStringBuilder", "isLatin1", "()Z"⟩ prog_17_method_68_code 1 (some .boolean) ∈ ewL4))) (hts _ (jw (j := 1373) rfl rfl : Cond.selects "java/lang/StringBuilder" ⟨"java/lang/AbstractStringBuilder", "isLatin1", "()Z"⟩ ⟨"java/lang/AbstractStringBuilder", "isLatin1", "()Z"⟩ ∈ ewL4)) (jw (j := 1371) rfl rfl : Cond.instanceMethod ⟨"java/lang/AbstractStringBuilder", "isLatin1", "()Z"⟩ ∈ ewL4) (jw (j := 29) rfl rfl : Cond.initialized "java/lang/AbstractStringBuilder" ∈ ewL4) ⟨⟨by decide, by decide⟩, by decide +kernel⟩ rfl ⟨by omega, by omega⟩ ⟨by omega, by omega⟩ hl.1 (by simp [Value.category]) rfl (by decide +kernel : decode prog_17_method_31_code 11 = .ok (.invokevirtual 83, 3)) (fun v9 H1 locs1 hpost hS9 hz hk => ?_)
  obtain ⟨rfl, rfl⟩ := hpost
  have hS := hS9
  clear hS9
  refine lv_if_eq hx hb (by decide +kernel : decode prog_17_method_31_code 14 = .ok (.ifCond .eq 31, 3)) (tgt := 45) rfl (fun h => absurd h (by decide)) (fun _ => ?_)
  refine lv_iload_n hx hb (by decide +kernel : decode prog_17_method_31_code 17 = .ok (.iload_n 1, 1)) rfl (lv_at hl 1 rfl) ?_
  refine bcallS (vs := [.int x]) (rest := []) (n := 1) X hZm hS (hZm _ _ _ _ (al_refl s) hS.2.1 hZ) hP hD (bMt_of (by decide) (Nat.le_of_ble_eq_true rfl) (bB_canEnc hZm hx9)) (jw (j := 1441) rfl rfl : Cond.code ⟨"java/lang/StringLatin1", "canEncode", "(C)Z"⟩ prog_34_method_3_code 1 (some .boolean) ∈ ewL4) (jw (j := 1439) rfl rfl : Cond.methodLink "java/lang/AbstractStringBuilder" 191 ⟨"java/lang/StringLatin1", "canEncode", "(C)Z"⟩ ∈ ewL4) (jw (j := 1440) rfl rfl : Cond.static ⟨"java/lang/StringLatin1", "canEncode", "(C)Z"⟩ ∈ ewL4) (jw (j := 25) rfl rfl : Cond.initialized "java/lang/StringLatin1" ∈ ewL4) ⟨⟨by decide, by decide⟩, by decide +kernel⟩ rfl ⟨by omega, by omega⟩ ⟨by omega, by omega⟩ hl.1 (by simp [Value.category]) rfl (by decide +kernel : decode prog_17_method_31_code 18 = .ok (.invokestatic 191, 3)) (fun v9 H1 locs1 hpost hS9 hz hk => ?_)
  obtain ⟨rfl, rfl⟩ := hpost
  have hS := hS9
  clear hS9
  refine lv_if_eq hx hb (by decide +kernel : decode prog_17_method_31_code 21 = .ok (.ifCond .eq 24, 3)) (tgt := 45) rfl (fun h => absurd h (by decide)) (fun _ => ?_)
  refine lv_aload_n hx hb (by decide +kernel : decode prog_17_method_31_code 24 = .ok (.aload_n 0, 1)) rfl (lv_at hl 0 rfl) ?_
  refine va_get (Ts := ewL4) (C := "java/lang/StringBuilder") (T := bT0) (N := 4) (ci := 0) hx hb hts bin0 hown hK hP 0 rfl rfl 0 (by decide) (hts (.fieldLink "java/lang/AbstractStringBuilder" 15 "java/lang/AbstractStringBuilder" "value" "[B") (jw (j := 1315) rfl rfl)) (fun _ h => h) rfl (by decide +kernel : decode prog_17_method_31_code 25 = .ok (.getfield 15, 3)) ?_
  refine lv_aload_n hx hb (by decide +kernel : decode prog_17_method_31_code 28 = .ok (.aload_n 0, 1)) rfl (lv_at hl 0 rfl) ?_
  refine lv_dup hx hb (by decide +kernel : decode prog_17_method_31_code 29 = .ok (.dup, 1)) rfl ?_
  refine va_get (Ts := ewL4) (C := "java/lang/StringBuilder") (T := bT0) (N := 4) (ci := 0) hx hb hts bin0 hown hK hP 0 rfl rfl 3 (by decide) (hts (.fieldLink "java/lang/AbstractStringBuilder" 79 "java/lang/AbstractStringBuilder" "count" "I") (jw (j := 1318) rfl rfl)) (fun _ h => h) rfl (by decide +kernel : decode prog_17_method_31_code 30 = .ok (.getfield 79, 3)) ?_
  refine lv_dup_x1 hx hb (by decide +kernel : decode prog_17_method_31_code 33 = .ok (.dup_x1, 1)) rfl rfl ?_
  refine lv_iconst hx hb (by decide +kernel : decode prog_17_method_31_code 34 = .ok (.iconst 1, 1)) (v := 1) rfl ?_
  refine lv_iadd hx hb (by decide +kernel : decode prog_17_method_31_code 35 = .ok (.iadd, 1)) ?_
  rw [nI_1]
  refine va_put (Ts := ewL4) (C := "java/lang/StringBuilder") (T := bT0) (N := 4) (ci := 0) (v := .int (nI (n + 1))) (ty := bY0 3) hx hb hts bin0 bY0 bY0_ok bN0_ok hown hK hP hD hS 0 rfl rfl 3 (by decide) (hts (.fieldLink "java/lang/AbstractStringBuilder" 79 "java/lang/AbstractStringBuilder" "count" "I") (jw (j := 1318) rfl rfl)) (fun _ h => h) rfl (bY0_ok 3 (by decide)) rfl rfl (Nat.le_of_ble_eq_true rfl) (by decide +kernel : decode prog_17_method_31_code 36 = .ok (.putfield 79, 3)) (fun H1 locs1 hP hD hS => ?_)
  have hP : va_P D2 bCl [(b, .inr (0, [.ref d2, .int 0, .int ml, .int (nI (n + 1))])), (d2, .inl (cB, cap2, .inl f2))] _ := hP
  have hD : va_D A [(b, .inr (0, [.ref d2, .int 0, .int ml, .int (nI (n + 1))])), (d2, .inl (cB, cap2, .inl f2))] := hD
  refine lv_iload_n hx hb (by decide +kernel : decode prog_17_method_31_code 39 = .ok (.iload_n 1, 1)) rfl (lv_at hl 1 rfl) ?_
  refine lv_i2b hx hb (by decide +kernel : decode prog_17_method_31_code 40 = .ok (.i2b, 1)) hx8 ?_
  refine va_bast hx hb hK hP hD hS 1 0 rfl rfl (vp_in_nI (by omega) (by omega)) (by decide +kernel : decode prog_17_method_31_code 41 = .ok (.bastore, 1)) (fun H1 locs1 hP hD hS => ?_)
  rw [nI_clamp (n := n) (by omega), show vp_nar .byte x = x from hx8] at hP hD
  have hP : va_P D2 bCl [(b, .inr (0, [.ref d2, .int 0, .int ml, .int (nI (n + 1))])), (d2, .inl (cB, cap2, .inl (upd f2 n x)))] _ := hP
  have hD : va_D A [(b, .inr (0, [.ref d2, .int 0, .int ml, .int (nI (n + 1))])), (d2, .inl (cB, cap2, .inl (upd f2 n x)))] := hD
  refine lv_goto hx hb (by decide +kernel : decode prog_17_method_31_code 42 = .ok (.goto 33, 3)) (tgt := 75) rfl ?_
  refine lv_aload_n hx hb (by decide +kernel : decode prog_17_method_31_code 75 = .ok (.aload_n 0, 1)) rfl (lv_at hl 0 rfl) ?_
  have hkeep : ∀ j, j < n → upd f2 n x j = f j := by
    intro j hj
    rw [show upd f2 n x j = f2 j from if_neg (by omega)]
    rcases hcap with h9 | h9
    · exact hc16 j (by omega)
    · exact hc34 h9 j
  have hfit : bFit (upd f2 n x) := by
    intro j
    unfold upd
    split
    · exact hxf
    · exact hf2 j
  exact vx_ret (W.widen (by omega) (by omega) (W.aret hx hb hr (Or.inl ⟨_, rfl⟩) (Or.inr ⟨_, rfl⟩) (fun t ht hW => ⟨⟨_, rfl, ⟨rfl, d2, cap2, _, hcap2, hqc, hfit, hkeep, if_pos rfl, by rw [ht]; exact hP, hD⟩⟩, hS.F ht⟩) hS.2.2 (by decide +kernel : decode prog_17_method_31_code 76 = .ok (.areturn, 1)) hlk))
set_option maxHeartbeats 1000000 in
theorem bB_bC {Z : State → Heap → Prop} (hZm : bMv A Z) {b d cap n : Nat} {ml x : Int32} {f : Nat → Int32} (hn : n < 21) (hnc : n ≤ cap) (hcap : cap = 16 ∨ cap = 34) (hf : bFit f) (hx9 : ¬ 255 < x) (hx8 : x.toInt8.toInt32 = x) (hxf : fits .byte (.int x) = true) : bBd A D2 cB l ⟨"java/lang/StringBuilder", "append", "(C)Ljava/lang/StringBuilder;"⟩ prog_33_method_14_code 2 (some (.object "java/lang/StringBuilder")) 5 1 34 Z [(b, .inr (0, [.ref d, .int 0, .int ml, .int (nI n)])), (d, .inl (cB, cap, .inl f))] [.ref b, .int x] (fun v9 H9 H1 => v9 = some (.ref b) ∧ ∃ (d' cap' : Nat) (f' : Nat → Int32), (cap' = 16 ∨ cap' = 34) ∧ n + 1 ≤ cap' ∧ bFit f' ∧ (∀ j, j < n → f' j = f j) ∧ f' n = x ∧ va_P D2 bCl (bW cB b d' ml (nI (n + 1)) cap' f') H1 ∧ va_D A (bW cB b d' ml (nI (n + 1)) cap' f')) := by
  rintro p e R s mI args below meth c lsA ⟨hx, hb, hr, hml, hown, hlk, hnm, hI, hZ, hP, hD⟩ hRf hRl hRc hRs hl
  obtain ⟨hN, hK, hCS, hA⟩ := hI
  have hts := fun w hw => hN w hw args
  have hS : va_S A s.heap s.heap [] := ⟨Nat.le_refl _, fun _ _ _ => rfl, fun _ h => absurd h List.not_mem_nil⟩
  have X : bCt A D2 cB p s mI args c "java/lang/StringBuilder" prog_33_method_14_code 2 := ⟨hx, hb, hml, hown, hts, hK, hCS, hA⟩
  have hl : lv_has lsA 2 [(0, .ref b), (1, .int x)] := hl
  refine lv_aload_n hx hb (by decide +kernel : decode prog_33_method_14_code 0 = .ok (.aload_n 0, 1)) rfl (lv_at hl 0 rfl) ?_
  refine lv_iload_n hx hb (by decide +kernel : decode prog_33_method_14_code 1 = .ok (.iload_n 1, 1)) rfl (lv_at hl 1 rfl) ?_
  refine bcallSU (vs := [.int x]) (rest := []) (n := 1) X hZm hS (hZm _ _ _ _ (al_refl s) hS.2.1 hZ) hP hD (q0 := 0) rfl (bMt_of (by decide) (Nat.le_of_ble_eq_true rfl) (bB_aC hZm hn hnc hcap hf hx9 hx8 hxf)) (jw (j := 1438) rfl rfl : Cond.code ⟨"java/lang/AbstractStringBuilder", "append", "(C)Ljava/lang/AbstractStringBuilder;"⟩ prog_17_method_31_code 2 (some (.object "java/lang/AbstractStringBuilder")) ∈ ewL4) (jw (j := 1436) rfl rfl : Cond.methodLink "java/lang/StringBuilder" 50 ⟨"java/lang/AbstractStringBuilder", "append", "(C)Ljava/lang/AbstractStringBuilder;"⟩ ∈ ewL4) (jw (j := 1567) rfl rfl : Cond.sameMethod "java/lang/AbstractStringBuilder" "java/lang/AbstractStringBuilder" "append" "(C)Ljava/lang/AbstractStringBuilder;" ∈ ewL4) (jw (j := 1327) rfl rfl : Cond.superclass "java/lang/StringBuilder" "java/lang/AbstractStringBuilder" ∈ ewL4) (jw (j := 1437) rfl rfl : Cond.instanceMethod ⟨"java/lang/AbstractStringBuilder", "append", "(C)Ljava/lang/AbstractStringBuilder;"⟩ ∈ ewL4) (jw (j := 29) rfl rfl : Cond.initialized "java/lang/AbstractStringBuilder" ∈ ewL4) ⟨by decide, by decide +kernel⟩ rfl ⟨by omega, by omega⟩ ⟨by omega, by omega⟩ hl.1 (by simp [Value.category]) rfl (by decide +kernel : decode prog_33_method_14_code 2 = .ok (.invokespecial 50, 3)) (fun v9 H1 locs1 hpost hS9 hz hk => ?_)
  obtain ⟨rfl, d2, cap2, f2, g1, g2, g3, g4, g5, hP, hD⟩ := hpost
  have hS := hS9
  clear hS9
  refine lv_pop hx hb (by decide +kernel : decode prog_33_method_14_code 5 = .ok (.pop, 1)) rfl ?_
  refine lv_aload_n hx hb (by decide +kernel : decode prog_33_method_14_code 6 = .ok (.aload_n 0, 1)) rfl (lv_at hl 0 rfl) ?_
  exact vx_ret (W.widen (by omega) (by omega) (W.aret hx hb hr (Or.inl ⟨_, rfl⟩) (Or.inr ⟨_, rfl⟩) (fun t ht hW => ⟨⟨_, rfl, ⟨rfl, d2, cap2, f2, g1, g2, g3, g4, g5, by rw [ht]; exact hP, hD⟩⟩, hS.F ht⟩) hS.2.2 (by decide +kernel : decode prog_33_method_14_code 7 = .ok (.areturn, 1)) hlk))
set_option maxHeartbeats 1000000 in
theorem bB_sblen {Z : State → Heap → Prop} (hZm : bMv A Z) {b d : Nat} {ml n : Int32} {ws : va_W} (he : ws[0]? = some (b, .inr (0, [.ref d, .int 0, .int ml, .int n]))) : bBd A D2 cB l ⟨"java/lang/StringBuilder", "length", "()I"⟩ prog_33_method_93_code 1 (some .int) 1 0 0 Z ws [.ref b] (fun v9 H9 H1 => v9 = some (.int n) ∧ H1 = H9) := by
  rintro p e R s mI args below meth c lsA ⟨hx, hb, hr, hml, hown, hlk, hnm, hI, hZ, hP, hD⟩ hRf hRl hRc hRs hl
  obtain ⟨hN, hK, hCS, hA⟩ := hI
  have hts := fun w hw => hN w hw args
  have hS : va_S A s.heap s.heap [] := ⟨Nat.le_refl _, fun _ _ _ => rfl, fun _ h => absurd h List.not_mem_nil⟩
  have X : bCt A D2 cB p s mI args c "java/lang/StringBuilder" prog_33_method_93_code 1 := ⟨hx, hb, hml, hown, hts, hK, hCS, hA⟩
  have hl : lv_has lsA 1 [(0, .ref b)] := hl
  refine lv_aload_n hx hb (by decide +kernel : decode prog_33_method_93_code 0 = .ok (.aload_n 0, 1)) rfl (lv_at hl 0 rfl) ?_
  refine bcallSU (vs := []) (rest := []) (n := 0) X hZm hS (hZm _ _ _ _ (al_refl s) hS.2.1 hZ) hP hD (q0 := 0) he (bMt_of (by decide) (Nat.le_of_ble_eq_true rfl) (bB_alen hZm he)) (jw (j := 1469) rfl rfl : Cond.code ⟨"java/lang/AbstractStringBuilder", "length", "()I"⟩ prog_17_method_6_code 1 (some .int) ∈ ewL4) (jw (j := 1468) rfl rfl : Cond.methodLink "java/lang/StringBuilder" 343 ⟨"java/lang/AbstractStringBuilder", "length", "()I"⟩ ∈ ewL4) (jw (j := 1464) rfl rfl : Cond.sameMethod "java/lang/AbstractStringBuilder" "java/lang/AbstractStringBuilder" "length" "()I" ∈ ewL4) (jw (j := 1327) rfl rfl : Cond.superclass "java/lang/StringBuilder" "java/lang/AbstractStringBuilder" ∈ ewL4) (jw (j := 1463) rfl rfl : Cond.instanceMethod ⟨"java/lang/AbstractStringBuilder", "length", "()I"⟩ ∈ ewL4) (jw (j := 29) rfl rfl : Cond.initialized "java/lang/AbstractStringBuilder" ∈ ewL4) ⟨by decide, by decide +kernel⟩ rfl ⟨by omega, by omega⟩ ⟨by omega, by omega⟩ hl.1 (by simp [Value.category]) rfl (by decide +kernel : decode prog_33_method_93_code 1 = .ok (.invokespecial 343, 3)) (fun v9 H1 locs1 hpost hS9 hz hk => ?_)
  obtain ⟨rfl, rfl⟩ := hpost
  have hS := hS9
  clear hS9
  exact vx_ret (W.widen (by omega) (by omega) (W.zret (ty := .int) hx hb hr rfl (fun t ht hW => ⟨⟨_, rfl, ⟨rfl, ht⟩⟩, hS.F ht⟩) hS.2.2 (by decide +kernel : decode prog_33_method_93_code 4 = .ok (.ireturn, 1)) hlk))
set_option maxHeartbeats 1000000 in
theorem bB_chkLen {Z : State → Heap → Prop} (hZm : bMv A Z) {k9 : Int32} {ws : va_W} (h9 : 0 ≤ k9) : bBd A D2 cB l ⟨"java/util/Arrays", "checkLength", "(II)V"⟩ prog_41_method_131_code 2 none 0 0 0 Z ws [.int 0, .int k9] (fun v9 H9 H1 => v9 = none ∧ H1 = H9) := by
  rintro p e R s mI args below meth c lsA ⟨hx, hb, hr, hml, hown, hlk, hnm, hI, hZ, hP, hD⟩ hRf hRl hRc hRs hl
  obtain ⟨hN, hK, hCS, hA⟩ := hI
  have hts := fun w hw => hN w hw args
  have hS : va_S A s.heap s.heap [] := ⟨Nat.le_refl _, fun _ _ _ => rfl, fun _ h => absurd h List.not_mem_nil⟩
  have X : bCt A D2 cB p s mI args c "java/util/Arrays" prog_41_method_131_code 2 := ⟨hx, hb, hml, hown, hts, hK, hCS, hA⟩
  have hl : lv_has lsA 2 [(0, .int 0), (1, .int k9)] := hl
  refine lv_iload_n hx hb (by decide +kernel : decode prog_41_method_131_code 0 = .ok (.iload_n 1, 1)) rfl (lv_at hl 1 rfl) ?_
  refine lv_iload_n hx hb (by decide +kernel : decode prog_41_method_131_code 1 = .ok (.iload_n 0, 1)) rfl (lv_at hl 0 rfl) ?_
  refine lv_icmp_ge hx hb (by decide +kernel : decode prog_41_method_131_code 2 = .ok (.if_icmp .ge 35, 3)) (tgt := 37) rfl (fun _ => ?_) (fun h => absurd h9 h)
  exact vx_ret (W.widen (by omega) (by omega) (W.vret hx hb hr (fun t ht hW => ⟨⟨_, rfl, ⟨rfl, ht⟩⟩, hS.F ht⟩) hS.2.2 (by decide +kernel : decode prog_41_method_131_code 37 = .ok (.return_, 1)) hlk))
set_option maxHeartbeats 1000000 in
theorem bB_crb {Z : State → Heap → Prop} (hZm : bMv A Z) {b d cap n s0 : Nat} {ml : Int32} {f : Nat → Int32} (hnc : n ≤ cap) (hcap : cap ≤ 34) (hf : bFit f) : bBd A D2 cB l ⟨"java/util/Arrays", "copyOfRangeByte", "([BII)[B"⟩ prog_41_method_133_code 5 (some (.array .byte)) 1 1 34 Z [(b, .inr (0, [.ref d, .int 0, .int ml, .int (nI n)])), (d, .inl (cB, cap, .inl f)), (s0, .inr (1, [.null, .int 0, .int 0, .int 0]))] [.ref d, .int 0, .int (nI n)] (fun v9 H9 H1 => ∃ (q : Nat) (f' : Nat → Int32), v9 = some (.ref q) ∧ (∀ j, j < n → f' j = f j) ∧ va_P D2 bCl [(b, .inr (0, [.ref d, .int 0, .int ml, .int (nI n)])), (d, .inl (cB, cap, .inl f)), (s0, .inr (1, [.null, .int 0, .int 0, .int 0])), (q, .inl (cB, n, .inl f'))] H1 ∧ va_D A [(b, .inr (0, [.ref d, .int 0, .int ml, .int (nI n)])), (d, .inl (cB, cap, .inl f)), (s0, .inr (1, [.null, .int 0, .int 0, .int 0])), (q, .inl (cB, n, .inl f'))]) := by
  rintro p e R s mI args below meth c lsA ⟨hx, hb, hr, hml, hown, hlk, hnm, hI, hZ, hP, hD⟩ hRf hRl hRc hRs hl
  obtain ⟨hN, hK, hCS, hA⟩ := hI
  have hts := fun w hw => hN w hw args
  have hS : va_S A s.heap s.heap [] := ⟨Nat.le_refl _, fun _ _ _ => rfl, fun _ h => absurd h List.not_mem_nil⟩
  have X : bCt A D2 cB p s mI args c "java/util/Arrays" prog_41_method_133_code 5 := ⟨hx, hb, hml, hown, hts, hK, hCS, hA⟩
  have hl : lv_has lsA 5 [(0, .ref d), (1, .int 0), (2, .int (nI n))] := hl
  refine lv_iload_n hx hb (by decide +kernel : decode prog_41_method_133_code 0 = .ok (.iload_n 1, 1)) rfl (lv_at hl 1 rfl) ?_
  refine lv_iload_n hx hb (by decide +kernel : decode prog_41_method_133_code 1 = .ok (.iload_n 2, 1)) rfl (lv_at hl 2 rfl) ?_
  refine bcallS (vs := [.int 0, .int (nI n)]) (rest := []) (n := 2) X hZm hS (hZm _ _ _ _ (al_refl s) hS.2.1 hZ) hP hD (bMt_of (by decide) (Nat.le_of_ble_eq_true rfl) (bB_chkLen hZm (nI_pos' (by omega)))) (jw (j := 1479) rfl rfl : Cond.code ⟨"java/util/Arrays", "checkLength", "(II)V"⟩ prog_41_method_131_code 2 none ∈ ewL4) (jw (j := 1477) rfl rfl : Cond.methodLink "java/util/Arrays" 343 ⟨"java/util/Arrays", "checkLength", "(II)V"⟩ ∈ ewL4) (jw (j := 1478) rfl rfl : Cond.static ⟨"java/util/Arrays", "checkLength", "(II)V"⟩ ∈ ewL4) (jw (j := 32) rfl rfl : Cond.initialized "java/util/Arrays" ∈ ewL4) ⟨⟨by decide, by decide⟩, by decide +kernel⟩ rfl ⟨by omega, by omega⟩ ⟨by omega, by omega⟩ hl.1 (by simp [Value.category]) rfl (by decide +kernel : decode prog_41_method_133_code 2 = .ok (.invokestatic 343, 3)) (fun v9 H1 locs1 hpost hS9 hz hk => ?_)
  obtain ⟨rfl, rfl⟩ := hpost
  have hS := hS9
  clear hS9
  refine lv_iload_n hx hb (by decide +kernel : decode prog_41_method_133_code 5 = .ok (.iload_n 2, 1)) rfl (lv_at hl 2 rfl) ?_
  refine lv_iload_n hx hb (by decide +kernel : decode prog_41_method_133_code 6 = .ok (.iload_n 1, 1)) rfl (lv_at hl 1 rfl) ?_
  refine lv_isub hx hb (by decide +kernel : decode prog_41_method_133_code 7 = .ok (.isub, 1)) ?_
  rw [Int32.sub_zero]
  refine lv_istore_n hx hb (by decide +kernel : decode prog_41_method_133_code 8 = .ok (.istore_n 3, 1)) rfl hl (by omega) rfl (fun lsA hl => ?_)
  have hl : lv_has lsA 5 [(3, .int (nI n)), (0, .ref d), (1, .int 0), (2, .int (nI n))] := hl
  refine lv_iload_n hx hb (by decide +kernel : decode prog_41_method_133_code 9 = .ok (.iload_n 3, 1)) rfl (lv_at hl 0 rfl) ?_
  refine va_newa (atype := .byte) hx hb (hts (.arrayClass .byte) (jw (j := 862) rfl rfl)) (ty := .byte) rfl hK hP hD hS hA (N' := n) (a0 := (n, .inl (fun _ => 0))) (fun _ => rfl) (nI_pos (by omega)) (nI_clamp (by omega)) (by show n * 1 ≤ 536870912; omega) (by omega) (by omega) (by decide +kernel : decode prog_41_method_133_code 10 = .ok (.newarray .byte, 2)) (fun q cA H1 hK9 hP hD hS => ?_)
  have e9 := (bEq hK9).symm
  clear hK9
  subst e9
  have hP : va_P D2 bCl [(b, .inr (0, [.ref d, .int 0, .int ml, .int (nI n)])), (d, .inl (cB, cap, .inl f)), (s0, .inr (1, [.null, .int 0, .int 0, .int 0])), (q, .inl (cB, n, .inl (fun _ => 0)))] _ := hP
  have hD : va_D A [(b, .inr (0, [.ref d, .int 0, .int ml, .int (nI n)])), (d, .inl (cB, cap, .inl f)), (s0, .inr (1, [.null, .int 0, .int 0, .int 0])), (q, .inl (cB, n, .inl (fun _ => 0)))] := hD
  refine lv_astore hx hb (by decide +kernel : decode prog_41_method_133_code 12 = .ok (.astore 4, 2)) hl (by omega) rfl (fun lsA hl => ?_)
  have hl : lv_has lsA 5 [(4, .ref q), (3, .int (nI n)), (0, .ref d), (1, .int 0), (2, .int (nI n))] := hl
  refine lv_aload_n hx hb (by decide +kernel : decode prog_41_method_133_code 14 = .ok (.aload_n 0, 1)) rfl (lv_at hl 2 rfl) ?_
  refine lv_iload_n hx hb (by decide +kernel : decode prog_41_method_133_code 15 = .ok (.iload_n 1, 1)) rfl (lv_at hl 3 rfl) ?_
  refine lv_aload hx hb (by decide +kernel : decode prog_41_method_133_code 16 = .ok (.aload 4, 2)) (lv_at hl 0 rfl) ?_
  refine lv_iconst hx hb (by decide +kernel : decode prog_41_method_133_code 18 = .ok (.iconst 0, 1)) (v := 0) rfl ?_
  refine lv_aload_n hx hb (by decide +kernel : decode prog_41_method_133_code 19 = .ok (.aload_n 0, 1)) rfl (lv_at hl 2 rfl) ?_
  refine va_alen hx hb hK hP 1 0 rfl rfl (v := (nI cap)) rfl (by decide +kernel : decode prog_41_method_133_code 20 = .ok (.arraylength, 1)) ?_
  refine lv_iload_n hx hb (by decide +kernel : decode prog_41_method_133_code 21 = .ok (.iload_n 1, 1)) rfl (lv_at hl 3 rfl) ?_
  refine lv_isub hx hb (by decide +kernel : decode prog_41_method_133_code 22 = .ok (.isub, 1)) ?_
  rw [Int32.sub_zero]
  refine lv_iload_n hx hb (by decide +kernel : decode prog_41_method_133_code 23 = .ok (.iload_n 3, 1)) rfl (lv_at hl 1 rfl) ?_
  refine va_mmin hx hb (hml.trans hl.1.symm) hown (hts (.methodLink "java/util/Arrays" 304 Lib.Math.min.name) (jw (j := 1366) rfl rfl)) (hts (.static Lib.Math.min.name) (jw (j := 736) rfl rfl)) (hts (.initialized "java/lang/Math") (jw (j := 15) rfl rfl)) (hts (.code Lib.Math.min.name Lib.Math.min.code 2 (some .int)) (jw (j := 737) rfl rfl)) (by omega) (Nat.le_trans (m := 64) (Nat.le_of_ble_eq_true rfl) (by omega)) (by omega) (by omega) (by decide +kernel : decode prog_41_method_133_code 24 = .ok (.invokestatic 304, 3)) ?_
  rw [bmin hnc (by omega)]
  refine va_copyi hx hb (hml.trans hl.1.symm) hown (hts (.methodLink "java/util/Arrays" 150 arraycopyName) (jw (j := 1367) rfl rfl)) (hts (.native arraycopyName) (jw (j := 1369) rfl rfl)) (hts (.static arraycopyName) (jw (j := 1368) rfl rfl)) (hts (.initialized "java/lang/System") (jw (j := 33) rfl rfl)) hK hP hD hS 1 3 0 0 rfl rfl rfl rfl rfl (by decide) (by decide) (nI_pos (by omega)) (by rw [sb_cl0, nI_clamp (by omega)]; omega) (by rw [sb_cl0, nI_clamp (by omega)]; omega) (fun i _ => hf _) (by omega) (Nat.le_trans (m := 64) (Nat.le_of_ble_eq_true rfl) (by omega)) (by decide +kernel : decode prog_41_method_133_code 27 = .ok (.invokestatic 150, 3)) (fun H1 locs1 hP hD hS => ?_)
  rw [sb_cl0, nI_clamp (n := n) (by omega)] at hP hD
  have hP : va_P D2 bCl [(b, .inr (0, [.ref d, .int 0, .int ml, .int (nI n)])), (d, .inl (cB, cap, .inl f)), (s0, .inr (1, [.null, .int 0, .int 0, .int 0])), (q, .inl (cB, n, .inl (va_cpy f (fun _ => 0) 0 0 n)))] _ := hP
  have hD : va_D A [(b, .inr (0, [.ref d, .int 0, .int ml, .int (nI n)])), (d, .inl (cB, cap, .inl f)), (s0, .inr (1, [.null, .int 0, .int 0, .int 0])), (q, .inl (cB, n, .inl (va_cpy f (fun _ => 0) 0 0 n)))] := hD
  refine lv_aload hx hb (by decide +kernel : decode prog_41_method_133_code 30 = .ok (.aload 4, 2)) (lv_at hl 0 rfl) ?_
  exact vx_ret (W.widen (by omega) (by omega) (W.aret hx hb hr (Or.inr ⟨_, rfl⟩) (Or.inr ⟨_, rfl⟩) (fun t ht hW => ⟨⟨_, rfl, ⟨q, _, rfl, fun j hj => sb_cpy0 hj, by rw [ht]; exact hP, hD⟩⟩, hS.F ht⟩) hS.2.2 (by decide +kernel : decode prog_41_method_133_code 32 = .ok (.areturn, 1)) hlk))
set_option maxHeartbeats 1000000 in
theorem bB_cr {Z : State → Heap → Prop} (hZm : bMv A Z) {b d cap n s0 : Nat} {ml : Int32} {f : Nat → Int32} (hnc : n ≤ cap) (hcap : cap ≤ 34) (hf : bFit f) : bBd A D2 cB l ⟨"java/util/Arrays", "copyOfRange", "([BII)[B"⟩ prog_41_method_132_code 3 (some (.array .byte)) 2 1 34 Z [(b, .inr (0, [.ref d, .int 0, .int ml, .int (nI n)])), (d, .inl (cB, cap, .inl f)), (s0, .inr (1, [.null, .int 0, .int 0, .int 0]))] [.ref d, .int 0, .int (nI n)] (fun v9 H9 H1 => ∃ (q : Nat) (f' : Nat → Int32), v9 = some (.ref q) ∧ (∀ j, j < n → f' j = f j) ∧ va_P D2 bCl [(b, .inr (0, [.ref d, .int 0, .int ml, .int (nI n)])), (d, .inl (cB, cap, .inl f)), (s0, .inr (1, [.null, .int 0, .int 0, .int 0])), (q, .inl (cB, n, .inl f'))] H1 ∧ va_D A [(b, .inr (0, [.ref d, .int 0, .int ml, .int (nI n)])), (d, .inl (cB, cap, .inl f)), (s0, .inr (1, [.null, .int 0, .int 0, .int 0])), (q, .inl (cB, n, .inl f'))]) := by
  rintro p e R s mI args below meth c lsA ⟨hx, hb, hr, hml, hown, hlk, hnm, hI, hZ, hP, hD⟩ hRf hRl hRc hRs hl
  obtain ⟨hN, hK, hCS, hA⟩ := hI
  have hts := fun w hw => hN w hw args
  have hS : va_S A s.heap s.heap [] := ⟨Nat.le_refl _, fun _ _ _ => rfl, fun _ h => absurd h List.not_mem_nil⟩
  have X : bCt A D2 cB p s mI args c "java/util/Arrays" prog_41_method_132_code 3 := ⟨hx, hb, hml, hown, hts, hK, hCS, hA⟩
  have hl : lv_has lsA 3 [(0, .ref d), (1, .int 0), (2, .int (nI n))] := hl
  refine lv_iload_n hx hb (by decide +kernel : decode prog_41_method_132_code 0 = .ok (.iload_n 1, 1)) rfl (lv_at hl 1 rfl) ?_
  refine lv_if_ne hx hb (by decide +kernel : decode prog_41_method_132_code 1 = .ok (.ifCond .ne 9, 3)) (tgt := 10) rfl (fun h => absurd rfl h) (fun _ => ?_)
  refine lv_iload_n hx hb (by decide +kernel : decode prog_41_method_132_code 4 = .ok (.iload_n 2, 1)) rfl (lv_at hl 2 rfl) ?_
  refine lv_aload_n hx hb (by decide +kernel : decode prog_41_method_132_code 5 = .ok (.aload_n 0, 1)) rfl (lv_at hl 0 rfl) ?_
  refine va_alen hx hb hK hP 1 0 rfl rfl (v := (nI cap)) rfl (by decide +kernel : decode prog_41_method_132_code 6 = .ok (.arraylength, 1)) ?_
  refine lv_icmp_eq hx hb (by decide +kernel : decode prog_41_method_132_code 7 = .ok (.if_icmp .eq 10, 3)) (tgt := 17) rfl (fun he => ?_) (fun he => ?_)
  · have hnn : n = cap := (nI_eq (by omega) (by omega)).mp he
    subst hnn
    refine lv_aload_n hx hb (by decide +kernel : decode prog_41_method_132_code 17 = .ok (.aload_n 0, 1)) rfl (lv_at hl 0 rfl) ?_
    have hnm9 : s.vm.findClass "[B" = some cB := (hK.2 0 _ rfl).2
    refine va_clone hx hb (hml.trans hl.1.symm) hown (hts (.methodLink "java/util/Arrays" 310 ⟨"[B", "clone", "()Ljava/lang/Object;"⟩) (jw (j := 1359) rfl rfl)) (hts (.sameMethod "[B" "java/lang/Object" "clone" "()Ljava/lang/Object;") (jw (j := 1360) rfl rfl)) (hts (.native ⟨"java/lang/Object", "clone", "()Ljava/lang/Object;"⟩) (jw (j := 1361) rfl rfl)) (hts (.instanceMethod ⟨"java/lang/Object", "clone", "()Ljava/lang/Object;"⟩) (jw (j := 1362) rfl rfl)) (hts (.selects "[B" ⟨"[B", "clone", "()Ljava/lang/Object;"⟩ ⟨"java/lang/Object", "clone", "()Ljava/lang/Object;"⟩) (jw (j := 1363) rfl rfl)) (va_Nw.of rfl (hts (.castable "[B" "java/lang/Cloneable") (jw (j := 1364) rfl rfl))) hK hP hD hS hA 1 0 rfl rfl hnm9 (bfit_v hf) (by omega) (Nat.le_trans (m := 64) (Nat.le_of_ble_eq_true rfl) (by omega)) (by omega) (Nat.le_trans (m := 34) (by show 0 + n ≤ 34; omega) (by omega)) (by decide +kernel : decode prog_41_method_132_code 18 = .ok (.invokevirtual 310, 3)) (fun q H1 hK9 hP hD hS => ?_)
    have hP : va_P D2 bCl [(b, .inr (0, [.ref d, .int 0, .int ml, .int (nI n)])), (d, .inl (cB, n, .inl f)), (s0, .inr (1, [.null, .int 0, .int 0, .int 0])), (q, .inl (cB, n, .inl f))] _ := hP
    have hD : va_D A [(b, .inr (0, [.ref d, .int 0, .int ml, .int (nI n)])), (d, .inl (cB, n, .inl f)), (s0, .inr (1, [.null, .int 0, .int 0, .int 0])), (q, .inl (cB, n, .inl f))] := hD
    refine va_castA hx hb hown (hts (.classLink "java/util/Arrays" 311 "[B") (jw (j := 1365) rfl rfl)) hP 3 rfl hnm9 (by decide +kernel : decode prog_41_method_132_code 21 = .ok (.checkcast 311, 3)) ?_
    exact vx_ret (W.widen (by omega) (by omega) (W.aret hx hb hr (Or.inr ⟨_, rfl⟩) (Or.inr ⟨_, rfl⟩) (fun t ht hW => ⟨⟨_, rfl, ⟨q, f, rfl, fun _ _ => rfl, by rw [ht]; exact hP, hD⟩⟩, hS.F ht⟩) hS.2.2 (by decide +kernel : decode prog_41_method_132_code 24 = .ok (.areturn, 1)) hlk))
  · refine lv_aload_n hx hb (by decide +kernel : decode prog_41_method_132_code 10 = .ok (.aload_n 0, 1)) rfl (lv_at hl 0 rfl) ?_
    refine lv_iload_n hx hb (by decide +kernel : decode prog_41_method_132_code 11 = .ok (.iload_n 1, 1)) rfl (lv_at hl 1 rfl) ?_
    refine lv_iload_n hx hb (by decide +kernel : decode prog_41_method_132_code 12 = .ok (.iload_n 2, 1)) rfl (lv_at hl 2 rfl) ?_
    refine bcallS (vs := [.ref d, .int 0, .int (nI n)]) (rest := []) (n := 3) X hZm hS (hZm _ _ _ _ (al_refl s) hS.2.1 hZ) hP hD (bMt_of (by decide) (Nat.le_of_ble_eq_true rfl) (bB_crb hZm hnc hcap hf)) (jw (j := 1476) rfl rfl : Cond.code ⟨"java/util/Arrays", "copyOfRangeByte", "([BII)[B"⟩ prog_41_method_133_code 5 (some (.array .byte)) ∈ ewL4) (jw (j := 1474) rfl rfl : Cond.methodLink "java/util/Arrays" 339 ⟨"java/util/Arrays", "copyOfRangeByte", "([BII)[B"⟩ ∈ ewL4) (jw (j := 1475) rfl rfl : Cond.static ⟨"java/util/Arrays", "copyOfRangeByte", "([BII)[B"⟩ ∈ ewL4) (jw (j := 32) rfl rfl : Cond.initialized "java/util/Arrays" ∈ ewL4) ⟨⟨by decide, by decide⟩, by decide +kernel⟩ rfl ⟨by omega, by omega⟩ ⟨by omega, by omega⟩ hl.1 (by simp [Value.category]) rfl (by decide +kernel : decode prog_41_method_132_code 13 = .ok (.invokestatic 339, 3)) (fun v9 H1 locs1 hpost hS9 hz hk => ?_)
    obtain ⟨q9, f9, rfl, hff, hP, hD⟩ := hpost
    have hS := hS9
    clear hS9
    exact vx_ret (W.widen (by omega) (by omega) (W.aret hx hb hr (Or.inr ⟨_, rfl⟩) (Or.inr ⟨_, rfl⟩) (fun t ht hW => ⟨⟨_, rfl, ⟨q9, f9, rfl, hff, by rw [ht]; exact hP, hD⟩⟩, hS.F ht⟩) hS.2.2 (by decide +kernel : decode prog_41_method_132_code 16 = .ok (.areturn, 1)) hlk))
set_option maxHeartbeats 1000000 in
theorem bB_sia {Z : State → Heap → Prop} (hZm : bMv A Z) {b d cap n s0 : Nat} {ml : Int32} {f : Nat → Int32} (hnc : n ≤ cap) (hcap : cap ≤ 34) (hf : bFit f) : bBd A D2 cB l ⟨"java/lang/String", "<init>", "(Ljava/lang/AbstractStringBuilder;Ljava/lang/Void;)V"⟩ prog_32_method_150_code 5 none 3 1 34 Z [(b, .inr (0, [.ref d, .int 0, .int ml, .int (nI n)])), (d, .inl (cB, cap, .inl f)), (s0, .inr (1, [.null, .int 0, .int 0, .int 0]))] [.ref s0, .ref b, .null] (fun v9 H9 H1 => v9 = none ∧ ∃ (q : Nat) (f' : Nat → Int32), (∀ j, j < n → f' j = f j) ∧ va_P D2 bCl [(b, .inr (0, [.ref d, .int 0, .int ml, .int (nI n)])), (d, .inl (cB, cap, .inl f)), (s0, .inr (1, [.ref q, .int 0, .int 0, .int 0])), (q, .inl (cB, n, .inl f'))] H1 ∧ va_D A [(b, .inr (0, [.ref d, .int 0, .int ml, .int (nI n)])), (d, .inl (cB, cap, .inl f)), (s0, .inr (1, [.ref q, .int 0, .int 0, .int 0])), (q, .inl (cB, n, .inl f'))]) := by
  rintro p e R s mI args below meth c lsA ⟨hx, hb, hr, hml, hown, hlk, hnm, hI, hZ, hP, hD⟩ hRf hRl hRc hRs hl
  obtain ⟨hN, hK, hCS, hA⟩ := hI
  have hts := fun w hw => hN w hw args
  have hS : va_S A s.heap s.heap [] := ⟨Nat.le_refl _, fun _ _ _ => rfl, fun _ h => absurd h List.not_mem_nil⟩
  have X : bCt A D2 cB p s mI args c "java/lang/String" prog_32_method_150_code 5 := ⟨hx, hb, hml, hown, hts, hK, hCS, hA⟩
  have hl : lv_has lsA 5 [(0, .ref s0), (1, .ref b), (2, .null)] := hl
  refine lv_aload_n hx hb (by decide +kernel : decode prog_32_method_150_code 0 = .ok (.aload_n 0, 1)) rfl (lv_at hl 0 rfl) ?_
  refine W.objInit hx hb hown (hts (.methodLink "java/lang/String" 1 objectInit) (jw (j := 1456) rfl rfl)) (hts (.instanceMethod objectInit) (jw (j := 42) rfl rfl)) (hts (.code objectInit ⟨#[0xb1]⟩ 1 none) (jw (j := 43) rfl rfl)) rfl (by rw [hml]; exact hl.1) rfl (by decide +kernel : decode prog_32_method_150_code 1 = .ok (.invokespecial 1, 3)) (by omega) (Nat.le_trans (m := 12) (Nat.le_of_ble_eq_true rfl) (by omega)) ?_
  refine W.eq (g2 := F0 mI 4 lsA []) rfl ?_
  refine lv_aload_n hx hb (by decide +kernel : decode prog_32_method_150_code 4 = .ok (.aload_n 1, 1)) rfl (lv_at hl 1 rfl) ?_
  refine bcallU (owner := "java/lang/AbstractStringBuilder") (x := ⟨"java/lang/AbstractStringBuilder", "getValue", "()[B"⟩) (vs := []) (rest := []) (n := 0) X hZm hS (hZm _ _ _ _ (al_refl s) hS.2.1 hZ) hP hD (q0 := 0) rfl (bMt_of (by decide) (Nat.le_of_ble_eq_true rfl) (bB_getV hZm rfl)) (jw (j := 1461) rfl rfl : Cond.code ⟨"java/lang/AbstractStringBuilder", "getValue", "()[B"⟩ prog_17_method_64_code 1 (some (.array .byte)) ∈ ewL4) (jw (j := 1457) rfl rfl : Cond.methodLink "java/lang/String" 552 ⟨"java/lang/AbstractStringBuilder", "getValue", "()[B"⟩ ∈ ewL4) (jw (j := 1459) rfl rfl : Cond.sameMethod "java/lang/AbstractStringBuilder" "java/lang/AbstractStringBuilder" "getValue" "()[B" ∈ ewL4) (va_Decl.of (hts _ (jw (j := 1458) rfl rfl : Cond.instanceMethod ⟨"java/lang/AbstractStringBuilder", "getValue", "()[B"⟩ ∈ ewL4)) (hts _ (jw (j := 1461) rfl rfl : Cond.code ⟨"java/lang/AbstractStringBuilder", "getValue", "()[B"⟩ prog_17_method_64_code 1 (some (.array .byte)) ∈ ewL4))) (hts _ (jw (j := 1460) rfl rfl : Cond.selects "java/lang/StringBuilder" ⟨"java/lang/AbstractStringBuilder", "getValue", "()[B"⟩ ⟨"java/lang/AbstractStringBuilder", "getValue", "()[B"⟩ ∈ ewL4)) (jw (j := 1458) rfl rfl : Cond.instanceMethod ⟨"java/lang/AbstractStringBuilder", "getValue", "()[B"⟩ ∈ ewL4) (jw (j := 29) rfl rfl : Cond.initialized "java/lang/AbstractStringBuilder" ∈ ewL4) ⟨⟨by decide, by decide⟩, by decide +kernel⟩ rfl ⟨by omega, by omega⟩ ⟨by omega, by omega⟩ hl.1 (by simp [Value.category]) rfl (by decide +kernel : decode prog_32_method_150_code 5 = .ok (.invokevirtual 552, 3)) (fun v9 H1 locs1 hpost hS9 hz hk => ?_)
  obtain ⟨rfl, rfl⟩ := hpost
  have hS := hS9
  clear hS9
  refine lv_astore_n hx hb (by decide +kernel : decode prog_32_method_150_code 8 = .ok (.astore_n 3, 1)) rfl hl (by omega) rfl (fun lsA hl => ?_)
  have hl : lv_has lsA 5 [(3, .ref d), (0, .ref s0), (1, .ref b), (2, .null)] := hl
  refine lv_aload_n hx hb (by decide +kernel : decode prog_32_method_150_code 9 = .ok (.aload_n 1, 1)) rfl (lv_at hl 2 rfl) ?_
  refine bcallU (owner := "java/lang/AbstractStringBuilder") (x := ⟨"java/lang/AbstractStringBuilder", "length", "()I"⟩) (vs := []) (rest := []) (n := 0) X hZm hS (hZm _ _ _ _ (al_refl s) hS.2.1 hZ) hP hD (q0 := 0) rfl (bMt_of (by decide) (Nat.le_of_ble_eq_true rfl) (bB_sblen hZm rfl)) (jw (j := 1467) rfl rfl : Cond.code ⟨"java/lang/StringBuilder", "length", "()I"⟩ prog_33_method_93_code 1 (some .int) ∈ ewL4) (jw (j := 1462) rfl rfl : Cond.methodLink "java/lang/String" 549 ⟨"java/lang/AbstractStringBuilder", "length", "()I"⟩ ∈ ewL4) (jw (j := 1464) rfl rfl : Cond.sameMethod "java/lang/AbstractStringBuilder" "java/lang/AbstractStringBuilder" "length" "()I" ∈ ewL4) (va_Decl.of (hts _ (jw (j := 1463) rfl rfl : Cond.instanceMethod ⟨"java/lang/AbstractStringBuilder", "length", "()I"⟩ ∈ ewL4)) (hts _ (jw (j := 1469) rfl rfl : Cond.code ⟨"java/lang/AbstractStringBuilder", "length", "()I"⟩ prog_17_method_6_code 1 (some .int) ∈ ewL4))) (hts _ (jw (j := 1465) rfl rfl : Cond.selects "java/lang/StringBuilder" ⟨"java/lang/AbstractStringBuilder", "length", "()I"⟩ ⟨"java/lang/StringBuilder", "length", "()I"⟩ ∈ ewL4)) (jw (j := 1466) rfl rfl : Cond.instanceMethod ⟨"java/lang/StringBuilder", "length", "()I"⟩ ∈ ewL4) (jw (j := 30) rfl rfl : Cond.initialized "java/lang/StringBuilder" ∈ ewL4) ⟨⟨by decide, by decide⟩, by decide +kernel⟩ rfl ⟨by omega, by omega⟩ ⟨by omega, by omega⟩ hl.1 (by simp [Value.category]) rfl (by decide +kernel : decode prog_32_method_150_code 10 = .ok (.invokevirtual 549, 3)) (fun v9 H1 locs1 hpost hS9 hz hk => ?_)
  obtain ⟨rfl, rfl⟩ := hpost
  have hS := hS9
  clear hS9
  refine lv_istore hx hb (by decide +kernel : decode prog_32_method_150_code 13 = .ok (.istore 4, 2)) hl (by omega) rfl (fun lsA hl => ?_)
  have hl : lv_has lsA 5 [(4, .int (nI n)), (3, .ref d), (0, .ref s0), (1, .ref b), (2, .null)] := hl
  refine lv_aload_n hx hb (by decide +kernel : decode prog_32_method_150_code 15 = .ok (.aload_n 1, 1)) rfl (lv_at hl 3 rfl) ?_
  refine bcallU (owner := "java/lang/AbstractStringBuilder") (x := ⟨"java/lang/AbstractStringBuilder", "isLatin1", "()Z"⟩) (vs := []) (rest := []) (n := 0) X hZm hS (hZm _ _ _ _ (al_refl s) hS.2.1 hZ) hP hD (q0 := 0) rfl (bMt_of (by decide) (Nat.le_of_ble_eq_true rfl) (bB_lat1 hZm rfl)) (jw (j := 1374) rfl rfl : Cond.code ⟨"java/lang/AbstractStringBuilder", "isLatin1", "()Z"⟩ prog_17_method_68_code 1 (some .boolean) ∈ ewL4) (jw (j := 1470) rfl rfl : Cond.methodLink "java/lang/String" 1047 ⟨"java/lang/AbstractStringBuilder", "isLatin1", "()Z"⟩ ∈ ewL4) (jw (j := 1372) rfl rfl : Cond.sameMethod "java/lang/AbstractStringBuilder" "java/lang/AbstractStringBuilder" "isLatin1" "()Z" ∈ ewL4) (va_Decl.of (hts _ (jw (j := 1371) rfl rfl : Cond.instanceMethod ⟨"java/lang/AbstractStringBuilder", "isLatin1", "()Z"⟩ ∈ ewL4)) (hts _ (jw (j := 1374) rfl rfl : Cond.code ⟨"java/lang/AbstractStringBuilder", "isLatin1", "()Z"⟩ prog_17_method_68_code 1 (some .boolean) ∈ ewL4))) (hts _ (jw (j := 1373) rfl rfl : Cond.selects "java/lang/StringBuilder" ⟨"java/lang/AbstractStringBuilder", "isLatin1", "()Z"⟩ ⟨"java/lang/AbstractStringBuilder", "isLatin1", "()Z"⟩ ∈ ewL4)) (jw (j := 1371) rfl rfl : Cond.instanceMethod ⟨"java/lang/AbstractStringBuilder", "isLatin1", "()Z"⟩ ∈ ewL4) (jw (j := 29) rfl rfl : Cond.initialized "java/lang/AbstractStringBuilder" ∈ ewL4) ⟨⟨by decide, by decide⟩, by decide +kernel⟩ rfl ⟨by omega, by omega⟩ ⟨by omega, by omega⟩ hl.1 (by simp [Value.category]) rfl (by decide +kernel : decode prog_32_method_150_code 16 = .ok (.invokevirtual 1047, 3)) (fun v9 H1 locs1 hpost hS9 hz hk => ?_)
  obtain ⟨rfl, rfl⟩ := hpost
  have hS := hS9
  clear hS9
  refine lv_if_eq hx hb (by decide +kernel : decode prog_32_method_150_code 19 = .ok (.ifCond .eq 22, 3)) (tgt := 41) rfl (fun h => absurd h (by decide)) (fun _ => ?_)
  refine lv_aload_n hx hb (by decide +kernel : decode prog_32_method_150_code 22 = .ok (.aload_n 0, 1)) rfl (lv_at hl 2 rfl) ?_
  refine lv_iconst hx hb (by decide +kernel : decode prog_32_method_150_code 23 = .ok (.iconst 0, 1)) (v := 0) rfl ?_
  refine va_putF (Ts := ewL4) (C := "java/lang/String") (T := bT1) (N := 4) (ci := 1) (v := .int 0) (ty := bY1 1) hx hb hts bin1 bY1 bY1_ok bN1_ok hown hK hP hD hS 2 rfl rfl 1 (by decide) (hts (.fieldLink "java/lang/String" 15 "java/lang/String" "coder" "B") (jw (j := 1526) rfl rfl)) (fun _ h => h) rfl hnm rfl (bY1_ok 1 (by decide)) rfl rfl (Nat.le_of_ble_eq_true rfl) (by decide +kernel : decode prog_32_method_150_code 24 = .ok (.putfield 15, 3)) (fun H1 locs1 hP hD hS => ?_)
  have hP : va_P D2 bCl [(b, .inr (0, [.ref d, .int 0, .int ml, .int (nI n)])), (d, .inl (cB, cap, .inl f)), (s0, .inr (1, [.null, .int 0, .int 0, .int 0]))] _ := hP
  have hD : va_D A [(b, .inr (0, [.ref d, .int 0, .int ml, .int (nI n)])), (d, .inl (cB, cap, .inl f)), (s0, .inr (1, [.null, .int 0, .int 0, .int 0]))] := hD
  refine lv_aload_n hx hb (by decide +kernel : decode prog_32_method_150_code 27 = .ok (.aload_n 0, 1)) rfl (lv_at hl 2 rfl) ?_
  refine lv_aload_n hx hb (by decide +kernel : decode prog_32_method_150_code 28 = .ok (.aload_n 3, 1)) rfl (lv_at hl 1 rfl) ?_
  refine lv_iconst hx hb (by decide +kernel : decode prog_32_method_150_code 29 = .ok (.iconst 0, 1)) (v := 0) rfl ?_
  refine lv_iload hx hb (by decide +kernel : decode prog_32_method_150_code 30 = .ok (.iload 4, 2)) (lv_at hl 0 rfl) ?_
  refine bcallS (vs := [.ref d, .int 0, .int (nI n)]) (rest := [.ref s0]) (n := 3) X hZm hS (hZm _ _ _ _ (al_refl s) hS.2.1 hZ) hP hD (bMt_of (by decide) (Nat.le_of_ble_eq_true rfl) (bB_cr hZm hnc hcap hf)) (jw (j := 1473) rfl rfl : Cond.code ⟨"java/util/Arrays", "copyOfRange", "([BII)[B"⟩ prog_41_method_132_code 3 (some (.array .byte)) ∈ ewL4) (jw (j := 1471) rfl rfl : Cond.methodLink "java/lang/String" 54 ⟨"java/util/Arrays", "copyOfRange", "([BII)[B"⟩ ∈ ewL4) (jw (j := 1472) rfl rfl : Cond.static ⟨"java/util/Arrays", "copyOfRange", "([BII)[B"⟩ ∈ ewL4) (jw (j := 32) rfl rfl : Cond.initialized "java/util/Arrays" ∈ ewL4) ⟨⟨by decide, by decide⟩, by decide +kernel⟩ rfl ⟨by omega, by omega⟩ ⟨by omega, by omega⟩ hl.1 (by simp [Value.category]) rfl (by decide +kernel : decode prog_32_method_150_code 32 = .ok (.invokestatic 54, 3)) (fun v9 H1 locs1 hpost hS9 hz hk => ?_)
  obtain ⟨q9, f9, rfl, hff, hP, hD⟩ := hpost
  have hS := hS9
  clear hS9
  refine va_putF (Ts := ewL4) (C := "java/lang/String") (T := bT1) (N := 4) (ci := 1) (v := .ref q9) (ty := bY1 0) hx hb hts bin1 bY1 bY1_ok bN1_ok hown hK hP hD hS 2 rfl rfl 0 (by decide) (hts (.fieldLink "java/lang/String" 9 "java/lang/String" "value" "[B") (jw (j := 1525) rfl rfl)) (fun _ h => h) rfl hnm rfl (bY1_ok 0 (by decide)) rfl rfl (Nat.le_of_ble_eq_true rfl) (by decide +kernel : decode prog_32_method_150_code 35 = .ok (.putfield 9, 3)) (fun H1 locs1 hP hD hS => ?_)
  have hP : va_P D2 bCl [(b, .inr (0, [.ref d, .int 0, .int ml, .int (nI n)])), (d, .inl (cB, cap, .inl f)), (s0, .inr (1, [.ref q9, .int 0, .int 0, .int 0])), (q9, .inl (cB, n, .inl f9))] _ := hP
  have hD : va_D A [(b, .inr (0, [.ref d, .int 0, .int ml, .int (nI n)])), (d, .inl (cB, cap, .inl f)), (s0, .inr (1, [.ref q9, .int 0, .int 0, .int 0])), (q9, .inl (cB, n, .inl f9))] := hD
  refine lv_goto hx hb (by decide +kernel : decode prog_32_method_150_code 38 = .ok (.goto 59, 3)) (tgt := 97) rfl ?_
  exact vx_ret (W.widen (by omega) (by omega) (W.vret hx hb hr (fun t ht hW => ⟨⟨_, rfl, ⟨rfl, q9, f9, hff, by rw [ht]; exact hP, hD⟩⟩, hS.F ht⟩) hS.2.2 (by decide +kernel : decode prog_32_method_150_code 97 = .ok (.return_, 1)) hlk))
set_option maxHeartbeats 1000000 in
theorem bB_sib {Z : State → Heap → Prop} (hZm : bMv A Z) {b d cap n s0 : Nat} {ml : Int32} {f : Nat → Int32} (hnc : n ≤ cap) (hcap : cap ≤ 34) (hf : bFit f) : bBd A D2 cB l ⟨"java/lang/String", "<init>", "(Ljava/lang/StringBuilder;)V"⟩ prog_32_method_53_code 2 none 4 1 34 Z [(b, .inr (0, [.ref d, .int 0, .int ml, .int (nI n)])), (d, .inl (cB, cap, .inl f)), (s0, .inr (1, [.null, .int 0, .int 0, .int 0]))] [.ref s0, .ref b] (fun v9 H9 H1 => v9 = none ∧ ∃ (q : Nat) (f' : Nat → Int32), (∀ j, j < n → f' j = f j) ∧ va_P D2 bCl [(b, .inr (0, [.ref d, .int 0, .int ml, .int (nI n)])), (d, .inl (cB, cap, .inl f)), (s0, .inr (1, [.ref q, .int 0, .int 0, .int 0])), (q, .inl (cB, n, .inl f'))] H1 ∧ va_D A [(b, .inr (0, [.ref d, .int 0, .int ml, .int (nI n)])), (d, .inl (cB, cap, .inl f)), (s0, .inr (1, [.ref q, .int 0, .int 0, .int 0])), (q, .inl (cB, n, .inl f'))]) := by
  rintro p e R s mI args below meth c lsA ⟨hx, hb, hr, hml, hown, hlk, hnm, hI, hZ, hP, hD⟩ hRf hRl hRc hRs hl
  obtain ⟨hN, hK, hCS, hA⟩ := hI
  have hts := fun w hw => hN w hw args
  have hS : va_S A s.heap s.heap [] := ⟨Nat.le_refl _, fun _ _ _ => rfl, fun _ h => absurd h List.not_mem_nil⟩
  have X : bCt A D2 cB p s mI args c "java/lang/String" prog_32_method_53_code 2 := ⟨hx, hb, hml, hown, hts, hK, hCS, hA⟩
  have hl : lv_has lsA 2 [(0, .ref s0), (1, .ref b)] := hl
  refine lv_aload_n hx hb (by decide +kernel : decode prog_32_method_53_code 0 = .ok (.aload_n 0, 1)) rfl (lv_at hl 0 rfl) ?_
  refine lv_aload_n hx hb (by decide +kernel : decode prog_32_method_53_code 1 = .ok (.aload_n 1, 1)) rfl (lv_at hl 1 rfl) ?_
  refine lv_null hx hb (by decide +kernel : decode prog_32_method_53_code 2 = .ok (.aconst_null, 1)) ?_
  refine bcallI (vs := [.ref b, .null]) (rest := []) (n := 2) X hZm hS (hZm _ _ _ _ (al_refl s) hS.2.1 hZ) hP hD (bMt_of (by decide) (Nat.le_of_ble_eq_true rfl) (bB_sia hZm hnc hcap hf)) (jw (j := 1455) rfl rfl : Cond.code ⟨"java/lang/String", "<init>", "(Ljava/lang/AbstractStringBuilder;Ljava/lang/Void;)V"⟩ prog_32_method_150_code 5 none ∈ ewL4) (jw (j := 1453) rfl rfl : Cond.methodLink "java/lang/String" 489 ⟨"java/lang/String", "<init>", "(Ljava/lang/AbstractStringBuilder;Ljava/lang/Void;)V"⟩ ∈ ewL4) (jw (j := 1454) rfl rfl : Cond.instanceMethod ⟨"java/lang/String", "<init>", "(Ljava/lang/AbstractStringBuilder;Ljava/lang/Void;)V"⟩ ∈ ewL4) (jw (j := 23) rfl rfl : Cond.initialized "java/lang/String" ∈ ewL4) rfl ⟨⟨by decide, by decide⟩, by decide +kernel⟩ rfl ⟨by omega, by omega⟩ ⟨by omega, by omega⟩ hl.1 (by simp [Value.category]) rfl (by decide +kernel : decode prog_32_method_53_code 3 = .ok (.invokespecial 489, 3)) (fun v9 H1 locs1 hpost hS9 hz hk => ?_)
  obtain ⟨rfl, q9, f9, hff, hP, hD⟩ := hpost
  have hS := hS9
  clear hS9
  exact vx_ret (W.widen (by omega) (by omega) (W.vret hx hb hr (fun t ht hW => ⟨⟨_, rfl, ⟨rfl, q9, f9, hff, by rw [ht]; exact hP, hD⟩⟩, hS.F ht⟩) hS.2.2 (by decide +kernel : decode prog_32_method_53_code 6 = .ok (.return_, 1)) hlk))
set_option maxHeartbeats 1000000 in
theorem bB_toS {Z : State → Heap → Prop} (hZm : bMv A Z) {b d cap n : Nat} {ml : Int32} {f : Nat → Int32} (hnc : n ≤ cap) (hcap : cap ≤ 34) (hf : bFit f) : bBd A D2 cB l ⟨"java/lang/StringBuilder", "toString", "()Ljava/lang/String;"⟩ prog_33_method_42_code 1 (some (.object "java/lang/String")) 5 2 38 Z [(b, .inr (0, [.ref d, .int 0, .int ml, .int (nI n)])), (d, .inl (cB, cap, .inl f))] [.ref b] (fun v9 H9 H1 => ∃ (s0 q : Nat) (f' : Nat → Int32), v9 = some (.ref s0) ∧ (∀ j, j < n → f' j = f j) ∧ va_P D2 bCl [(b, .inr (0, [.ref d, .int 0, .int ml, .int (nI n)])), (d, .inl (cB, cap, .inl f)), (s0, .inr (1, [.ref q, .int 0, .int 0, .int 0])), (q, .inl (cB, n, .inl f'))] H1 ∧ va_D A [(b, .inr (0, [.ref d, .int 0, .int ml, .int (nI n)])), (d, .inl (cB, cap, .inl f)), (s0, .inr (1, [.ref q, .int 0, .int 0, .int 0])), (q, .inl (cB, n, .inl f'))]) := by
  rintro p e R s mI args below meth c lsA ⟨hx, hb, hr, hml, hown, hlk, hnm, hI, hZ, hP, hD⟩ hRf hRl hRc hRs hl
  obtain ⟨hN, hK, hCS, hA⟩ := hI
  have hts := fun w hw => hN w hw args
  have hS : va_S A s.heap s.heap [] := ⟨Nat.le_refl _, fun _ _ _ => rfl, fun _ h => absurd h List.not_mem_nil⟩
  have X : bCt A D2 cB p s mI args c "java/lang/StringBuilder" prog_33_method_42_code 1 := ⟨hx, hb, hml, hown, hts, hK, hCS, hA⟩
  have hl : lv_has lsA 1 [(0, .ref b)] := hl
  refine va_new (C := "java/lang/String") (T := bT1) (N := 4) (ci := 1) hx hb hts bin1 bY1 bY1_ok hown (hts (.classLink "java/lang/StringBuilder" 18 "java/lang/String") (jw (j := 1449) rfl rfl)) (hts (.instantiable "java/lang/String" 4) (jw (j := 861) rfl rfl)) (hts (.initialized "java/lang/String") (jw (j := 23) rfl rfl)) hK hP hD hS hA rfl (fs := [.null, .int 0, .int 0, .int 0]) bfs1 (by omega) (by omega) (by decide +kernel : decode prog_33_method_42_code 0 = .ok (.new 18, 3)) (fun s0 H1 hP hD hS => ?_)
  have hP : va_P D2 bCl [(b, .inr (0, [.ref d, .int 0, .int ml, .int (nI n)])), (d, .inl (cB, cap, .inl f)), (s0, .inr (1, [.null, .int 0, .int 0, .int 0]))] _ := hP
  have hD : va_D A [(b, .inr (0, [.ref d, .int 0, .int ml, .int (nI n)])), (d, .inl (cB, cap, .inl f)), (s0, .inr (1, [.null, .int 0, .int 0, .int 0]))] := hD
  refine lv_dup hx hb (by decide +kernel : decode prog_33_method_42_code 3 = .ok (.dup, 1)) rfl ?_
  refine lv_aload_n hx hb (by decide +kernel : decode prog_33_method_42_code 4 = .ok (.aload_n 0, 1)) rfl (lv_at hl 0 rfl) ?_
  refine bcallI (vs := [.ref b]) (rest := [.ref s0]) (n := 1) X hZm hS (hZm _ _ _ _ (al_refl s) hS.2.1 hZ) hP hD (bMt_of (by decide) (Nat.le_of_ble_eq_true rfl) (bB_sib hZm hnc hcap hf)) (jw (j := 1452) rfl rfl : Cond.code ⟨"java/lang/String", "<init>", "(Ljava/lang/StringBuilder;)V"⟩ prog_32_method_53_code 2 none ∈ ewL4) (jw (j := 1450) rfl rfl : Cond.methodLink "java/lang/StringBuilder" 137 ⟨"java/lang/String", "<init>", "(Ljava/lang/StringBuilder;)V"⟩ ∈ ewL4) (jw (j := 1451) rfl rfl : Cond.instanceMethod ⟨"java/lang/String", "<init>", "(Ljava/lang/StringBuilder;)V"⟩ ∈ ewL4) (jw (j := 23) rfl rfl : Cond.initialized "java/lang/String" ∈ ewL4) rfl ⟨⟨by decide, by decide⟩, by decide +kernel⟩ rfl ⟨by omega, by omega⟩ ⟨by omega, by omega⟩ hl.1 (by simp [Value.category]) rfl (by decide +kernel : decode prog_33_method_42_code 5 = .ok (.invokespecial 137, 3)) (fun v9 H1 locs1 hpost hS9 hz hk => ?_)
  obtain ⟨rfl, q9, f9, hff, hP, hD⟩ := hpost
  have hS := hS9
  clear hS9
  exact vx_ret (W.widen (by omega) (by omega) (W.aret hx hb hr (Or.inl ⟨_, rfl⟩) (Or.inr ⟨_, rfl⟩) (fun t ht hW => ⟨⟨_, rfl, ⟨s0, q9, f9, rfl, hff, by rw [ht]; exact hP, hD⟩⟩, hS.F ht⟩) hS.2.2 (by decide +kernel : decode prog_33_method_42_code 8 = .ok (.areturn, 1)) hlk))
end
