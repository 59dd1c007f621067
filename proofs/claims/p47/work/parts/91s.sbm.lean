/-! the builder's methods -/
def zS (A : Nat → Prop) (a0 b0 : Nat) (t0 : List Int) : State → Heap → Prop := fun s H => va_O "java/lang/String" a0 A s H ∧ va_OF "java/lang/String" "coder" "B" (.int 0) a0 A s H ∧ va_OF "java/lang/String" "value" "[B" (.ref b0) a0 A s H ∧ va_T .byte b0 t0.length (fun i => .int (Int32.ofInt (t0.getD i 0))) A s H
theorem zS_mv {A : Nat → Prop} {a0 b0 : Nat} {t0 : List Int} : bMv A (zS A a0 b0 t0) := fun s U H H1 hA hk h =>
  ⟨(va_O.moved hA h.1).kept hk, (va_OF.moved hA h.2.1).kept hk, (va_OF.moved hA h.2.2.1).kept hk, (va_T.moved hA h.2.2.2).kept hk⟩
theorem zS_rc {A : Nat → Prop} {a0 b0 : Nat} {t0 : List Int} {s : State} {H : Heap} {locs : List Loc} (hZ : zS A a0 b0 t0 s s.heap) (hS : va_S A s.heap H locs) : ∃ cellB : Cell, H[a0]? = some cellB ∧ cellB.vm.isStatics = false ∧ s.vm.findClass "java/lang/String" = some cellB.cls := by
  obtain ⟨cell, h1, h2, h3, -⟩ := hZ.1.kept hS.2.1
  exact ⟨cell, h1, h2, h3⟩
abbrev bW (cB : ClassId) (b d : Nat) (ml n : Int32) (cap : Nat) (f : Nat → Int32) : va_W := [(b, .inr (0, [.ref d, .int 0, .int ml, .int n])), (d, .inl (cB, cap, .inl f))]
def bFit (f : Nat → Int32) : Prop := ∀ j, fits .byte (.int (f j)) = true
theorem bEq {D2 : va_G} {cB cA : ClassId} {s : State} (h : va_K D2 bCl ([(cB, .byte)] ++ [(cA, .byte)]) s) : cA = cB := by
  have h1 : s.vm.findClass _ = some cB := (h.2 0 _ rfl).2
  have h2 : s.vm.findClass _ = some cA := (h.2 1 _ rfl).2
  exact Option.some.inj (h2.symm.trans h1)
theorem bfit_t {t : List Int} (h : ∀ y ∈ t, 0 ≤ y ∧ y < 128) (j : Nat) : fits .byte (.int (Int32.ofInt (t.getD j 0))) = true := by
  have hk : ∀ k : Nat, k < 128 → fits .byte (.int (Int32.ofInt (k : Int))) = true := by decide +kernel
  have h1 : 0 ≤ t.getD j 0 ∧ t.getD j 0 < 128 := by
    rw [List.getD_eq_getElem?_getD]
    cases hq : t[j]? with
    | none => exact ⟨Int.le_refl _, by decide⟩
    | some y => exact h y (List.mem_of_getElem? hq)
  obtain ⟨k, hk2⟩ : ∃ k : Nat, t.getD j 0 = (k : Int) := ⟨(t.getD j 0).toNat, by omega⟩
  rw [hk2]
  exact hk k (by omega)
theorem bq_16 : ∀ q : Nat, q < 22 → Int32.ofNat q - 16 ≤ 0 → q ≤ 16 := by decide +kernel
theorem bq_34 : ∀ q : Nat, q < 22 → Int32.ofNat q - 34 ≤ 0 := by decide +kernel
theorem bq_g : ∀ q : Nat, q < 22 → 16 < q → Int32.ofNat q - 16 < 18 := by decide +kernel
theorem bq_n : ∀ q : Nat, q < 22 → ¬ (Int32.ofNat q - 16 ≤ 0) → 16 < q := by decide +kernel
section
variable {A : Nat → Prop} {D2 : va_G} {cB : ClassId} {l : Launch}
set_option maxHeartbeats 1000000 in
theorem bB_coder {a0 b0 : Nat} {t0 : List Int} {ws : va_W} : bBd A D2 cB l ⟨"java/lang/String", "coder", "()B"⟩ prog_32_method_152_code 1 (some .byte) 0 0 0 (zS A a0 b0 t0) ws [.ref a0] (fun v9 H9 H1 => v9 = some (.int 0) ∧ H1 = H9) := by
  rintro p e R s mI args below meth c lsA ⟨hx, hb, hr, hml, hown, hlk, hnm, hI, hZ, hP, hD⟩ hRf hRl hRc hRs hl
  obtain ⟨hN, hK, hCS, hA⟩ := hI
  have hts := fun w hw => hN w hw args
  have hS : va_S A s.heap s.heap [] := ⟨Nat.le_refl _, fun _ _ _ => rfl, fun _ h => absurd h List.not_mem_nil⟩
  have X : bCt A D2 cB p s mI args c "java/lang/String" prog_32_method_152_code 1 := ⟨hx, hb, hml, hown, hts, hK, hCS, hA⟩
  have hl : lv_has lsA 1 [(0, .ref a0)] := hl
  have hZm : bMv A (zS A a0 b0 t0) := zS_mv
  refine va_gets hx hb hCS hS hown (hts (.fieldLink "java/lang/String" 38 "java/lang/String" "COMPACT_STRINGS" "Z") (jw (j := 1056) rfl rfl)) (fun _ h => h) (by decide +kernel : decode prog_32_method_152_code 0 = .ok (.getstatic 38, 3)) ?_
  refine lv_if_eq hx hb (by decide +kernel : decode prog_32_method_152_code 3 = .ok (.ifCond .eq 10, 3)) (tgt := 13) rfl (fun h => absurd h (by decide)) (fun _ => ?_)
  refine lv_aload_n hx hb (by decide +kernel : decode prog_32_method_152_code 6 = .ok (.aload_n 0, 1)) rfl (lv_at hl 0 rfl) ?_
  refine vk_getf hx hb hZ.2.1 hS hown (hts (.fieldLink "java/lang/String" 15 "java/lang/String" "coder" "B") (jw (j := 1526) rfl rfl)) (fun _ h => h) (by decide +kernel : decode prog_32_method_152_code 7 = .ok (.getfield 15, 3)) ?_
  refine lv_goto hx hb (by decide +kernel : decode prog_32_method_152_code 10 = .ok (.goto 4, 3)) (tgt := 14) rfl ?_
  exact vx_ret (W.widen (by omega) (by omega) (W.zret (ty := .byte) hx hb hr rfl (fun t ht hW => ⟨⟨_, rfl, ⟨rfl, ht⟩⟩, hS.F ht⟩) hS.2.2 (by decide +kernel : decode prog_32_method_152_code 14 = .ok (.ireturn, 1)) hlk))
set_option maxHeartbeats 1000000 in
theorem bB_slen {a0 b0 : Nat} {t0 : List Int} {ws : va_W} : bBd A D2 cB l ⟨"java/lang/String", "length", "()I"⟩ prog_32_method_54_code 1 (some .int) 1 0 0 (zS A a0 b0 t0) ws [.ref a0] (fun v9 H9 H1 => v9 = some (.int (nI t0.length)) ∧ H1 = H9) := by
  rintro p e R s mI args below meth c lsA ⟨hx, hb, hr, hml, hown, hlk, hnm, hI, hZ, hP, hD⟩ hRf hRl hRc hRs hl
  obtain ⟨hN, hK, hCS, hA⟩ := hI
  have hts := fun w hw => hN w hw args
  have hS : va_S A s.heap s.heap [] := ⟨Nat.le_refl _, fun _ _ _ => rfl, fun _ h => absurd h List.not_mem_nil⟩
  have X : bCt A D2 cB p s mI args c "java/lang/String" prog_32_method_54_code 1 := ⟨hx, hb, hml, hown, hts, hK, hCS, hA⟩
  have hl : lv_has lsA 1 [(0, .ref a0)] := hl
  have hZm : bMv A (zS A a0 b0 t0) := zS_mv
  refine lv_aload_n hx hb (by decide +kernel : decode prog_32_method_54_code 0 = .ok (.aload_n 0, 1)) rfl (lv_at hl 0 rfl) ?_
  refine vk_getf hx hb hZ.2.2.1 hS hown (hts (.fieldLink "java/lang/String" 9 "java/lang/String" "value" "[B") (jw (j := 1525) rfl rfl)) (fun _ h => h) (by decide +kernel : decode prog_32_method_54_code 1 = .ok (.getfield 9, 3)) ?_
  refine va_tlen hx hb hZ.2.2.2 hS (v := nI t0.length) rfl (by decide +kernel : decode prog_32_method_54_code 4 = .ok (.arraylength, 1)) ?_
  refine lv_aload_n hx hb (by decide +kernel : decode prog_32_method_54_code 5 = .ok (.aload_n 0, 1)) rfl (lv_at hl 0 rfl) ?_
  refine bcallV (C := "java/lang/String") (vs := []) (rest := [.int (nI t0.length)]) (n := 0) X hZm hS (hZm _ _ _ _ (al_refl s) hS.2.1 hZ) hP hD (zS_rc hZ hS) (bMt_of (by decide) (Nat.le_of_ble_eq_true rfl) (bB_coder )) (jw (j := 1055) rfl rfl : Cond.code ⟨"java/lang/String", "coder", "()B"⟩ prog_32_method_152_code 1 (some .byte) ∈ ewL4) (jw (j := 1052) rfl rfl : Cond.methodLink "java/lang/String" 335 ⟨"java/lang/String", "coder", "()B"⟩ ∈ ewL4) (jw (j := 1053) rfl rfl : Cond.instanceMethod ⟨"java/lang/String", "coder", "()B"⟩ ∈ ewL4) (jw (j := 1054) rfl rfl : Cond.selects "java/lang/String" ⟨"java/lang/String", "coder", "()B"⟩ ⟨"java/lang/String", "coder", "()B"⟩ ∈ ewL4) (jw (j := 23) rfl rfl : Cond.initialized "java/lang/String" ∈ ewL4) ⟨⟨by decide, by decide⟩, by decide +kernel⟩ rfl ⟨by omega, by omega⟩ ⟨by omega, by omega⟩ hl.1 (by simp [Value.category]) rfl (by decide +kernel : decode prog_32_method_54_code 6 = .ok (.invokevirtual 335, 3)) (fun v9 H1 locs1 hpost hS hz hk => ?_)
  obtain ⟨rfl, rfl⟩ := hpost
  refine lv_ishr hx hb (by decide +kernel : decode prog_32_method_54_code 9 = .ok (.ishr, 1)) ?_
  rw [sb_shr0]
  exact vx_ret (W.widen (by omega) (by omega) (W.zret (ty := .int) hx hb hr rfl (fun t ht hW => ⟨⟨_, rfl, ⟨rfl, ht⟩⟩, hS.F ht⟩) hS.2.2 (by decide +kernel : decode prog_32_method_54_code 10 = .ok (.ireturn, 1)) hlk))
set_option maxHeartbeats 1000000 in
theorem bB_canEnc {Z : State → Heap → Prop} (hZm : bMv A Z) {x : Int32} {ws : va_W} (hx9 : ¬ 255 < x) : bBd A D2 cB l ⟨"java/lang/StringLatin1", "canEncode", "(C)Z"⟩ prog_34_method_3_code 1 (some .boolean) 0 0 0 Z ws [.int x] (fun v9 H9 H1 => v9 = some (.int 1) ∧ H1 = H9) := by
  rintro p e R s mI args below meth c lsA ⟨hx, hb, hr, hml, hown, hlk, hnm, hI, hZ, hP, hD⟩ hRf hRl hRc hRs hl
  obtain ⟨hN, hK, hCS, hA⟩ := hI
  have hts := fun w hw => hN w hw args
  have hS : va_S A s.heap s.heap [] := ⟨Nat.le_refl _, fun _ _ _ => rfl, fun _ h => absurd h List.not_mem_nil⟩
  have X : bCt A D2 cB p s mI args c "java/lang/StringLatin1" prog_34_method_3_code 1 := ⟨hx, hb, hml, hown, hts, hK, hCS, hA⟩
  have hl : lv_has lsA 1 [(0, .int x)] := hl
  refine lv_iload_n hx hb (by decide +kernel : decode prog_34_method_3_code 0 = .ok (.iload_n 0, 1)) rfl (lv_at hl 0 rfl) ?_
  refine lv_sipush hx hb (by decide +kernel : decode prog_34_method_3_code 1 = .ok (.sipush 255, 3)) (v := 255) rfl ?_
  refine lv_icmp_gt hx hb (by decide +kernel : decode prog_34_method_3_code 4 = .ok (.if_icmp .gt 7, 3)) (tgt := 11) rfl (fun h => absurd h hx9) (fun _ => ?_)
  refine lv_iconst hx hb (by decide +kernel : decode prog_34_method_3_code 7 = .ok (.iconst 1, 1)) (v := 1) rfl ?_
  refine lv_goto hx hb (by decide +kernel : decode prog_34_method_3_code 8 = .ok (.goto 4, 3)) (tgt := 12) rfl ?_
  exact vx_ret (W.widen (by omega) (by omega) (W.zret (ty := .boolean) hx hb hr rfl (fun t ht hW => ⟨⟨_, rfl, ⟨rfl, ht⟩⟩, hS.F ht⟩) hS.2.2 (by decide +kernel : decode prog_34_method_3_code 12 = .ok (.ireturn, 1)) hlk))
set_option maxHeartbeats 1000000 in
theorem bB_lat1 {Z : State → Heap → Prop} (hZm : bMv A Z) {b d : Nat} {ml n : Int32} {ws : va_W} (he : ws[0]? = some (b, .inr (0, [.ref d, .int 0, .int ml, .int n]))) : bBd A D2 cB l ⟨"java/lang/AbstractStringBuilder", "isLatin1", "()Z"⟩ prog_17_method_68_code 1 (some .boolean) 0 0 0 Z ws [.ref b] (fun v9 H9 H1 => v9 = some (.int 1) ∧ H1 = H9) := by
  rintro p e R s mI args below meth c lsA ⟨hx, hb, hr, hml, hown, hlk, hnm, hI, hZ, hP, hD⟩ hRf hRl hRc hRs hl
  obtain ⟨hN, hK, hCS, hA⟩ := hI
  have hts := fun w hw => hN w hw args
  have hS : va_S A s.heap s.heap [] := ⟨Nat.le_refl _, fun _ _ _ => rfl, fun _ h => absurd h List.not_mem_nil⟩
  have X : bCt A D2 cB p s mI args c "java/lang/AbstractStringBuilder" prog_17_method_68_code 1 := ⟨hx, hb, hml, hown, hts, hK, hCS, hA⟩
  have hl : lv_has lsA 1 [(0, .ref b)] := hl
  refine va_gets hx hb hCS hS hown (hts (.fieldLink "java/lang/AbstractStringBuilder" 18 "java/lang/String" "COMPACT_STRINGS" "Z") (jw (j := 1307) rfl rfl)) (fun _ h => h) (by decide +kernel : decode prog_17_method_68_code 0 = .ok (.getstatic 18, 3)) ?_
  refine lv_if_eq hx hb (by decide +kernel : decode prog_17_method_68_code 3 = .ok (.ifCond .eq 14, 3)) (tgt := 17) rfl (fun h => absurd h (by decide)) (fun _ => ?_)
  refine lv_aload_n hx hb (by decide +kernel : decode prog_17_method_68_code 6 = .ok (.aload_n 0, 1)) rfl (lv_at hl 0 rfl) ?_
  refine va_get (Ts := ewL4) (C := "java/lang/StringBuilder") (T := bT0) (N := 4) (ci := 0) hx hb hts bin0 hown hK hP 0 he rfl 1 (by decide) (hts (.fieldLink "java/lang/AbstractStringBuilder" 22 "java/lang/AbstractStringBuilder" "coder" "B") (jw (j := 1316) rfl rfl)) (fun _ h => h) rfl (by decide +kernel : decode prog_17_method_68_code 7 = .ok (.getfield 22, 3)) ?_
  refine lv_if_ne hx hb (by decide +kernel : decode prog_17_method_68_code 10 = .ok (.ifCond .ne 7, 3)) (tgt := 17) rfl (fun h => absurd rfl h) (fun _ => ?_)
  refine lv_iconst hx hb (by decide +kernel : decode prog_17_method_68_code 13 = .ok (.iconst 1, 1)) (v := 1) rfl ?_
  refine lv_goto hx hb (by decide +kernel : decode prog_17_method_68_code 14 = .ok (.goto 4, 3)) (tgt := 18) rfl ?_
  exact vx_ret (W.widen (by omega) (by omega) (W.zret (ty := .boolean) hx hb hr rfl (fun t ht hW => ⟨⟨_, rfl, ⟨rfl, ht⟩⟩, hS.F ht⟩) hS.2.2 (by decide +kernel : decode prog_17_method_68_code 18 = .ok (.ireturn, 1)) hlk))
set_option maxHeartbeats 1000000 in
theorem bB_getV {Z : State → Heap → Prop} (hZm : bMv A Z) {b d : Nat} {ml n : Int32} {ws : va_W} (he : ws[0]? = some (b, .inr (0, [.ref d, .int 0, .int ml, .int n]))) : bBd A D2 cB l ⟨"java/lang/AbstractStringBuilder", "getValue", "()[B"⟩ prog_17_method_64_code 1 (some (.array .byte)) 0 0 0 Z ws [.ref b] (fun v9 H9 H1 => v9 = some (.ref d) ∧ H1 = H9) := by
  rintro p e R s mI args below meth c lsA ⟨hx, hb, hr, hml, hown, hlk, hnm, hI, hZ, hP, hD⟩ hRf hRl hRc hRs hl
  obtain ⟨hN, hK, hCS, hA⟩ := hI
  have hts := fun w hw => hN w hw args
  have hS : va_S A s.heap s.heap [] := ⟨Nat.le_refl _, fun _ _ _ => rfl, fun _ h => absurd h List.not_mem_nil⟩
  have X : bCt A D2 cB p s mI args c "java/lang/AbstractStringBuilder" prog_17_method_64_code 1 := ⟨hx, hb, hml, hown, hts, hK, hCS, hA⟩
  have hl : lv_has lsA 1 [(0, .ref b)] := hl
  refine lv_aload_n hx hb (by decide +kernel : decode prog_17_method_64_code 0 = .ok (.aload_n 0, 1)) rfl (lv_at hl 0 rfl) ?_
  refine va_get (Ts := ewL4) (C := "java/lang/StringBuilder") (T := bT0) (N := 4) (ci := 0) hx hb hts bin0 hown hK hP 0 he rfl 0 (by decide) (hts (.fieldLink "java/lang/AbstractStringBuilder" 15 "java/lang/AbstractStringBuilder" "value" "[B") (jw (j := 1315) rfl rfl)) (fun _ h => h) rfl (by decide +kernel : decode prog_17_method_64_code 1 = .ok (.getfield 15, 3)) ?_
  exact vx_ret (W.widen (by omega) (by omega) (W.aret hx hb hr (Or.inr ⟨_, rfl⟩) (Or.inr ⟨_, rfl⟩) (fun t ht hW => ⟨⟨_, rfl, ⟨rfl, ht⟩⟩, hS.F ht⟩) hS.2.2 (by decide +kernel : decode prog_17_method_64_code 4 = .ok (.areturn, 1)) hlk))
set_option maxHeartbeats 1000000 in
theorem bB_alen {Z : State → Heap → Prop} (hZm : bMv A Z) {b d : Nat} {ml n : Int32} {ws : va_W} (he : ws[0]? = some (b, .inr (0, [.ref d, .int 0, .int ml, .int n]))) : bBd A D2 cB l ⟨"java/lang/AbstractStringBuilder", "length", "()I"⟩ prog_17_method_6_code 1 (some .int) 0 0 0 Z ws [.ref b] (fun v9 H9 H1 => v9 = some (.int n) ∧ H1 = H9) := by
  rintro p e R s mI args below meth c lsA ⟨hx, hb, hr, hml, hown, hlk, hnm, hI, hZ, hP, hD⟩ hRf hRl hRc hRs hl
  obtain ⟨hN, hK, hCS, hA⟩ := hI
  have hts := fun w hw => hN w hw args
  have hS : va_S A s.heap s.heap [] := ⟨Nat.le_refl _, fun _ _ _ => rfl, fun _ h => absurd h List.not_mem_nil⟩
  have X : bCt A D2 cB p s mI args c "java/lang/AbstractStringBuilder" prog_17_method_6_code 1 := ⟨hx, hb, hml, hown, hts, hK, hCS, hA⟩
  have hl : lv_has lsA 1 [(0, .ref b)] := hl
  refine lv_aload_n hx hb (by decide +kernel : decode prog_17_method_6_code 0 = .ok (.aload_n 0, 1)) rfl (lv_at hl 0 rfl) ?_
  refine va_get (Ts := ewL4) (C := "java/lang/StringBuilder") (T := bT0) (N := 4) (ci := 0) hx hb hts bin0 hown hK hP 0 he rfl 3 (by decide) (hts (.fieldLink "java/lang/AbstractStringBuilder" 79 "java/lang/AbstractStringBuilder" "count" "I") (jw (j := 1318) rfl rfl)) (fun _ h => h) rfl (by decide +kernel : decode prog_17_method_6_code 1 = .ok (.getfield 79, 3)) ?_
  exact vx_ret (W.widen (by omega) (by omega) (W.zret (ty := .int) hx hb hr rfl (fun t ht hW => ⟨⟨_, rfl, ⟨rfl, ht⟩⟩, hS.F ht⟩) hS.2.2 (by decide +kernel : decode prog_17_method_6_code 4 = .ok (.ireturn, 1)) hlk))
set_option maxHeartbeats 1000000 in
theorem bB_asbInit {Z : State → Heap → Prop} (hZm : bMv A Z) {b : Nat} : bBd A D2 cB l ⟨"java/lang/AbstractStringBuilder", "<init>", "(I)V"⟩ prog_17_method_2_code 2 none 1 1 16 Z [(b, .inr (0, [.null, .int 0, .int 0, .int 0]))] [.ref b, .int 16] (fun v9 H9 H1 => v9 = none ∧ ∃ d : Nat, va_P D2 bCl (bW cB b d 0 0 16 (fun _ => 0)) H1 ∧ va_D A (bW cB b d 0 0 16 (fun _ => 0))) := by
  rintro p e R s mI args below meth c lsA ⟨hx, hb, hr, hml, hown, hlk, hnm, hI, hZ, hP, hD⟩ hRf hRl hRc hRs hl
  obtain ⟨hN, hK, hCS, hA⟩ := hI
  have hts := fun w hw => hN w hw args
  have hS : va_S A s.heap s.heap [] := ⟨Nat.le_refl _, fun _ _ _ => rfl, fun _ h => absurd h List.not_mem_nil⟩
  have X : bCt A D2 cB p s mI args c "java/lang/AbstractStringBuilder" prog_17_method_2_code 2 := ⟨hx, hb, hml, hown, hts, hK, hCS, hA⟩
  have hl : lv_has lsA 2 [(0, .ref b), (1, .int 16)] := hl
  refine lv_aload_n hx hb (by decide +kernel : decode prog_17_method_2_code 0 = .ok (.aload_n 0, 1)) rfl (lv_at hl 0 rfl) ?_
  refine W.objInit hx hb hown (hts (.methodLink "java/lang/AbstractStringBuilder" 3 objectInit) (jw (j := 1306) rfl rfl)) (hts (.instanceMethod objectInit) (jw (j := 42) rfl rfl)) (hts (.code objectInit ⟨#[0xb1]⟩ 1 none) (jw (j := 43) rfl rfl)) rfl (by rw [hml]; exact hl.1) rfl (by decide +kernel : decode prog_17_method_2_code 1 = .ok (.invokespecial 3, 3)) (by omega) (Nat.le_trans (m := 12) (Nat.le_of_ble_eq_true rfl) (by omega)) ?_
  refine W.eq (g2 := F0 mI 4 lsA []) rfl ?_
  refine va_gets hx hb hCS hS hown (hts (.fieldLink "java/lang/AbstractStringBuilder" 18 "java/lang/String" "COMPACT_STRINGS" "Z") (jw (j := 1307) rfl rfl)) (fun _ h => h) (by decide +kernel : decode prog_17_method_2_code 4 = .ok (.getstatic 18, 3)) ?_
  refine lv_if_eq hx hb (by decide +kernel : decode prog_17_method_2_code 7 = .ok (.ifCond .eq 18, 3)) (tgt := 25) rfl (fun h => absurd h (by decide)) (fun _ => ?_)
  refine lv_aload_n hx hb (by decide +kernel : decode prog_17_method_2_code 10 = .ok (.aload_n 0, 1)) rfl (lv_at hl 0 rfl) ?_
  refine lv_iload_n hx hb (by decide +kernel : decode prog_17_method_2_code 11 = .ok (.iload_n 1, 1)) rfl (lv_at hl 1 rfl) ?_
  refine va_newa (atype := .byte) hx hb (hts (.arrayClass .byte) (jw (j := 862) rfl rfl)) (ty := .byte) rfl hK hP hD hS hA (N' := 16) (a0 := (16, .inl (fun _ => 0))) (fun _ => rfl) (by decide) (by decide) (by decide) (by omega) (by omega) (by decide +kernel : decode prog_17_method_2_code 12 = .ok (.newarray .byte, 2)) (fun q cA H1 hK9 hP hD hS => ?_)
  obtain rfl : cA = cB := bEq hK9
  clear hK9
  have hP : va_P D2 bCl [(b, .inr (0, [.null, .int 0, .int 0, .int 0])), (q, .inl (cA, 16, .inl (fun _ => 0)))] _ := hP
  have hD : va_D A [(b, .inr (0, [.null, .int 0, .int 0, .int 0])), (q, .inl (cA, 16, .inl (fun _ => 0)))] := hD
  refine va_put (Ts := ewL4) (C := "java/lang/StringBuilder") (T := bT0) (N := 4) (ci := 0) (v := .ref q) (ty := bY0 0) hx hb hts bin0 bY0 bY0_ok bN0_ok hown hK hP hD hS 0 rfl rfl 0 (by decide) (hts (.fieldLink "java/lang/AbstractStringBuilder" 15 "java/lang/AbstractStringBuilder" "value" "[B") (jw (j := 1315) rfl rfl)) (fun _ h => h) rfl (bY0_ok 0 (by decide)) rfl rfl (Nat.le_of_ble_eq_true rfl) (by decide +kernel : decode prog_17_method_2_code 14 = .ok (.putfield 15, 3)) (fun H1 locs1 hP hD hS => ?_)
  have hP : va_P D2 bCl [(b, .inr (0, [.ref q, .int 0, .int 0, .int 0])), (q, .inl (cA, 16, .inl (fun _ => 0)))] _ := hP
  have hD : va_D A [(b, .inr (0, [.ref q, .int 0, .int 0, .int 0])), (q, .inl (cA, 16, .inl (fun _ => 0)))] := hD
  refine lv_aload_n hx hb (by decide +kernel : decode prog_17_method_2_code 17 = .ok (.aload_n 0, 1)) rfl (lv_at hl 0 rfl) ?_
  refine lv_iconst hx hb (by decide +kernel : decode prog_17_method_2_code 18 = .ok (.iconst 0, 1)) (v := 0) rfl ?_
  refine va_put (Ts := ewL4) (C := "java/lang/StringBuilder") (T := bT0) (N := 4) (ci := 0) (v := .int 0) (ty := bY0 1) hx hb hts bin0 bY0 bY0_ok bN0_ok hown hK hP hD hS 0 rfl rfl 1 (by decide) (hts (.fieldLink "java/lang/AbstractStringBuilder" 22 "java/lang/AbstractStringBuilder" "coder" "B") (jw (j := 1316) rfl rfl)) (fun _ h => h) rfl (bY0_ok 1 (by decide)) rfl rfl (Nat.le_of_ble_eq_true rfl) (by decide +kernel : decode prog_17_method_2_code 19 = .ok (.putfield 22, 3)) (fun H1 locs1 hP hD hS => ?_)
  have hP : va_P D2 bCl [(b, .inr (0, [.ref q, .int 0, .int 0, .int 0])), (q, .inl (cA, 16, .inl (fun _ => 0)))] _ := hP
  have hD : va_D A [(b, .inr (0, [.ref q, .int 0, .int 0, .int 0])), (q, .inl (cA, 16, .inl (fun _ => 0)))] := hD
  refine lv_goto hx hb (by decide +kernel : decode prog_17_method_2_code 22 = .ok (.goto 16, 3)) (tgt := 38) rfl ?_
  exact vx_ret (W.widen (by omega) (by omega) (W.vret hx hb hr (fun t ht hW => ⟨⟨_, rfl, ⟨rfl, q, by rw [ht]; exact hP, hD⟩⟩, hS.F ht⟩) hS.2.2 (by decide +kernel : decode prog_17_method_2_code 38 = .ok (.return_, 1)) hlk))
set_option maxHeartbeats 1000000 in
theorem bB_sbInit {Z : State → Heap → Prop} (hZm : bMv A Z) {b : Nat} : bBd A D2 cB l ⟨"java/lang/StringBuilder", "<init>", "()V"⟩ prog_33_method_1_code 1 none 2 1 16 Z [(b, .inr (0, [.null, .int 0, .int 0, .int 0]))] [.ref b] (fun v9 H9 H1 => v9 = none ∧ ∃ d : Nat, va_P D2 bCl (bW cB b d 0 0 16 (fun _ => 0)) H1 ∧ va_D A (bW cB b d 0 0 16 (fun _ => 0))) := by
  rintro p e R s mI args below meth c lsA ⟨hx, hb, hr, hml, hown, hlk, hnm, hI, hZ, hP, hD⟩ hRf hRl hRc hRs hl
  obtain ⟨hN, hK, hCS, hA⟩ := hI
  have hts := fun w hw => hN w hw args
  have hS : va_S A s.heap s.heap [] := ⟨Nat.le_refl _, fun _ _ _ => rfl, fun _ h => absurd h List.not_mem_nil⟩
  have X : bCt A D2 cB p s mI args c "java/lang/StringBuilder" prog_33_method_1_code 1 := ⟨hx, hb, hml, hown, hts, hK, hCS, hA⟩
  have hl : lv_has lsA 1 [(0, .ref b)] := hl
  refine lv_aload_n hx hb (by decide +kernel : decode prog_33_method_1_code 0 = .ok (.aload_n 0, 1)) rfl (lv_at hl 0 rfl) ?_
  refine lv_bipush hx hb (by decide +kernel : decode prog_33_method_1_code 1 = .ok (.bipush 16, 2)) (v := 16) rfl ?_
  refine bcallI (vs := [.int 16]) (rest := []) (n := 1) X hZm hS (hZm _ _ _ _ (al_refl s) hS.2.1 hZ) hP hD (bMt_of (by decide) (Nat.le_of_ble_eq_true rfl) (bB_asbInit hZm)) (jw (j := 1305) rfl rfl : Cond.code ⟨"java/lang/AbstractStringBuilder", "<init>", "(I)V"⟩ prog_17_method_2_code 2 none ∈ ewL4) (jw (j := 1303) rfl rfl : Cond.methodLink "java/lang/StringBuilder" 1 ⟨"java/lang/AbstractStringBuilder", "<init>", "(I)V"⟩ ∈ ewL4) (jw (j := 1304) rfl rfl : Cond.instanceMethod ⟨"java/lang/AbstractStringBuilder", "<init>", "(I)V"⟩ ∈ ewL4) (jw (j := 29) rfl rfl : Cond.initialized "java/lang/AbstractStringBuilder" ∈ ewL4) rfl ⟨⟨by decide, by decide⟩, by decide +kernel⟩ rfl ⟨by omega, by omega⟩ ⟨by omega, by omega⟩ hl.1 (by simp [Value.category]) rfl (by decide +kernel : decode prog_33_method_1_code 3 = .ok (.invokespecial 1, 3)) (fun v9 H1 locs1 hpost hS hz hk => ?_)
  obtain ⟨rfl, d, hP, hD⟩ := hpost
  exact vx_ret (W.widen (by omega) (by omega) (W.vret hx hb hr (fun t ht hW => ⟨⟨_, rfl, ⟨rfl, d, by rw [ht]; exact hP, hD⟩⟩, hS.F ht⟩) hS.2.2 (by decide +kernel : decode prog_33_method_1_code 6 = .ok (.return_, 1)) hlk))
end
