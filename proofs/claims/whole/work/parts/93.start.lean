/-! what the start of the law gives: classes, arrays, constants -/
abbrev nF : List Cond := flatC (.and given_1 narrow_1)
abbrev eOr : String := "EchoWells$Order"
abbrev eOd : String := "LEchoWells$Order;"
abbrev tOr (i : Nat) : Term := .static eOr (ordNm.getD i "") eOd
def sIx (j : Nat) : Nat := ([67, 75, 80, 85, 90, 95, 98, 103, 108, 113, 116, 119, 69, 77, 82, 87, 92, 87, 100, 105, 110, 100, 82, 121] : List Nat).getD j 0
abbrev tSt (j : Nat) : Term := .string eOr (sIx j)
abbrev tSv (j : Nat) : Term := .field (tSt j) "java/lang/String" "value" "[B"
theorem nf_ex : ∀ i, i < 12 → nF[([25, 30, 36, 43, 51, 60, 70, 4, 81, 93, 106, 120] : List Nat).getD i 0]? = some (.exactly (tOr i) eOr) := by decide +kernel
theorem nf_od : ∀ i, i < 12 → nF[([26, 31, 37, 44, 52, 61, 71, 5, 82, 94, 107, 121] : List Nat).getD i 0]? = some (.eq (.field (tOr i) "java/lang/Enum" "ordinal" "I") (.int (((List.range 12).map Int32.ofNat).getD i 0))) := by decide +kernel
theorem nf_ne : ∀ i, i < 12 → ∀ j, j < 12 → i ≠ j → nF[(([[9999, 35, 41, 48, 56, 65, 75, 9999, 86, 98, 111, 125], [9999, 9999, 42, 49, 57, 66, 76, 9999, 87, 99, 112, 126], [9999, 9999, 9999, 50, 58, 67, 77, 9999, 88, 100, 113, 127], [9999, 9999, 9999, 9999, 59, 68, 78, 9999, 89, 101, 114, 128], [9999, 9999, 9999, 9999, 9999, 69, 79, 9999, 90, 102, 115, 129], [9999, 9999, 9999, 9999, 9999, 9999, 80, 9999, 91, 103, 116, 130], [9999, 9999, 9999, 9999, 9999, 9999, 9999, 9999, 92, 104, 117, 131], [29, 34, 40, 47, 55, 64, 74, 9999, 85, 97, 110, 124], [9999, 9999, 9999, 9999, 9999, 9999, 9999, 9999, 9999, 105, 118, 132], [9999, 9999, 9999, 9999, 9999, 9999, 9999, 9999, 9999, 9999, 119, 133], [9999, 9999, 9999, 9999, 9999, 9999, 9999, 9999, 9999, 9999, 9999, 134], [9999, 9999, 9999, 9999, 9999, 9999, 9999, 9999, 9999, 9999, 9999, 9999]] : List (List Nat)).getD i []).getD j 9999]? = some (.not (.eq (tOr i) (tOr j))) ∨ nF[(([[9999, 35, 41, 48, 56, 65, 75, 9999, 86, 98, 111, 125], [9999, 9999, 42, 49, 57, 66, 76, 9999, 87, 99, 112, 126], [9999, 9999, 9999, 50, 58, 67, 77, 9999, 88, 100, 113, 127], [9999, 9999, 9999, 9999, 59, 68, 78, 9999, 89, 101, 114, 128], [9999, 9999, 9999, 9999, 9999, 69, 79, 9999, 90, 102, 115, 129], [9999, 9999, 9999, 9999, 9999, 9999, 80, 9999, 91, 103, 116, 130], [9999, 9999, 9999, 9999, 9999, 9999, 9999, 9999, 92, 104, 117, 131], [29, 34, 40, 47, 55, 64, 74, 9999, 85, 97, 110, 124], [9999, 9999, 9999, 9999, 9999, 9999, 9999, 9999, 9999, 105, 118, 132], [9999, 9999, 9999, 9999, 9999, 9999, 9999, 9999, 9999, 9999, 119, 133], [9999, 9999, 9999, 9999, 9999, 9999, 9999, 9999, 9999, 9999, 9999, 134], [9999, 9999, 9999, 9999, 9999, 9999, 9999, 9999, 9999, 9999, 9999, 9999]] : List (List Nat)).getD j []).getD i 9999]? = some (.not (.eq (tOr j) (tOr i))) := by decide +kernel
theorem nf_f0 : ∀ i, i < 12 → nF[([27, 32, 38, 45, 53, 62, 72, 6, 83, 95, 108, 122, 28, 33, 39, 46, 54, 63, 73, 7, 84, 96, 109, 123] : List Nat).getD i 0]? = some (.eq (.field (tOr i) eOr "name" "Ljava/lang/String;") (tSt i)) := by decide +kernel
theorem nf_f1 : ∀ i, i < 12 → nF[([27, 32, 38, 45, 53, 62, 72, 6, 83, 95, 108, 122, 28, 33, 39, 46, 54, 63, 73, 7, 84, 96, 109, 123] : List Nat).getD (12 + i) 0]? = some (.eq (.field (tOr i) eOr "form" "Ljava/lang/String;") (tSt (12 + i))) := by decide +kernel
theorem nf_sx : ∀ j, j < 24 → nF[([283, 303, 330, 357, 392, 431, 452, 270, 495, 540, 566, 593, 293, 318, 345, 374, 411, 374, 474, 278, 519, 474, 345, 622] : List Nat).getD j 0]? = some (.exactly (tSt j) "java/lang/String") := by decide +kernel
theorem nf_sc : ∀ j, j < 24 → nF[([284, 304, 331, 358, 393, 432, 453, 271, 496, 541, 567, 594, 294, 319, 346, 375, 412, 375, 475, 279, 520, 475, 346, 623] : List Nat).getD j 0]? = some (.eq (.field (tSt j) "java/lang/String" "coder" "B") (.int 0)) := by decide +kernel
theorem nf_sa : ∀ j, j < 24 → nF[([285, 305, 332, 359, 394, 433, 454, 272, 497, 542, 568, 595, 295, 320, 347, 376, 413, 376, 476, 280, 521, 476, 347, 624] : List Nat).getD j 0]? = some (.arrayOf (tSv j) .byte) := by decide +kernel
theorem nf_sl : ∀ j, j < 24 → nF[([286, 306, 333, 360, 395, 434, 455, 273, 498, 543, 569, 596, 296, 321, 348, 377, 414, 377, 477, 281, 522, 477, 348, 625] : List Nat).getD j 0]? = some (.eq (.length (tSv j)) (.int (Int32.ofNat (ewT j).length))) := by decide +kernel
theorem nf_se : ∀ j, j < 24 → ∀ k, k < (ewT j).length → nF[(([[287, 288, 289, 290], [307, 308, 309, 310, 311, 312, 313], [334, 335, 336, 337, 338], [361, 362, 363, 364, 365], [396, 397, 398, 399, 400], [435, 436, 437, 438, 439], [456, 457, 458, 459, 460], [274, 275, 276, 277], [499, 500, 501, 502, 503], [544, 545, 546, 547, 548], [570, 571, 572, 573, 574], [597, 598, 599, 600, 601, 602], [297, 298, 299], [322, 323, 324], [349], [378, 379, 380, 381, 382], [415, 416, 417, 418, 419], [378, 379, 380, 381, 382], [478, 479, 480], [], [523], [478, 479, 480], [349], [626, 627, 628]] : List (List Nat)).getD j []).getD k 9999]? = some (.eq (.elem (tSv j) (.int (Int32.ofNat k))) (.int (Int32.ofInt ((ewT j).getD k 0)))) := by decide +kernel
abbrev tOa : Term := .static "EchoWells" "ORDERS" "[LEchoWells$Order;"
abbrev tWa : Term := .static "EchoWells$1" "$SwitchMap$EchoWells$Order" "[I"
theorem nf_oe : ∀ i, i < 12 → nF[([140, 141, 142, 143, 144, 145, 146, 147, 148, 149, 150, 151] : List Nat).getD i 0]? = some (.eq (.elem tOa (.int (Int32.ofNat i))) (tOr i)) := by decide +kernel
theorem nf_we : ∀ i, i < 12 → nF[([11, 12, 13, 14, 15, 16, 17, 18, 19, 20, 21, 22] : List Nat).getD i 0]? = some (.eq (.elem tWa (.int (Int32.ofNat i))) (.int (Int32.ofNat (if i = 11 then 0 else i + 1)))) := by decide +kernel
theorem nf_1 : nF[137]? = some (.arrayOf tOa (.object eOr)) ∧ nF[138]? = some (.eq (.length tOa) (.int (Int32.ofNat 12))) ∧ nF[9]? = some (.arrayOf tWa .int) ∧ nF[10]? = some (.eq (.length tWa) (.int (Int32.ofNat 12))) ∧ nF[152]? = some (.eq (.static "java/lang/String" "COMPACT_STRINGS" "Z") (.int 1)) ∧
  nF[153]? = some (.isRef (.static "jdk/internal/util/Preconditions" "SIOOBE_FORMATTER" "Ljava/util/function/BiFunction;")) ∧ nF[23]? = some (.isRef (.static Bundle.tN "UNASSIGNED_STACK" Bundle.steD)) ∧ nF[24]? = some (.isRef (.static Bundle.tN "SUPPRESSED_SENTINEL" Bundle.listD)) := by decide +kernel
theorem nf_nc : ∀ i, i < 6 → ∀ j, j < 6 → i ≠ j → nF[(([[9999, 189, 208, 227, 245, 264], [170, 9999, 209, 228, 246, 265], [171, 190, 9999, 229, 247, 266], [173, 192, 211, 9999, 249, 268], [174, 193, 212, 230, 9999, 269], [175, 194, 213, 231, 250, 9999]] : List (List Nat)).getD i []).getD j 9999]? = some (.not (.castable (ewEx (i + 1)) (ewEx (j + 1)))) := by decide +kernel
theorem wd_lay : ∀ i, i < 12 → wd (([785, 794, 803, 812, 821, 830, 839, 366, 848, 857, 866, 916] : List Nat).getD i 0) = some (.laysStatic eOr (ordNm.getD i "") eOd) := by decide +kernel
section
variable {args : Array Value} {s : State}
theorem nfb (h : ∀ w ∈ nF, w.before args s = true) {i : Nat} {w : Cond} (hi : nF[i]? = some w) : w.before args s = true := h w (List.mem_of_getElem? hi)
theorem nc_all (h : ∀ w ∈ nF, w.before args s = true) : ∀ i j, 1 ≤ i → i ≤ 6 → 1 ≤ j → j ≤ 6 → i ≠ j → va_Nc (ewEx i) (ewEx j) s := by
  intro i j h1 h2 h3 h4 h5
  have h6 := nfb h (nf_nc (i - 1) (by omega) (j - 1) (by omega) (by omega))
  rw [show i - 1 + 1 = i by omega, show j - 1 + 1 = j by omega] at h6
  exact va_Nc.of h6
theorem tx_all (h : ∀ w ∈ nF, w.before args s = true) {A : Nat → Prop} (hA : ∀ a : Nat, a < s.heap.size → ¬ A a) (j : Nat) : ∃ q : Nat × Nat, j < 24 → (tSt j).eval args s none [] s = some (.ref q.1) ∧ va_O "java/lang/String" q.1 A s s.heap ∧ va_OF "java/lang/String" "coder" "B" (.int 0) q.1 A s s.heap ∧ va_OF "java/lang/String" "value" "[B" (.ref q.2) q.1 A s s.heap ∧ va_T .byte q.2 (ewT j).length (fun i => .int (Int32.ofInt ((ewT j).getD i 0))) A s s.heap := by
  by_cases hj : j < 24
  · obtain ⟨a, c, cA, kA, q1, q2, q3, q4, q5, q6, -⟩ := Cond.exactly_spec (args := args) (first := s) (o := none) (s := s) (idx := []) (t := tSt j) (cls := "java/lang/String") (nfb h (nf_sx j hj))
    obtain ⟨t, ht, hT⟩ := va_Tof (N := (ewT j).length) (f := fun i => .int (Int32.ofInt ((ewT j).getD i 0))) (A := A) (by have := (ewT_in j 0).2; omega) (nfb h (nf_sa j hj)) (va_eqt (nfb h (nf_sl j hj))) (fun k hk => va_eqt (nfb h (nf_se j hj k hk))) hA
    exact ⟨(a, t), fun _ => ⟨q1, ⟨cA, q3, q5, by rw [q6]; exact q2, hA a (Array.getElem?_eq_some_iff.mp q3).1⟩, vk_OFof q1 (va_eqt (nfb h (nf_sc j hj))) hA, vk_OFof q1 ht hA, hT⟩⟩
  · exact ⟨(0, 0), fun z => absurd z hj⟩
end
/-- the constants' addresses -/
def eKm (b oa wa : Nat) (ad : Nat → Nat) (tx : Nat → Nat × Nat) (a : Nat) : Nat :=
  if a = 1000 then b else if a = 1001 then oa else if a = 1002 then wa else if a < 1100 then ad (a - 1010) else if a < 1200 then (tx (a - 1100)).1 else (tx (a - 1200)).2
theorem eKm_ad {b oa wa : Nat} {ad : Nat → Nat} {tx : Nat → Nat × Nat} {i : Nat} (hi : i < 12) : eKm b oa wa ad tx (1010 + i) = ad i := by
  unfold eKm
  rw [if_neg (by omega), if_neg (by omega), if_neg (by omega), if_pos (by omega), Nat.add_sub_cancel_left]
theorem eKm_tx {b oa wa : Nat} {ad : Nat → Nat} {tx : Nat → Nat × Nat} {j : Nat} (hj : j < 24) : eKm b oa wa ad tx (1100 + j) = (tx j).1 := by
  unfold eKm
  rw [if_neg (by omega), if_neg (by omega), if_neg (by omega), if_neg (by omega), if_pos (by omega), Nat.add_sub_cancel_left]
theorem eKm_tv {b oa wa : Nat} {ad : Nat → Nat} {tx : Nat → Nat × Nat} {j : Nat} : eKm b oa wa ad tx (1200 + j) = (tx j).2 := by
  unfold eKm
  rw [if_neg (by omega), if_neg (by omega), if_neg (by omega), if_neg (by omega), if_neg (by omega), Nat.add_sub_cancel_left]
theorem va_Ef_congr {N : Nat} {o n d : String} {v v' : Nat → Value} {ad ad' : Nat → Nat} {A : Nat → Prop} {U : State} {H : Heap} (h : va_Ef N o n d v ad A U H) (h1 : ∀ i, i < N → v' i = v i) (h2 : ∀ i, i < N → ad' i = ad i) : va_Ef N o n d v' ad' A U H := by
  intro i hi
  show va_OF o n d (v' i) (ad' i) A U H
  rw [h1 i hi, h2 i hi]
  exact h i hi
theorem va_En_congr {E d : String} {nm : List String} {F : List (String × String × String × List Int32)} {ad ad' : Nat → Nat} {A : Nat → Prop} {U : State} {H : Heap} (h : va_En E d nm F ad A U H) (h2 : ∀ i, i < nm.length → ad' i = ad i) : va_En E d nm F ad' A U H := by
  refine ⟨fun i hi => ?_, fun i j hi hj e => h.2 i j hi hj (by rw [← h2 i hi, ← h2 j hj]; exact e)⟩
  show va_Z E (nm.getD i "") d (.ref (ad' i)) A U H ∧ va_O E (ad' i) A U H ∧ ∀ q ∈ F, va_OF q.1 q.2.1 q.2.2.1 (.int (q.2.2.2.getD i 0)) (ad' i) A U H
  rw [h2 i hi]
  exact h.1 i hi
theorem va_T_congr {ty : FieldType} {t N : Nat} {f f' : Nat → Value} {A : Nat → Prop} {U : State} {H : Heap} (h : va_T ty t N f A U H) (h1 : ∀ i, i < N → f' i = f i) : va_T ty t N f' A U H := by
  obtain ⟨cell, h2, h3, h4, h5, h6, h7, h8⟩ := h
  exact ⟨cell, h2, h3, h4, h5, h6, fun j hj => by rw [h1 j hj]; exact h7 j hj, h8⟩
theorem cst_start {args : Array Value} {s : State} {B b : Nat} (h : ∀ w ∈ nF, w.before args s = true) (hts : ∀ w ∈ lw_tbl, w.before args s = true) (hA : ∀ a : Nat, a < s.heap.size → ¬ B < a) : ∃ K : Nat → Nat, eCst B K s ∧ K 1000 = b := by
  have hw : ∀ {j : Nat} {w : Cond}, wd j = some w → w.before args s = true := fun hj => hts _ (wd_mem hj)
  obtain ⟨tx, htx⟩ := Classical.axiomOfChoice (tx_all (A := fun q => B < q) h hA)
  obtain ⟨ad, hEn, had⟩ := va_Enof2 (args := args) (s := s) (E := eOr) (d := eOd) (nm := ordNm) (F := [("java/lang/Enum", "ordinal", "I", (List.range 12).map Int32.ofNat)]) (A := fun q => B < q) (fun i hi => hw (wd_lay i hi)) (hw (j := 14) rfl) (fun i hi => nfb h (nf_ex i hi))
    (fun q hq i hi => by rw [List.mem_singleton] at hq; subst hq; exact nfb h (nf_od i hi)) (fun i j hi hj hij => (nf_ne i hi j hj hij).imp (fun z => nfb h z) (fun z => nfb h z)) hA
  obtain ⟨n1, n2, n3, n4, n5, n6, n7, n8⟩ := nf_1
  obtain ⟨oa, ho1, ho2⟩ := va_Tof (N := 12) (f := fun j => .ref (ad j)) (A := fun q => B < q) (by decide) (nfb h n1) (va_eqt (nfb h n2)) (fun j hj => va_eqv (nfb h (nf_oe j hj)) (had j hj)) hA
  obtain ⟨wa, hw1, hw2⟩ := va_Tof (N := 12) (f := fun j => .int (Int32.ofNat (if j = 11 then 0 else j + 1))) (A := fun q => B < q) (by decide) (nfb h n3) (va_eqt (nfb h n4)) (fun j hj => va_eqt (nfb h (nf_we j hj))) hA
  have had2 : ∀ i, i < 12 → (tOr i).eval args s none [] s = some (.ref (ad i)) := had
  refine ⟨eKm b oa wa ad tx, ⟨vx_Zqof (hw (j := 682) rfl) (hw (j := 17) rfl) (nfb h n7) hA, vx_Zqof (hw (j := 684) rfl) (hw (j := 17) rfl) (nfb h n8) hA, va_AO.of (hw (j := 46) rfl), va_AO.of (hw (j := 96) rfl), va_AO.of (hw (j := 213) rfl),
    va_En_congr hEn (fun i hi => eKm_ad hi), ?_, va_Zref (hw (j := 452) rfl) (hw (j := 15) rfl) hw1 hA, hw2, va_Zref (hw (j := 1161) rfl) (hw (j := 1) rfl) ho1 hA, va_T_congr ho2 (fun i hi => by rw [eKm_ad hi]), fun j hj => ?_, va_Zof (hw (j := 1175) rfl) (hw (j := 25) rfl) (va_eqt (nfb h n5)) hA, va_Zqof (hw (j := 1192) rfl) (hw (j := 28) rfl) (nfb h n6) hA, nc_all h⟩, rfl⟩
  · intro f hf
    have hf2 : f = 0 ∨ f = 1 := by omega
    rcases hf2 with rfl | rfl
    · exact va_Ef_congr (va_Efof (v := fun i => .ref (tx i).1) (tm := tSt) had2 (fun i hi => nfb h (nf_f0 i hi)) (fun i hi => (htx i (by omega)).1) hA) (fun i hi => by rw [show 1100 + 12 * 0 + i = 1100 + i by omega, eKm_tx (by omega)]) (fun i hi => eKm_ad hi)
    · exact va_Ef_congr (va_Efof (v := fun i => .ref (tx (12 + i)).1) (tm := fun i => tSt (12 + i)) had2 (fun i hi => nfb h (nf_f1 i hi)) (fun i hi => (htx (12 + i) (by omega)).1) hA) (fun i hi => by rw [show 1100 + 12 * 1 + i = 1100 + (12 + i) by omega, eKm_tx (by omega)]) (fun i hi => eKm_ad hi)
  · rw [eKm_tx hj, eKm_tv]
    exact (htx j hj).2
theorem arP {args : Array Value} {s : State} {ty : FieldType} (h : (Cond.arrayClass ty).before args s = true) : ∃ cA : ClassId, ArrOfT s cA ty ∧ s.vm.findClass ("[" ++ ty.toString) = some cA := by
  obtain ⟨cA, kA, comp, h1, h2, h3⟩ := Cond.arrayClass_spec h
  exact ⟨cA, fun n z => ⟨fun k h => (by cases h), kA, h2, comp, h3⟩, h1⟩
theorem arO {args : Array Value} {s : State} {C : String} (h : (Cond.arrayOver (.object C)).before args s = true) : ∃ cA : ClassId, ArrOfT s cA (.object C) ∧ va_RA s cA (.object C) := by
  obtain ⟨comp, c, k, h1, h2, h3, h4, h5⟩ := Cond.arrayOver_spec h
  exact ⟨c, fun n z => ⟨fun k h => (by cases h), k, h3, comp, h4⟩, k, comp, h3, h4, h1, h5⟩
def dAm (c20 c21 c22 c23 c24 c30 c31 c32 : ClassId) (a : Nat) : ClassId := match a with
  | 20 => c20 | 21 => c21 | 22 => c22 | 23 => c23 | 24 => c24 | 30 => c30 | 31 => c31 | _ => c32
theorem kls_start {args : Array Value} {s : State} (hts : ∀ w ∈ lw_tbl, w.before args s = true) : ∃ (dA : Nat → ClassId) (D : va_G), va_K D eCl (eTys dA) s := by
  have hw : ∀ {j : Nat} {w : Cond}, wd j = some w → w.before args s = true := fun hj => hts _ (wd_mem hj)
  obtain ⟨c20, p20, q20⟩ := arP (ty := .int) (hw (j := 93) rfl)
  obtain ⟨c21, p21, q21⟩ := arP (ty := .char) (hw (j := 138) rfl)
  obtain ⟨c22, p22, q22⟩ := arP (ty := .boolean) (hw (j := 94) rfl)
  obtain ⟨c23, p23, q23⟩ := arP (ty := .long) (hw (j := 1957) rfl)
  obtain ⟨c24, p24, q24⟩ := arP (ty := .double) (hw (j := 1958) rfl)
  obtain ⟨c30, p30, q30⟩ := arO (C := "EchoWells$Well") (hw (j := 46) rfl)
  obtain ⟨c31, p31, q31⟩ := arO (C := "EchoWells$Rope") (hw (j := 96) rfl)
  obtain ⟨c32, p32, q32⟩ := arO (C := "EchoWells$World") (hw (j := 213) rfl)
  have h0 : ∀ c : Nat, ∃ q : ClassId × (Nat → Nat), ∀ r : vw_C, eCl[c]? = some r → u_Kn s r.1 r.2.1 r.2.2 q.1 q.2 := by
    intro c
    by_cases hc : c < 12
    · have hk : ∃ k ∈ eKs, eIx k = c := by
        have : ∀ c, c < 12 → ∃ k ∈ eKs, eIx k = c := by decide
        exact this c hc
      obtain ⟨k, hk, rfl⟩ := hk
      obtain ⟨cC, iS, hKn⟩ := u_known (C := eRc k) (T := eT k) (N := eN k) (n := eN k) hts (eCl_in k hk) (hts _ ((List.mem_filter.mp (eKs_w k hk).1).1))
      refine ⟨(cC, iS), fun r hr => ?_⟩
      rw [eCl_at k hk] at hr
      cases hr
      exact hKn
    · refine ⟨(0, fun _ => 0), fun r hr => ?_⟩
      rw [List.getElem?_eq_none (by show 12 ≤ c; omega)] at hr
      cases hr
  obtain ⟨f, hf⟩ := Classical.axiomOfChoice h0
  refine ⟨dAm c20 c21 c22 c23 c24 c30 c31 c32, (fun c => (f c).1, fun c => (f c).2), fun c q hq => hf c q hq, fun k q hk => ?_⟩
  match k, hk with
  | 0, hk => cases hk; exact ⟨p20, q20⟩
  | 1, hk => cases hk; exact ⟨p21, q21⟩
  | 2, hk => cases hk; exact ⟨p22, q22⟩
  | 3, hk => cases hk; exact ⟨p23, q23⟩
  | 4, hk => cases hk; exact ⟨p24, q24⟩
  | 5, hk => cases hk; exact ⟨p30, q30⟩
  | 6, hk => cases hk; exact ⟨p31, q31⟩
  | 7, hk => cases hk; exact ⟨p32, q32⟩
  | _ + 8, hk => cases hk
