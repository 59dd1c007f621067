/-! what the start of the law gives: classes, arrays, constants -/
abbrev nF : List Cond := flatC (.and given_1 narrow_1)
abbrev eOr : String := "EchoWells$Order"
abbrev eOd : String := "LEchoWells$Order;"
abbrev tOr (i : Nat) : Term := .static eOr (ordNm.getD i "") eOd
def sIx (j : Nat) : Nat := ([67, 75, 80, 85, 90, 95, 98, 103, 108, 113, 116, 119, 69, 77, 82, 87, 92, 87, 100, 105, 110, 100, 82, 121, 340, 342, 344, 346, 348, 350, 352, 354, 356, 358, 360, 362, 364, 366, 368, 370, 286] : List Nat).getD j 0
abbrev tSt (j : Nat) : Term := .string (if j < 24 then eOr else "EchoWellsLaw") (sIx j)
abbrev tSv (j : Nat) : Term := .field (tSt j) "java/lang/String" "value" "[B"
theorem nf_ex : ∀ i, i < 12 → nF[([4, 36, 30, 43, 25, 51, 60, 70, 81, 93, 106, 164] : List Nat).getD i 0]? = some (.exactly (tOr i) eOr) := by decide +kernel
theorem nf_od : ∀ i, i < 12 → nF[([5, 37, 31, 44, 26, 52, 61, 71, 82, 94, 107, 165] : List Nat).getD i 0]? = some (.eq (.field (tOr i) "java/lang/Enum" "ordinal" "I") (.int (((List.range 12).map Int32.ofNat).getD i 0))) := by decide +kernel
theorem nf_ne : ∀ i, i < 12 → ∀ j, j < 12 → i ≠ j → nF[(([[9999, 40, 34, 47, 29, 55, 64, 74, 85, 97, 110, 168], [9999, 9999, 9999, 50, 9999, 58, 67, 77, 88, 100, 113, 171], [9999, 42, 9999, 49, 9999, 57, 66, 76, 87, 99, 112, 170], [9999, 9999, 9999, 9999, 9999, 59, 68, 78, 89, 101, 114, 172], [9999, 41, 35, 48, 9999, 56, 65, 75, 86, 98, 111, 169], [9999, 9999, 9999, 9999, 9999, 9999, 69, 79, 90, 102, 115, 173], [9999, 9999, 9999, 9999, 9999, 9999, 9999, 80, 91, 103, 116, 174], [9999, 9999, 9999, 9999, 9999, 9999, 9999, 9999, 92, 104, 117, 175], [9999, 9999, 9999, 9999, 9999, 9999, 9999, 9999, 9999, 105, 118, 176], [9999, 9999, 9999, 9999, 9999, 9999, 9999, 9999, 9999, 9999, 119, 177], [9999, 9999, 9999, 9999, 9999, 9999, 9999, 9999, 9999, 9999, 9999, 178], [9999, 9999, 9999, 9999, 9999, 9999, 9999, 9999, 9999, 9999, 9999, 9999]] : List (List Nat)).getD i []).getD j 9999]? = some (.not (.eq (tOr i) (tOr j))) ∨ nF[(([[9999, 40, 34, 47, 29, 55, 64, 74, 85, 97, 110, 168], [9999, 9999, 9999, 50, 9999, 58, 67, 77, 88, 100, 113, 171], [9999, 42, 9999, 49, 9999, 57, 66, 76, 87, 99, 112, 170], [9999, 9999, 9999, 9999, 9999, 59, 68, 78, 89, 101, 114, 172], [9999, 41, 35, 48, 9999, 56, 65, 75, 86, 98, 111, 169], [9999, 9999, 9999, 9999, 9999, 9999, 69, 79, 90, 102, 115, 173], [9999, 9999, 9999, 9999, 9999, 9999, 9999, 80, 91, 103, 116, 174], [9999, 9999, 9999, 9999, 9999, 9999, 9999, 9999, 92, 104, 117, 175], [9999, 9999, 9999, 9999, 9999, 9999, 9999, 9999, 9999, 105, 118, 176], [9999, 9999, 9999, 9999, 9999, 9999, 9999, 9999, 9999, 9999, 119, 177], [9999, 9999, 9999, 9999, 9999, 9999, 9999, 9999, 9999, 9999, 9999, 178], [9999, 9999, 9999, 9999, 9999, 9999, 9999, 9999, 9999, 9999, 9999, 9999]] : List (List Nat)).getD j []).getD i 9999]? = some (.not (.eq (tOr j) (tOr i))) := by decide +kernel
theorem nf_f0 : ∀ i, i < 12 → nF[([6, 38, 32, 45, 27, 53, 62, 72, 83, 95, 108, 166, 7, 39, 33, 46, 28, 54, 63, 73, 84, 96, 109, 167] : List Nat).getD i 0]? = some (.eq (.field (tOr i) eOr "name" "Ljava/lang/String;") (tSt i)) := by decide +kernel
theorem nf_f1 : ∀ i, i < 12 → nF[([6, 38, 32, 45, 27, 53, 62, 72, 83, 95, 108, 166, 7, 39, 33, 46, 28, 54, 63, 73, 84, 96, 109, 167] : List Nat).getD (12 + i) 0]? = some (.eq (.field (tOr i) eOr "form" "Ljava/lang/String;") (tSt (12 + i))) := by decide +kernel
theorem nf_sx : ∀ j, j < 41 → nF[([550, 597, 583, 615, 565, 633, 642, 658, 671, 685, 694, 928, 558, 608, 592, 624, 574, 624, 651, 666, 680, 651, 592, 938, 703, 725, 741, 760, 781, 806, 816, 840, 866, 874, 879, 888, 898, 906, 912, 919, 539] : List Nat).getD j 0]? = some (.exactly (tSt j) "java/lang/String") := by decide +kernel
theorem nf_sc : ∀ j, j < 41 → nF[([551, 598, 584, 616, 566, 634, 643, 659, 672, 686, 695, 929, 559, 609, 593, 625, 575, 625, 652, 667, 681, 652, 593, 939, 704, 726, 742, 761, 782, 807, 817, 841, 867, 875, 880, 889, 899, 907, 913, 920, 540] : List Nat).getD j 0]? = some (.eq (.field (tSt j) "java/lang/String" "coder" "B") (.int 0)) := by decide +kernel
theorem nf_sa : ∀ j, j < 41 → nF[([552, 599, 585, 617, 567, 635, 644, 660, 673, 687, 696, 930, 560, 610, 594, 626, 576, 626, 653, 668, 682, 653, 594, 940, 705, 727, 743, 762, 783, 808, 818, 842, 868, 876, 881, 890, 900, 908, 914, 921, 541] : List Nat).getD j 0]? = some (.arrayOf (tSv j) .byte) := by decide +kernel
theorem nf_sl : ∀ j, j < 41 → nF[([553, 600, 586, 618, 568, 636, 645, 661, 674, 688, 697, 931, 561, 611, 595, 627, 577, 627, 654, 669, 683, 654, 595, 941, 706, 728, 744, 763, 784, 809, 819, 843, 869, 877, 882, 891, 901, 909, 915, 922, 542] : List Nat).getD j 0]? = some (.eq (.length (tSv j)) (.int (Int32.ofNat (ewT j).length))) := by decide +kernel
theorem nf_se : ∀ j, j < 41 → ∀ k, k < (ewT j).length → nF[(([[554, 555, 556, 557], [601, 602, 603, 604, 605, 606, 607], [587, 588, 589, 590, 591], [619, 620, 621, 622, 623], [569, 570, 571, 572, 573], [637, 638, 639, 640, 641], [646, 647, 648, 649, 650], [662, 663, 664, 665], [675, 676, 677, 678, 679], [689, 690, 691, 692, 693], [698, 699, 700, 701, 702], [932, 933, 934, 935, 936, 937], [562, 563, 564], [612, 613, 614], [596], [628, 629, 630, 631, 632], [578, 579, 580, 581, 582], [628, 629, 630, 631, 632], [655, 656, 657], [], [684], [655, 656, 657], [596], [942, 943, 944], [707, 708, 709, 710, 711, 712, 713, 714, 715, 716, 717, 718, 719, 720, 721, 722, 723, 724], [729, 730, 731, 732, 733, 734, 735, 736, 737, 738, 739, 740], [745, 746, 747, 748, 749, 750, 751, 752, 753, 754, 755, 756, 757, 758, 759], [764, 765, 766, 767, 768, 769, 770, 771, 772, 773, 774, 775, 776, 777, 778, 779, 780], [785, 786, 787, 788, 789, 790, 791, 792, 793, 794, 795, 796, 797, 798, 799, 800, 801, 802, 803, 804, 805], [810, 811, 812, 813, 814, 815], [820, 821, 822, 823, 824, 825, 826, 827, 828, 829, 830, 831, 832, 833, 834, 835, 836, 837, 838, 839], [844, 845, 846, 847, 848, 849, 850, 851, 852, 853, 854, 855, 856, 857, 858, 859, 860, 861, 862, 863, 864, 865], [870, 871, 872, 873], [878], [883, 884, 885, 886, 887], [892, 893, 894, 895, 896, 897], [902, 903, 904, 905], [910, 911], [916, 917, 918], [923, 924, 925, 926, 927], []] : List (List Nat)).getD j []).getD k 9999]? = some (.eq (.elem (tSv j) (.int (Int32.ofNat k))) (.int (Int32.ofInt ((ewT j).getD k 0)))) := by decide +kernel
abbrev tOa : Term := .static "EchoWells" "ORDERS" "[LEchoWells$Order;"
abbrev tWa : Term := .static "EchoWells$1" "$SwitchMap$EchoWells$Order" "[I"
theorem nf_oe : ∀ i, i < 12 → nF[([141, 142, 143, 144, 145, 146, 147, 148, 149, 150, 151, 152] : List Nat).getD i 0]? = some (.eq (.elem tOa (.int (Int32.ofNat i))) (tOr i)) := by decide +kernel
theorem nf_we : ∀ i, i < 12 → nF[([11, 12, 13, 14, 15, 16, 17, 18, 19, 20, 21, 22] : List Nat).getD i 0]? = some (.eq (.elem tWa (.int (Int32.ofNat i))) (.int (Int32.ofNat (if i = 11 then 0 else i + 1)))) := by decide +kernel
abbrev tTa : Term := .static "EchoWellsLaw" "TEXTS" "[Ljava/lang/String;"
abbrev tWo : Term := .static "EchoWellsLaw" "WORDS" "[Ljava/lang/String;"
theorem nf_te : ∀ i, i < 8 → nF[([123, 124, 125, 126, 127, 128, 129, 130] : List Nat).getD i 0]? = some (.eq (.elem tTa (.int (Int32.ofNat i))) (tSt (24 + i))) := by decide +kernel
theorem nf_wo : ∀ i, i < 8 → nF[([156, 157, 158, 159, 160, 161, 162, 163] : List Nat).getD i 0]? = some (.eq (.elem tWo (.int (Int32.ofNat i))) (tSt (32 + i))) := by decide +kernel
theorem nf_2 : nF[121]? = some (.arrayOf tTa (.object "java/lang/String")) ∧ nF[122]? = some (.eq (.length tTa) (.int (Int32.ofNat 8))) ∧ nF[154]? = some (.arrayOf tWo (.object "java/lang/String")) ∧ nF[155]? = some (.eq (.length tWo) (.int (Int32.ofNat 8))) := by decide +kernel
theorem nf_1 : nF[138]? = some (.arrayOf tOa (.object eOr)) ∧ nF[139]? = some (.eq (.length tOa) (.int (Int32.ofNat 12))) ∧ nF[9]? = some (.arrayOf tWa .int) ∧ nF[10]? = some (.eq (.length tWa) (.int (Int32.ofNat 12))) ∧ nF[131]? = some (.eq (.static "java/lang/String" "COMPACT_STRINGS" "Z") (.int 1)) ∧
  nF[132]? = some (.isRef (.static "jdk/internal/util/Preconditions" "SIOOBE_FORMATTER" "Ljava/util/function/BiFunction;")) ∧ nF[23]? = some (.isRef (.static Bundle.tN "UNASSIGNED_STACK" Bundle.steD)) ∧ nF[24]? = some (.isRef (.static Bundle.tN "SUPPRESSED_SENTINEL" Bundle.listD)) := by decide +kernel
theorem nf_nc : ∀ i, i < 5 → ∀ j, j < 5 → i ≠ j → nF[(([[9999, 416, 435, 454, 472], [397, 9999, 436, 455, 473], [401, 420, 9999, 457, 476], [399, 418, 438, 9999, 475], [400, 419, 439, 456, 9999]] : List (List Nat)).getD i []).getD j 9999]? = some (.not (.castable (ewEx (i + 1)) (ewEx (j + 1)))) := by decide +kernel
theorem wd_lay : ∀ i, i < 12 → wd (([442, 982, 973, 991, 747, 1000, 1009, 1015, 1024, 1033, 1042, 1214] : List Nat).getD i 0) = some (.laysStatic eOr (ordNm.getD i "") eOd) := by decide +kernel
section
variable {args : Array Value} {s : State}
theorem nfb (h : ∀ w ∈ nF, w.before args s = true) {i : Nat} {w : Cond} (hi : nF[i]? = some w) : w.before args s = true := h w (List.mem_of_getElem? hi)
theorem nc_all (h : ∀ w ∈ nF, w.before args s = true) : ∀ i j, 1 ≤ i → i ≤ 5 → 1 ≤ j → j ≤ 5 → i ≠ j → va_Nc (ewEx i) (ewEx j) s := by
  intro i j h1 h2 h3 h4 h5
  have h6 := nfb h (nf_nc (i - 1) (by omega) (j - 1) (by omega) (by omega))
  rw [show i - 1 + 1 = i by omega, show j - 1 + 1 = j by omega] at h6
  exact va_Nc.of h6
theorem tx_all (h : ∀ w ∈ nF, w.before args s = true) {A : Nat → Prop} (hA : ∀ a : Nat, a < s.heap.size → ¬ A a) (j : Nat) : ∃ q : Nat × Nat, j < 41 → (tSt j).eval args s none [] s = some (.ref q.1) ∧ va_O "java/lang/String" q.1 A s s.heap ∧ va_OF "java/lang/String" "coder" "B" (.int 0) q.1 A s s.heap ∧ va_OF "java/lang/String" "value" "[B" (.ref q.2) q.1 A s s.heap ∧ va_T .byte q.2 (ewT j).length (fun i => .int (Int32.ofInt ((ewT j).getD i 0))) A s s.heap := by
  by_cases hj : j < 41
  · obtain ⟨a, c, cA, kA, q1, q2, q3, q4, q5, q6, -⟩ := Cond.exactly_spec (args := args) (first := s) (o := none) (s := s) (idx := []) (t := tSt j) (cls := "java/lang/String") (nfb h (nf_sx j hj))
    obtain ⟨t, ht, hT⟩ := va_Tof (N := (ewT j).length) (f := fun i => .int (Int32.ofInt ((ewT j).getD i 0))) (A := A) (by have := (ewT_in j 0).2; omega) (nfb h (nf_sa j hj)) (va_eqt (nfb h (nf_sl j hj))) (fun k hk => va_eqt (nfb h (nf_se j hj k hk))) hA
    exact ⟨(a, t), fun _ => ⟨q1, ⟨cA, q3, q5, by rw [q6]; exact q2, hA a (Array.getElem?_eq_some_iff.mp q3).1⟩, vk_OFof q1 (va_eqt (nfb h (nf_sc j hj))) hA, vk_OFof q1 ht hA, hT⟩⟩
  · exact ⟨(0, 0), fun z => absurd z hj⟩
end
/-- the constants' addresses -/
def eKm (b oa wa ta wo L : Nat) (xs : Nat → Nat) (ad : Nat → Nat) (tx : Nat → Nat × Nat) (a : Nat) : Nat :=
  if a = 1000 then b else if a = 1001 then oa else if a = 1002 then wa else if a = 1003 then ta else if a = 1004 then wo else if a < 1100 then ad (a - 1010) else if a < 1200 then (tx (a - 1100)).1 else if a < 1000000 then (tx (a - 1200)).2 else if a = 1000000 then L else xs (a - 1000001)
section
variable {b oa wa ta wo L : Nat} {xs : Nat → Nat} {ad : Nat → Nat} {tx : Nat → Nat × Nat}
theorem eKm_ad {i : Nat} (hi : i < 12) : eKm b oa wa ta wo L xs ad tx (1010 + i) = ad i := by
  unfold eKm
  rw [if_neg (by omega), if_neg (by omega), if_neg (by omega), if_neg (by omega), if_neg (by omega), if_pos (by omega), Nat.add_sub_cancel_left]
theorem eKm_tx {j : Nat} (hj : j < 41) : eKm b oa wa ta wo L xs ad tx (1100 + j) = (tx j).1 := by
  unfold eKm
  rw [if_neg (by omega), if_neg (by omega), if_neg (by omega), if_neg (by omega), if_neg (by omega), if_neg (by omega), if_pos (by omega), Nat.add_sub_cancel_left]
theorem eKm_tv {j : Nat} (hj : j < 41) : eKm b oa wa ta wo L xs ad tx (1200 + j) = (tx j).2 := by
  unfold eKm
  rw [if_neg (by omega), if_neg (by omega), if_neg (by omega), if_neg (by omega), if_neg (by omega), if_neg (by omega), if_neg (by omega), if_pos (by omega), Nat.add_sub_cancel_left]
theorem eKm_L : eKm b oa wa ta wo L xs ad tx 1000000 = L := by
  unfold eKm
  rw [if_neg (by omega), if_neg (by omega), if_neg (by omega), if_neg (by omega), if_neg (by omega), if_neg (by omega), if_neg (by omega), if_neg (by omega), if_pos rfl]
theorem eKm_xs {j : Nat} : eKm b oa wa ta wo L xs ad tx (1000001 + j) = xs j := by
  unfold eKm
  rw [if_neg (by omega), if_neg (by omega), if_neg (by omega), if_neg (by omega), if_neg (by omega), if_neg (by omega), if_neg (by omega), if_neg (by omega), if_neg (by omega), Nat.add_sub_cancel_left]
end
theorem va_Ef_congr {N : Nat} {o n d : String} {v v' : Nat → Value} {ad ad' : Nat → Nat} {A : Nat → Prop} {U : State} {H : Heap} (h : va_Ef N o n d v ad A U H) (h1 : ∀ i, i < N → v' i = v i) (h2 : ∀ i, i < N → ad' i = ad i) : va_Ef N o n d v' ad' A U H := by
  intro i hi
  show va_OF o n d (v' i) (ad' i) A U H
  rw [h1 i hi, h2 i hi]
  exact h i hi
theorem va_En_congr {E d : String} {nm : List String} {F : List (String × String × String × List Int32)} {ad ad' : Nat → Nat} {A : Nat → Prop} {U : State} {H : Heap} (h : va_En E d nm F ad A U H) (h2 : ∀ i, i < nm.length → ad' i = ad i) : va_En E d nm F ad' A U H := by
  refine ⟨fun i hi => ?_, fun i j hi hj e => h.2 i j hi hj (by rw [← h2 i hi, ← h2 j hj]; exact e)⟩
  show va_Z E (nm.getD i "") d (.ref (ad' i)) A U H ∧ va_O E (ad' i) A U H ∧ ∀ q ∈ F, va_OF q.1 q.2.1 q.2.2.1 (.int (q.2.2.2.getD i 0)) (ad' i) A U H
  rw [h2 i hi]
  exact h.1 i hi
theorem va_T_congr {ty : FieldType} {t N : Nat} {f f' : Nat → Value} {A : Nat → Prop} {U : State} {H : Heap} (h : va_T ty t N f A U H) (h1 : ∀ i, i < N → f' i = f i) : va_T ty t N f' A U H := by
  obtain ⟨cell, h2, h3, h4, h5, h6, h7, h8⟩ := h
  exact ⟨cell, h2, h3, h4, h5, h6, fun j hj => by rw [h1 j hj]; exact h7 j hj, h8⟩
theorem cst_start {args : Array Value} {s : State} {B b L : Nat} {xs : Nat → Int32} (h : ∀ w ∈ nF, w.before args s = true) (hts : ∀ w ∈ lw_tbl, w.before args s = true) (hA : ∀ a : Nat, a < s.heap.size → ¬ eAd B a) (hX : va_X b L xs s s.heap) (hb : b ≤ B) : ∃ K : Nat → Nat, eCst B K s ∧ K 1000 = b ∧ eXK K (L, fun j => (xs j).toInt) := by
  have hw : ∀ {j : Nat} {w : Cond}, wd j = some w → w.before args s = true := fun hj => hts _ (wd_mem hj)
  obtain ⟨tx, htx⟩ := Classical.axiomOfChoice (tx_all (A := eAd B) h hA)
  obtain ⟨ad, hEn, had⟩ := va_Enof2 (args := args) (s := s) (E := eOr) (d := eOd) (nm := ordNm) (F := [("java/lang/Enum", "ordinal", "I", (List.range 12).map Int32.ofNat)]) (A := eAd B) (fun i hi => hw (wd_lay i hi)) (hw (j:=13) rfl) (fun i hi => nfb h (nf_ex i hi))
    (fun q hq i hi => by rw [List.mem_singleton] at hq; subst hq; exact nfb h (nf_od i hi)) (fun i j hi hj hij => (nf_ne i hi j hj hij).imp (fun z => nfb h z) (fun z => nfb h z)) hA
  obtain ⟨n1, n2, n3, n4, n5, n6, n7, n8⟩ := nf_1
  obtain ⟨oa, ho1, ho2⟩ := va_Tof (N := 12) (f := fun j => .ref (ad j)) (A := eAd B) (by decide) (nfb h n1) (va_eqt (nfb h n2)) (fun j hj => va_eqv (nfb h (nf_oe j hj)) (had j hj)) hA
  obtain ⟨wa, hw1, hw2⟩ := va_Tof (N := 12) (f := fun j => .int (Int32.ofNat (if j = 11 then 0 else j + 1))) (A := eAd B) (by decide) (nfb h n3) (va_eqt (nfb h n4)) (fun j hj => va_eqt (nfb h (nf_we j hj))) hA
  obtain ⟨m1, m2, m3, m4⟩ := nf_2
  obtain ⟨ta, ht1, ht2⟩ := va_Tof (N := 8) (f := fun j => .ref (tx (24 + j)).1) (A := eAd B) (by decide) (nfb h m1) (va_eqt (nfb h m2)) (fun j hj => va_eqv (nfb h (nf_te j hj)) (htx (24 + j) (by omega)).1) hA
  obtain ⟨wo, hu1, hu2⟩ := va_Tof (N := 8) (f := fun j => .ref (tx (32 + j)).1) (A := eAd B) (by decide) (nfb h m3) (va_eqt (nfb h m4)) (fun j hj => va_eqv (nfb h (nf_wo j hj)) (htx (32 + j) (by omega)).1) hA
  have hxi : ∀ j : Nat, ((((xs j).toInt + 2147483648).toNat : Nat) : Int) - 2147483648 = (xs j).toInt := by
    intro j
    have := i32_in (xs j)
    unfold inR at this
    omega
  have hxe : (fun j => Int32.ofInt ((((eKm b oa wa ta wo L (fun j => ((xs j).toInt + 2147483648).toNat) ad tx (1000001 + j)) : Nat) : Int) - 2147483648)) = xs := funext fun j => by rw [eKm_xs, hxi j]; exact Int32.ofInt_toInt _
  have had2 : ∀ i, i < 12 → (tOr i).eval args s none [] s = some (.ref (ad i)) := had
  refine ⟨eKm b oa wa ta wo L (fun j => ((xs j).toInt + 2147483648).toNat) ad tx, ⟨vx_Zqof (hw (j:=691) rfl) (hw (j:=16) rfl) (nfb h n7) hA, vx_Zqof (hw (j:=693) rfl) (hw (j:=16) rfl) (nfb h n8) hA, va_AO.of (hw (j := 51) rfl), va_AO.of (hw (j := 101) rfl), va_AO.of (hw (j := 217) rfl),
    va_En_congr hEn (fun i hi => eKm_ad hi), ?_, va_Zref (hw (j := 461) rfl) (hw (j:=14) rfl) hw1 hA, hw2, va_Zref (hw (j := 1130) rfl) (hw (j:=1) rfl) ho1 hA, va_T_congr ho2 (fun i hi => by rw [eKm_ad hi]), fun j hj => ?_, va_Zof (hw (j := 1057) rfl) (hw (j := 23) rfl) (va_eqt (nfb h n5)) hA, va_Zqof (hw (j := 1073) rfl) (hw (j := 26) rfl) (nfb h n6) hA, nc_all h, va_Zref (hw (j:=1044) rfl) (hw (j:=0) rfl) ht1 hA, va_T_congr ht2 (fun i hi => by rw [show 1124 + i = 1100 + (24 + i) by omega, eKm_tx (by omega)]), va_Zref (hw (j:=1194) rfl) (hw (j:=0) rfl) hu1 hA, va_T_congr hu2 (fun i hi => by rw [show 1132 + i = 1100 + (32 + i) by omega, eKm_tx (by omega)]), ⟨by rw [hxe, eKm_L]; exact hX, hb⟩, rfl, by rw [show 1140 = 1100 + 40 from rfl, eKm_tx (by omega)]; exact vk_R.of (A := args) (hw (j:=1297) rfl) (htx 40 (by omega)).1⟩, rfl, eKm_L, fun j => by rw [eKm_xs]; exact hxi j⟩
  · intro f hf
    have hf2 : f = 0 ∨ f = 1 := by omega
    rcases hf2 with rfl | rfl
    · exact va_Ef_congr (va_Efof (v := fun i => .ref (tx i).1) (tm := tSt) had2 (fun i hi => nfb h (nf_f0 i hi)) (fun i hi => (htx i (by omega)).1) hA) (fun i hi => by rw [show 1100 + 12 * 0 + i = 1100 + i by omega, eKm_tx (by omega)]) (fun i hi => eKm_ad hi)
    · exact va_Ef_congr (va_Efof (v := fun i => .ref (tx (12 + i)).1) (tm := fun i => tSt (12 + i)) had2 (fun i hi => nfb h (nf_f1 i hi)) (fun i hi => (htx (12 + i) (by omega)).1) hA) (fun i hi => by rw [show 1100 + 12 * 1 + i = 1100 + (12 + i) by omega, eKm_tx (by omega)]) (fun i hi => eKm_ad hi)
  · rw [eKm_tx hj, eKm_tv hj]
    exact (htx j hj).2
theorem arP {args : Array Value} {s : State} {ty : FieldType} (h : (Cond.arrayClass ty).before args s = true) : ∃ cA : ClassId, ArrOfT s cA ty ∧ s.vm.findClass ("[" ++ ty.toString) = some cA := by
  obtain ⟨cA, kA, comp, h1, h2, h3⟩ := Cond.arrayClass_spec h
  exact ⟨cA, fun n z => ⟨fun k h => (by cases h), kA, h2, comp, h3⟩, h1⟩
theorem arO {args : Array Value} {s : State} {C : String} (h : (Cond.arrayOver (.object C)).before args s = true) : ∃ cA : ClassId, ArrOfT s cA (.object C) ∧ va_RA s cA (.object C) := by
  obtain ⟨comp, c, k, h1, h2, h3, h4, h5⟩ := Cond.arrayOver_spec h
  exact ⟨c, fun n z => ⟨fun k h => (by cases h), k, h3, comp, h4⟩, k, comp, h3, h4, h1, h5⟩
def dAm (c20 c21 c22 c30 c31 c32 : ClassId) (a : Nat) : ClassId := match a with
  | 20 => c20 | 21 => c21 | 22 => c22 | 30 => c30 | 31 => c31 | _ => c32
theorem kls_start {args : Array Value} {s : State} (hts : ∀ w ∈ lw_tbl, w.before args s = true) : ∃ (dA : Nat → ClassId) (D : va_G), va_K D eCl (eTys dA) s := by
  have hw : ∀ {j : Nat} {w : Cond}, wd j = some w → w.before args s = true := fun hj => hts _ (wd_mem hj)
  obtain ⟨c20, p20, q20⟩ := arP (ty := .int) (hw (j := 98) rfl)
  obtain ⟨c21, p21, q21⟩ := arP (ty := .char) (hw (j := 143) rfl)
  obtain ⟨c22, p22, q22⟩ := arP (ty := .boolean) (hw (j := 99) rfl)
  obtain ⟨c30, p30, q30⟩ := arO (C := "EchoWells$Well") (hw (j := 51) rfl)
  obtain ⟨c31, p31, q31⟩ := arO (C := "EchoWells$Rope") (hw (j := 101) rfl)
  obtain ⟨c32, p32, q32⟩ := arO (C := "EchoWells$World") (hw (j := 217) rfl)
  have h0 : ∀ c : Nat, ∃ q : ClassId × (Nat → Nat), ∀ r : vw_C, eCl[c]? = some r → u_Kn s r.1 r.2.1 r.2.2 q.1 q.2 := by
    intro c
    by_cases hc : c < 11
    · have hk : ∃ k ∈ eKs, eIx k = c := by
        have : ∀ c, c < 11 → ∃ k ∈ eKs, eIx k = c := by decide
        exact this c hc
      obtain ⟨k, hk, rfl⟩ := hk
      obtain ⟨cC, iS, hKn⟩ := u_known (C := eRc k) (T := eT k) (N := eN k) (n := eN k) hts (eCl_in k hk) (hts _ ((List.mem_filter.mp (eKs_w k hk).1).1))
      refine ⟨(cC, iS), fun r hr => ?_⟩
      rw [eCl_at k hk] at hr
      cases hr
      exact hKn
    · refine ⟨(0, fun _ => 0), fun r hr => ?_⟩
      rw [List.getElem?_eq_none (by show 11 ≤ c; omega)] at hr
      cases hr
  obtain ⟨f, hf⟩ := Classical.axiomOfChoice h0
  refine ⟨dAm c20 c21 c22 c30 c31 c32, (fun c => (f c).1, fun c => (f c).2), fun c q hq => hf c q hq, fun k q hk => ?_⟩
  match k, hk with
  | 0, hk => cases hk; exact ⟨p20, q20⟩
  | 1, hk => cases hk; exact ⟨p21, q21⟩
  | 2, hk => cases hk; exact ⟨p22, q22⟩
  | 3, hk => cases hk; exact ⟨p30, q30⟩
  | 4, hk => cases hk; exact ⟨p31, q31⟩
  | 5, hk => cases hk; exact ⟨p32, q32⟩
  | _ + 6, hk => cases hk
