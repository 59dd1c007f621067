/-! letters, signs, undoing, saving -/
section
variable {X : eX} {e : Nat} {h : Nat → Nat → Int} {w : Nat → Int} {c : Nat} {U : Nat → Nat → Int} {b : Bool} {r : Nat → Int} {k1 k2 : Int × Int} {W I L : List Int} {f : Int}
theorem CI_L {h h' : Nat → Nat → Int} {W' I' L' : List Int} {f' : Int} (l : CI h w c U b r k1 k2 W I L f) (q1 : h' 1 10 = h 1 10) (q : ∀ z, z < 577 → z ≠ 1 → (z < 560 ∨ 577 ≤ z) → h' z = h z) (l' : cL h' W' I' L' f') : CI h' w c U b r k1 k2 W' I' L' f' := by
  obtain ⟨l1, l2, l3, l4, l5⟩ := l
  exact ⟨wR_f (fun z h1 h2 => q z (by omega) (by omega) (by omega)) l1, cH_f (fun z h1 h2 => q z (by omega) (by omega) (by omega)) l2, cV_f q1 (fun z h1 h2 => q z (by omega) (by omega) (by omega)) l3, cK_f (fun z h1 h2 => q z (by omega) (by omega) (by omega)) l4, l'⟩
theorem c_letter {x : Int} (l : CI h w c U b r k1 k2 W I L f) (hx : 0 ≤ x ∧ x < 65536) {KI KX} (H1 : ¬ (97 ≤ x ∧ x ≤ 122) → KX 2 eNT (e + 1) ewP h) (H2 : (97 ≤ x ∧ x ≤ 122) → W.length = 8 → KX 3 eNT (e + 1) ewP h) (H0 : (97 ≤ x ∧ x ≤ 122) → W.length < 8 → ∀ h', (∀ z, 577 ≤ z → h' z = h z) → CI h' w c U b r k1 k2 (W ++ [x]) I L f → KI ((W.length : Int) + 1) eNT e ewP h') : eCi X m_X12_letter [vR 1, vI x] eNT e ewP h KI KX := by
  have l' := l
  obtain ⟨l1, l2, l3, l4, l5⟩ := l
  obtain ⟨p1, p2, p3, p4, p5, p6, p7, p8, p9⟩ := l5
  refine bk_X12_letter_0 X 1 x eNT e ewP h _ ?_
  rw [c_isLetter]
  by_cases q : 97 ≤ x ∧ x ≤ 122
  · rw [if_pos q, if_neg (by decide)]
    simp only [ck1, ck2, ck52, ck102, ck554, ck560, ck566, ck569, ck571, ck573, ck575, ck567, cp0, cp1, cp2, cp3, cp4, cp5, cp6, cp7, cp8, cp9, cy566, ite_true, true_and, and_true]
    rw [c_size1 cl569 p1]
    by_cases q2 : W.length < 8
    · rw [if_pos (by omega)]
      simp only [ck1, ck2, ck52, ck102, ck554, ck560, ck566, ck569, ck571, ck573, ck575, ck567, cp0, cp1, cp2, cp3, cp4, cp5, cp6, cp7, cp8, cp9, cy566, ite_true, true_and, and_true]
      refine w_put cl569 p1 (by omega) hx (fun h1 f1 g1 => ?_)
      simp only [ck1, ck2, ck52, ck102, ck554, ck560, ck566, ck569, ck571, ck573, ck575, ck567, cp0, cp1, cp2, cp3, cp4, cp5, cp6, cp7, cp8, cp9, cy566, ite_true, true_and, and_true]
      rw [c_size1 cl569 g1]
      have := H0 q q2 h1 (fun z hz => f1 z (by omega)) (CI_L l' (by rw [f1 1 (by omega)]) (fun z h2 h3 h4 => f1 z (by omega)) ⟨g1, by simp; omega, lR_frm f1 (by omega) p3, lR_frm f1 (by omega) p4, lR_frm f1 (by omega) p5, by rw [f1 1 (by omega)]; exact p6, lCh_f (f1 _ (by omega)) p7, lCh_f (f1 _ (by omega)) p8, lCh_f (f1 _ (by omega)) p9⟩)
      simpa using this
    · rw [if_neg (by omega)]
      exact H2 q (by omega)
  · rw [if_neg q, if_pos rfl]
    exact H1 q
theorem c_append {x : Int} (l : CI h w c U b r k1 k2 W I L f) {KI KX} (H1 : ¬ (32 ≤ x ∧ x ≤ 126) → KX 2 eNT (e + 1) ewP h) (H2 : (32 ≤ x ∧ x ≤ 126) → I.length = 60 → KX 3 eNT (e + 1) ewP h) (H0 : (32 ≤ x ∧ x ≤ 126) → I.length < 60 → ∀ h', (∀ z, 577 ≤ z → h' z = h z) → CI h' w c U b r k1 k2 W (I ++ [x]) L f → KI ((I.length : Int) + 1) eNT e ewP h') : eCi X m_X12_append [vR 1, vI x] eNT e ewP h KI KX := by
  have l' := l
  obtain ⟨l1, l2, l3, l4, l5⟩ := l
  obtain ⟨p1, p2, p3, p4, p5, p6, p7, p8, p9⟩ := l5
  have i60 := p4.2.1
  refine bk_X12_append_0 X 1 x eNT e ewP h _ ?_
  by_cases q0 : x < 32
  · rw [if_pos q0]
    exact H1 (by omega)
  · rw [if_neg q0]
    by_cases q : x ≤ 126
    · rw [if_pos q]
      simp only [ck1, ck2, ck52, ck102, ck554, ck560, ck566, ck569, ck571, ck573, ck575, ck567, cp0, cp1, cp2, cp3, cp4, cp5, cp6, cp7, cp8, cp9, cy566, ite_true, true_and, and_true]
      rw [c_size1 cl573 p4]
      by_cases q2 : I.length < 60
      · rw [if_pos (by omega)]
        simp only [ck1, ck2, ck52, ck102, ck554, ck560, ck566, ck569, ck571, ck573, ck575, ck567, cp0, cp1, cp2, cp3, cp4, cp5, cp6, cp7, cp8, cp9, cy566, ite_true, true_and, and_true]
        refine w_put cl573 p4 (by omega) (by omega) (fun h1 f1 g1 => ?_)
        simp only [ck1, ck2, ck52, ck102, ck554, ck560, ck566, ck569, ck571, ck573, ck575, ck567, cp0, cp1, cp2, cp3, cp4, cp5, cp6, cp7, cp8, cp9, cy566, ite_true, true_and, and_true]
        rw [c_size1 cl573 g1]
        have := H0 (by omega) q2 h1 (fun z hz => f1 z (by omega)) (CI_L l' (by rw [f1 1 (by omega)]) (fun z h2 h3 h4 => f1 z (by omega)) ⟨lR_frm f1 (by omega) p1, p2, lR_frm f1 (by omega) p3, g1, lR_frm f1 (by omega) p5, by rw [f1 1 (by omega)]; exact p6, lCh_f (f1 _ (by omega)) p7, lCh_f (f1 _ (by omega)) p8, lCh_f (f1 _ (by omega)) p9⟩)
        simpa using this
      · rw [if_neg (by omega)]
        exact H2 (by omega) (by omega)
    · rw [if_neg q]
      exact H1 (by omega)
theorem c_save (l : CI h w c U b r k1 k2 W I L f) {KI KX} (H : ∀ h', (∀ z, 577 ≤ z → h' z = h z) → CI h' w c U true w k1 k2 W I L f → KI (w 0) eNT e ewP h') : eCi X m_X12_save [vR 1] eNT e ewP h KI KX := by
  obtain ⟨l1, l2, l3, l4, l5⟩ := l
  refine bk_X12_save_0 X 1 eNT e ewP h _ ?_
  simp only [ck1, ck2, ck52, ck102, ck554, ck560, ck566, ck569, ck571, ck573, ck575, ck567, cp0, cp1, cp2, cp3, cp4, cp5, cp6, cp7, cp8, cp9, cy566, ite_true, true_and, and_true]
  refine w_wcR cl52 kb2 (by omega) l3.2.1 l1 (fun h1 f1 g1 => ?_)
  have w0 : h1 2 3 = w 0 := by
    obtain ⟨N, R, T, o, rr⟩ := l1
    rw [f1 2 (by omega), rr.1, o.1]
  simp only [ck1, ck2, ck52, ck102, ck554, ck560, ck566, ck569, ck571, ck573, ck575, ck567, cp0, cp1, cp2, cp3, cp4, cp5, cp6, cp7, cp8, cp9, cy566, ite_true, true_and, and_true]
  rw [if_pos (by decide), up_ne (show 2 ≠ 1 by decide), w0]
  have fz : ∀ z, z ≠ 1 → up h1 1 10 1 z = h1 z := fun z hz => up_ne hz
  refine H _ (fun z hz => by rw [fz z (by omega), f1 z (by omega)]) ⟨wR_f (fun z h2 h3 => by rw [fz z (by omega), f1 z (by omega)]) l1, cH_f (fun z h2 h3 => by rw [fz z (by omega), f1 z (by omega)]) l2, ⟨by rw [up_eq]; rfl, ?_, fun _ => wR_f (fun z h2 h3 => fz z (by omega)) g1⟩, cK_f (fun z h2 h3 => by rw [fz z (by omega), f1 z (by omega)]) l4, cL_f (by rw [up_nk (by omega), f1 1 (by omega)]) (fun z h2 h3 => by rw [fz z (by omega), f1 z (by omega)]) l5⟩
  have := wR_ch8 g1
  exact lCh_f (fz _ (by omega)) this
theorem CI_w {w' : Nat → Int} (l : CI h w c U b r k1 k2 W I L f) (q : ∀ k, k < 264 → w k = w' k) : CI h w' c U b r k1 k2 W I L f := ⟨wR_cg q l.1, l.2⟩
theorem c_restore (l : CI h w c U b r k1 k2 W I L f) {KI KX} (H1 : b = false → KX 3 eNT (e + 1) ewP h) (H0 : b = true → ∀ h', (∀ z, 577 ≤ z → h' z = h z) → CI h' r 0 U b r k1 k2 W I L f → KI (r 0) eNT e ewP h') : eCi X m_X12_restore [vR 1] eNT e ewP h KI KX := by
  obtain ⟨l1, l2, l3, l4, l5⟩ := l
  refine bk_X12_restore_0 X 1 eNT e ewP h _ ?_
  rw [if_pos ck1, l3.1]
  cases b with
  | false =>
    rw [if_pos (by decide)]
    exact H1 rfl
  | true =>
    rw [if_neg (by decide)]
    have lr := l3.2.2 rfl
    simp only [ck1, ck2, ck52, ck102, ck554, ck560, ck566, ck569, ck571, ck573, ck575, ck567, cp0, cp1, cp2, cp3, cp4, cp5, cp6, cp7, cp8, cp9, cy566, ite_true, true_and, and_true]
    refine w_wcR kb2 cl52 (by omega) (wR_ch8 l1) lr (fun h1 f1 g1 => ?_)
    simp only [ck1, ck2, ck52, ck102, ck554, ck560, ck566, ck569, ck571, ck573, ck575, ck567, cp0, cp1, cp2, cp3, cp4, cp5, cp6, cp7, cp8, cp9, cy566, ite_true, true_and, and_true]
    refine bk_X2_forget_0 X 102 eNT e ewP h1 _ ?_
    rw [if_pos ck102]
    have fz : ∀ z, z ≠ 102 → up h1 102 2 0 z = h1 z := fun z hz => up_ne hz
    have w0 : up h1 102 2 0 2 3 = r 0 := by
      obtain ⟨N, R, T, o, rr⟩ := g1
      rw [fz 2 (by omega), rr.1, o.1]
    show if kn ewK eNT 1 = 12 then _ else _
    simp only [ck1, ck2, ck52, ck102, ck554, ck560, ck566, ck569, ck571, ck573, ck575, ck567, cp0, cp1, cp2, cp3, cp4, cp5, cp6, cp7, cp8, cp9, cy566, ite_true, true_and, and_true]
    rw [w0]
    refine H0 rfl _ (fun z hz => by rw [fz z (by omega), f1 z (by omega)]) ⟨wR_f (fun z h2 h3 => fz z (by omega)) g1, ?_, cV_f (by rw [fz 1 (by omega), f1 1 (by omega)]) (fun z h2 h3 => by rw [fz z (by omega), f1 z (by omega)]) l3, cK_f (fun z h2 h3 => by rw [fz z (by omega), f1 z (by omega)]) l4, cL_f (by rw [fz 1 (by omega), f1 1 (by omega)]) (fun z h2 h3 => by rw [fz z (by omega), f1 z (by omega)]) l5⟩
    obtain ⟨c8, n2, ⟨s, hs, n1, hh⟩, hc⟩ := l2
    exact ⟨by omega, by rw [up_eq]; rfl, ⟨s, hs, by rw [up_nk (by omega), f1 _ (by omega)]; exact n1, fun j hj => absurd hj (Nat.not_lt_zero _)⟩, fun j hj => lCh_f (by rw [fz _ (by omega), f1 _ (by omega)]) (hc j hj)⟩
theorem c_undo (l : CI h w c U b r k1 k2 W I L f) {KI KX} (H1 : c = 0 → KX 3 eNT (e + 1) ewP h) (H0 : 0 < c → ∀ h', (∀ z, 577 ≤ z → h' z = h z) → CI h' (U (c - 1)) (c - 1) U b r k1 k2 W I L f → KI ((c - 1 : Nat) : Int) eNT e ewP h') : eCi X m_X12_undo [vR 1] eNT e ewP h KI KX := by
  obtain ⟨l1, ⟨c8, n2, ⟨s, hs, n1, hh⟩, hc⟩, l3, l4, l5⟩ := l
  refine bk_X12_undo_0 X 1 eNT e ewP h _ ?_
  simp only [ck1, ck2, ck52, ck102, ck554, ck560, ck566, ck569, ck571, ck573, ck575, ck567, cp0, cp1, cp2, cp3, cp4, cp5, cp6, cp7, cp8, cp9, cy566, ite_true, true_and, and_true, n2]
  by_cases c0 : c = 0
  · rw [if_pos (by omega)]
    exact H1 c0
  · rw [if_neg (by omega)]
    have go : ∀ h1, (∀ z, z ≠ 102 → h1 z = h z) → h1 102 1 = (((s + 8) % 9 : Nat) : Int) → h1 102 2 = ((c - 1 : Nat) : Int) → ∀ KV : Nat → Nat → (Nat → Nat → Nat) → (Nat → Nat → Int) → Prop, ∀ KX' : Nat → Nat → Nat → (Nat → Nat → Nat) → (Nat → Nat → Int) → Prop, (∀ h', frm 2 52 h1 h' → wR h' 2 (U (c - 1)) → KV eNT e ewP h') → eCv X m_X2_takeBack [vR 102, vR 2] eNT e ewP h1 KV KX' := by
      intro h1 hz g1 g2 KV KX' H
      have hu := hh (c - 1) (by omega)
      rw [show (s + 9 - c + (c - 1)) % 9 = (s + 8) % 9 by omega] at hu
      exact w_takeBack (by omega) g1 (wR_f (fun z h2 h3 => hz z (by omega)) hu) (wR_f (fun z h2 h3 => hz z (by omega)) l1) H
    have fin : ∀ h1 h', (∀ z, z ≠ 102 → h1 z = h z) → h1 102 1 = (((s + 8) % 9 : Nat) : Int) → h1 102 2 = ((c - 1 : Nat) : Int) → frm 2 52 h1 h' → wR h' 2 (U (c - 1)) → h' 102 2 = ((c - 1 : Nat) : Int) ∧ KI ((c - 1 : Nat) : Int) eNT e ewP h' := by
      intro h1 h' hz g1 g2 f g
      have e2 : h' 102 2 = ((c - 1 : Nat) : Int) := by rw [f _ (by omega)]; exact g2
      refine ⟨e2, H0 (by omega) h' (fun z h3 => by rw [f z (by omega), hz z (by omega)]) ⟨g, ⟨by omega, e2, ⟨(s + 8) % 9, by omega, by rw [f _ (by omega)]; exact g1, fun j hj => ?_⟩, fun j hj => lCh_f (by rw [f _ (by omega), hz _ (by omega)]) (hc j hj)⟩, cV_f (by rw [f 1 (by omega), hz 1 (by omega)]) (fun z h2 h3 => by rw [f z (by omega), hz z (by omega)]) l3, cK_f (fun z h2 h3 => by rw [f z (by omega), hz z (by omega)]) l4, cL_f (by rw [f 1 (by omega), hz 1 (by omega)]) (fun z h2 h3 => by rw [f z (by omega), hz z (by omega)]) l5⟩⟩
      have hu := hh j (by omega)
      rw [show ((s + 8) % 9 + 9 - (c - 1) + j) % 9 = (s + 9 - c + j) % 9 by omega]
      exact wR_f (fun z h2 h3 => by rw [f z (by omega), hz z (by omega)]) hu
    refine bk_X2_goBack_0 X 102 2 eNT e ewP h _ ?_
    simp only [ck102, ite_true, up_nk (show 2 ≠ 1 by decide), n1, n2]
    rw [show wr ((c : Int) - 1) = ((c - 1 : Nat) : Int) by rw [wrn (by omega) (by omega)]; omega]
    by_cases s0 : s = 0
    · rw [if_pos (by omega)]
      have z1 : ∀ z, z ≠ 102 → up (up h 102 1 8) 102 2 ((c - 1 : Nat) : Int) z = h z := fun z hz => by rw [up_ne hz, up_ne hz]
      have z2 : up (up h 102 1 8) 102 2 ((c - 1 : Nat) : Int) 102 1 = (((s + 8) % 9 : Nat) : Int) := by rw [up_nk (by omega), up_eq]; omega
      refine go _ z1 z2 up_eq _ _ (fun h' f g => ?_)
      obtain ⟨e2, e3⟩ := fin _ h' z1 z2 up_eq f g
      show if kn ewK eNT 1 = 12 then _ else _
      simp only [ck1, ck2, ck52, ck102, ck554, ck560, ck566, ck569, ck571, ck573, ck575, ck567, cp0, cp1, cp2, cp3, cp4, cp5, cp6, cp7, cp8, cp9, cy566, ite_true, true_and, and_true, e2]
      exact e3
    · rw [if_neg (by omega), show wr ((s : Int) - 1) = (((s + 8) % 9 : Nat) : Int) by rw [wrn (by omega) (by omega)]; omega]
      have z1 : ∀ z, z ≠ 102 → up (up h 102 1 (((s + 8) % 9 : Nat) : Int)) 102 2 ((c - 1 : Nat) : Int) z = h z := fun z hz => by rw [up_ne hz, up_ne hz]
      have z2 : up (up h 102 1 (((s + 8) % 9 : Nat) : Int)) 102 2 ((c - 1 : Nat) : Int) 102 1 = (((s + 8) % 9 : Nat) : Int) := by rw [up_nk (by omega), up_eq]
      refine go _ z1 z2 up_eq _ _ (fun h' f g => ?_)
      obtain ⟨e2, e3⟩ := fin _ h' z1 z2 up_eq f g
      show if kn ewK eNT 1 = 12 then _ else _
      simp only [ck1, ck2, ck52, ck102, ck554, ck560, ck566, ck569, ck571, ck573, ck575, ck567, cp0, cp1, cp2, cp3, cp4, cp5, cp6, cp7, cp8, cp9, cy566, ite_true, true_and, and_true, e2]
      exact e3
end
