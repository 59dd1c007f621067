/-! the class's state as a whole; a change of it -/
theorem cl1 : ewK 1 = 12 := by decide +kernel
theorem ck1 : kn ewK eNT 1 = 12 := kn_ly cl1 (by decide)
theorem cl2 : ewK 2 = 11 := by decide +kernel
theorem ck2 : kn ewK eNT 2 = 11 := kn_ly cl2 (by decide)
theorem cl52 : ewK 52 = 11 := by decide +kernel
theorem ck52 : kn ewK eNT 52 = 11 := kn_ly cl52 (by decide)
theorem cl102 : ewK 102 = 2 := by decide +kernel
theorem ck102 : kn ewK eNT 102 = 2 := kn_ly cl102 (by decide)
theorem cl554 : ewK 554 = 3 := by decide +kernel
theorem ck554 : kn ewK eNT 554 = 3 := kn_ly cl554 (by decide)
theorem cl560 : ewK 560 = 6 := by decide +kernel
theorem ck560 : kn ewK eNT 560 = 6 := kn_ly cl560 (by decide)
theorem cl566 : ewK 566 = 9 := by decide +kernel
theorem ck566 : kn ewK eNT 566 = 9 := kn_ly cl566 (by decide)
theorem cl569 : ewK 569 = 4 := by decide +kernel
theorem ck569 : kn ewK eNT 569 = 4 := kn_ly cl569 (by decide)
theorem cl571 : ewK 571 = 4 := by decide +kernel
theorem ck571 : kn ewK eNT 571 = 4 := kn_ly cl571 (by decide)
theorem cl573 : ewK 573 = 4 := by decide +kernel
theorem ck573 : kn ewK eNT 573 = 4 := kn_ly cl573 (by decide)
theorem cl575 : ewK 575 = 4 := by decide +kernel
theorem ck575 : kn ewK eNT 575 = 4 := kn_ly cl575 (by decide)
theorem cl567 : ewK 567 = 4 := by decide +kernel
theorem ck567 : kn ewK eNT 567 = 4 := kn_ly cl567 (by decide)
theorem cp0 : ewP 1 0 = 2 := by decide +kernel
theorem cp1 : ewP 1 1 = 52 := by decide +kernel
theorem cp2 : ewP 1 2 = 102 := by decide +kernel
theorem cp3 : ewP 1 3 = 554 := by decide +kernel
theorem cp4 : ewP 1 4 = 560 := by decide +kernel
theorem cp5 : ewP 1 5 = 566 := by decide +kernel
theorem cp6 : ewP 1 6 = 569 := by decide +kernel
theorem cp7 : ewP 1 7 = 571 := by decide +kernel
theorem cp8 : ewP 1 8 = 573 := by decide +kernel
theorem cp9 : ewP 1 9 = 575 := by decide +kernel
theorem cy566 : ewP 566 0 = 567 := by decide +kernel

def cH (h : Nat → Nat → Int) (c : Nat) (U : Nat → Nat → Int) : Prop := c ≤ 8 ∧ h 102 2 = (c : Int) ∧ (∃ s : Nat, s < 9 ∧ h 102 1 = (s : Int) ∧ ∀ j, j < c → wR h (104 + 50 * ((s + 9 - c + j) % 9)) (U j)) ∧ ∀ j, j < 9 → lCh h (104 + 50 * j + 48)
def cV (h : Nat → Nat → Int) (b : Bool) (r : Nat → Int) : Prop := h 1 10 = (if b = true then 1 else 0) ∧ lCh h 100 ∧ (b = true → wR h 52 r)
def cK (h : Nat → Nat → Int) (k1 k2 : Int × Int) : Prop := h 555 0 = k1.1 ∧ (k1.1 ≠ 0 → h 555 1 = k1.2) ∧ h 556 0 = k2.1 ∧ (k2.1 ≠ 0 → h 556 1 = k2.2) ∧ lCh h 558
def cL (h : Nat → Nat → Int) (W I L : List Int) (f : Int) : Prop := lR h 569 W ∧ W.length ≤ 8 ∧ lR h 571 [] ∧ lR h 573 I ∧ lR h 575 L ∧ h 1 11 = f ∧ lCh h 561 ∧ lCh h 563 ∧ lCh h 567
def CI (h : Nat → Nat → Int) (w : Nat → Int) (c : Nat) (U : Nat → Nat → Int) (b : Bool) (r : Nat → Int) (k1 k2 : Int × Int) (W I L : List Int) (f : Int) : Prop := wR h 2 w ∧ cH h c U ∧ cV h b r ∧ cK h k1 k2 ∧ cL h W I L f
theorem lCh_f {h h' : Nat → Nat → Int} {c : Nat} (q : h' (c + 1) = h (c + 1)) (l : lCh h c) : lCh h' c := by
  unfold lCh
  rw [q]
  exact l
theorem lR_f {h h' : Nat → Nat → Int} {c : Nat} {L : List Int} (q0 : h' c = h c) (q : h' (c + 1) = h (c + 1)) (l : lR h c L) : lR h' c L := by
  unfold lR lCh
  rw [q, q0]
  exact l
theorem wR_f {h h' : Nat → Nat → Int} {c : Nat} {w : Nat → Int} (q : ∀ z, c ≤ z → z < c + 50 → h' z = h z) (l : wR h c w) : wR h' c w := by
  obtain ⟨N, R, T, o, h1, h2, h3, h4, ⟨h5, h6, L, h7, h8⟩, h9⟩ := l
  have o2 := o.2.1
  have o4 := o.2.2.2.1
  refine ⟨N, R, T, o, by rw [q _ (by omega) (by omega)]; exact h1, by rw [q _ (by omega) (by omega)]; exact h2, fun i hi => ?_, fun r hr => ?_, ⟨by rw [q _ (by omega) (by omega)]; exact h5, fun k hk => by rw [q _ (by omega) (by omega)]; exact h6 k hk, L, lR_f (q _ (by omega) (by omega)) (q _ (by omega) (by omega)) h7, h8⟩, ?_⟩
  · have := h3 i hi
    unfold wlR thR at this ⊢
    rw [q _ (by omega) (by omega), q (c + 2 + 5 * i + 1) (by omega) (by omega), q (c + 2 + 5 * i + 2) (by omega) (by omega), q (c + 2 + 5 * i + 3) (by omega) (by omega), q (c + 2 + 5 * i + 4) (by omega) (by omega)]
    exact this
  · have := h4 r hr
    unfold rpR at this ⊢
    rw [q _ (by omega) (by omega)]
    exact this
  · unfold scR
    rw [q c (by omega) (by omega)]
    exact h9
theorem cH_f {h h' : Nat → Nat → Int} {c : Nat} {U : Nat → Nat → Int} (q : ∀ z, 102 ≤ z → z < 554 → h' z = h z) (l : cH h c U) : cH h' c U := by
  obtain ⟨l1, l2, ⟨s, l3, l4, l5⟩, l6⟩ := l
  refine ⟨l1, by rw [q _ (by omega) (by omega)]; exact l2, ⟨s, l3, by rw [q _ (by omega) (by omega)]; exact l4, fun j hj => wR_f (fun z h1 h2 => q z (by omega) (by omega)) (l5 j hj)⟩, fun j hj => lCh_f (q _ (by omega) (by omega)) (l6 j hj)⟩
theorem cV_f {h h' : Nat → Nat → Int} {b : Bool} {r : Nat → Int} (q1 : h' 1 10 = h 1 10) (q : ∀ z, 52 ≤ z → z < 102 → h' z = h z) (l : cV h b r) : cV h' b r := by
  obtain ⟨l1, l2, l3⟩ := l
  exact ⟨by rw [q1]; exact l1, lCh_f (q _ (by omega) (by omega)) l2, fun hb => wR_f (fun z h1 h2 => q z h1 (by omega)) (l3 hb)⟩
theorem cK_f {h h' : Nat → Nat → Int} {k1 k2 : Int × Int} (q : ∀ z, 555 ≤ z → z < 560 → h' z = h z) (l : cK h k1 k2) : cK h' k1 k2 := by
  obtain ⟨l1, l2, l3, l4, l5⟩ := l
  unfold cK
  rw [q 555 (by omega) (by omega), q 556 (by omega) (by omega)]
  exact ⟨l1, l2, l3, l4, lCh_f (q _ (by omega) (by omega)) l5⟩
theorem cL_f {h h' : Nat → Nat → Int} {W I L : List Int} {f : Int} (q1 : h' 1 11 = h 1 11) (q : ∀ z, 561 ≤ z → z < 577 → h' z = h z) (l : cL h W I L f) : cL h' W I L f := by
  obtain ⟨l1, l2, l3, l4, l5, l6, l7, l8, l9⟩ := l
  exact ⟨lR_f (q _ (by omega) (by omega)) (q _ (by omega) (by omega)) l1, l2, lR_f (q _ (by omega) (by omega)) (q _ (by omega) (by omega)) l3, lR_f (q _ (by omega) (by omega)) (q _ (by omega) (by omega)) l4, lR_f (q _ (by omega) (by omega)) (q _ (by omega) (by omega)) l5, by rw [q1]; exact l6, lCh_f (q _ (by omega) (by omega)) l7, lCh_f (q _ (by omega) (by omega)) l8, lCh_f (q _ (by omega) (by omega)) l9⟩
theorem CI_f {h h' : Nat → Nat → Int} {w : Nat → Int} {c : Nat} {U : Nat → Nat → Int} {b : Bool} {r : Nat → Int} {k1 k2 : Int × Int} {W I L : List Int} {f : Int} (q : ∀ z, z < 577 → h' z = h z) (l : CI h w c U b r k1 k2 W I L f) : CI h' w c U b r k1 k2 W I L f := by
  obtain ⟨l1, l2, l3, l4, l5⟩ := l
  exact ⟨wR_f (fun z h1 h2 => q z (by omega)) l1, cH_f (fun z h1 h2 => q z (by omega)) l2, cV_f (by rw [q 1 (by omega)]) (fun z h1 h2 => q z (by omega)) l3, cK_f (fun z h1 h2 => q z (by omega)) l4, cL_f (by rw [q 1 (by omega)]) (fun z h1 h2 => q z (by omega)) l5⟩
/-- a world kept -/
theorem cH_keep {h h' : Nat → Nat → Int} {c s : Nat} {U : Nat → Nat → Int} {w : Nat → Int} (c8 : c ≤ 8) (hs : s < 9) (l5 : ∀ j, j < c → wR h (104 + 50 * ((s + 9 - c + j) % 9)) (U j)) (l6 : ∀ j, j < 9 → lCh h (104 + 50 * j + 48)) (hw : wR h (104 + 50 * s) w) (q1 : h' 102 1 = (((s + 1) % 9 : Nat) : Int)) (q2 : h' 102 2 = ((pC c : Nat) : Int)) (q : ∀ z, 104 ≤ z → z < 554 → h' z = h z) : cH h' (pC c) (pU2 c U w) := by
  have p8 : pC c ≤ 8 := by unfold pC; split <;> omega
  refine ⟨p8, q2, ⟨(s + 1) % 9, by omega, q1, fun j hj => ?_⟩, fun j hj => lCh_f (q _ (by omega) (by omega)) (l6 j hj)⟩
  by_cases c7 : c < 8
  · have pc : pC c = c + 1 := by unfold pC; rw [if_pos c7]
    rw [pc] at hj ⊢
    unfold pU2
    rw [if_pos c7]
    by_cases e1 : j = c
    · rw [if_pos e1, show ((s + 1) % 9 + 9 - (c + 1) + j) % 9 = s by omega]
      exact wR_f (fun z h1 h2 => q z (by omega) (by omega)) hw
    · rw [if_neg e1, show ((s + 1) % 9 + 9 - (c + 1) + j) % 9 = (s + 9 - c + j) % 9 by omega]
      exact wR_f (fun z h1 h2 => q z (by omega) (by omega)) (l5 j (by omega))
  · have pc : pC c = 8 := by unfold pC; rw [if_neg c7]
    have ce : c = 8 := by omega
    subst ce
    rw [pc] at hj ⊢
    unfold pU2
    rw [if_neg c7]
    by_cases e1 : j = 7
    · rw [if_pos e1, show ((s + 1) % 9 + 9 - 8 + j) % 9 = s by omega]
      exact wR_f (fun z h1 h2 => q z (by omega) (by omega)) hw
    · rw [if_neg e1, show ((s + 1) % 9 + 9 - 8 + j) % 9 = (s + 9 - 8 + (j + 1)) % 9 by omega]
      exact wR_f (fun z h1 h2 => q z (by omega) (by omega)) (l5 (j + 1) (by omega))
section
variable {X : eX} {e : Nat} {h : Nat → Nat → Int} {w : Nat → Int} {c : Nat} {U : Nat → Nat → Int} {b : Bool} {r : Nat → Int} {k1 k2 : Int × Int} {W I L : List Int} {f : Int}
/-- a look: the state as it was, and the world noted -/
theorem w_lookI (l : CI h w c U b r k1 k2 W I L f) {KV KX} (H : ∀ h' s, s < 9 → h 102 1 = ((s : Nat) : Int) → (∀ j, j < c → wR h' (104 + 50 * ((s + 9 - c + j) % 9)) (U j)) → frm (104 + 50 * s) (104 + 50 * s + 50) h h' → wR h' (104 + 50 * s) w → CI h' w c U b r k1 k2 W I L f → KV eNT e ewP h') : eCv X m_X2_look [vR 102, vR 2] eNT e ewP h KV KX := by
  obtain ⟨l1, ⟨c8, n2, ⟨s, hs, n1, hh⟩, hc⟩, l3, l4, l5⟩ := l
  refine w_look hs n1 (hc s hs) l1 (fun h' f1 g => ?_)
  have hh' : ∀ j, j < c → wR h' (104 + 50 * ((s + 9 - c + j) % 9)) (U j) := fun j hj => wR_frm f1 (by omega) (hh j hj)
  refine H h' s hs n1 hh' f1 g ⟨wR_frm f1 (by omega) l1, ⟨c8, by rw [f1 _ (by omega)]; exact n2, ⟨s, hs, by rw [f1 _ (by omega)]; exact n1, hh'⟩, fun j hj => ?_⟩, cV_f (by rw [f1 1 (by omega)]) (fun z h1 h2 => f1 z (by omega)) l3, cK_f (fun z h1 h2 => f1 z (by omega)) l4, cL_f (by rw [f1 1 (by omega)]) (fun z h1 h2 => f1 z (by omega)) l5⟩
  by_cases q : j = s
  · subst q
    exact wR_ch8 g
  · exact lCh_f (f1 _ (by omega)) (hc j hj)
theorem c_changed {o : Nat} (ho : o < 12) {a1 a2 a3 : Int} (l : CI h w c U b r k1 k2 W I L f) {KI KX} (HR : ∀ x y, nOrd o w a1 a2 a3 W.length = (x, y) → x ≠ 0 → ∀ h', (∀ z, 577 ≤ z → h' z = h z) → CI h' w c U b r (x, y) (0, 0) W I L f → KX 1 eNT (e + 1) ewP h') (HD : nOrd o w a1 a2 a3 W.length = (0, 0) → ∀ h', (∀ z, 577 ≤ z → h' z = h z) → CI h' (dOrd o w a1 a2 a3 W) (pC c) (pU2 c U w) b r k1 k2 W I L f → KI (aOrd o w a1 a2 a3 W) eNT e ewP h') : eCi X m_X12_changed [vR 1, vR (1010 + o), vI a1, vI a2, vI a3] eNT e ewP h KI KX := by
  refine bk_X12_changed_0 X 1 (1010 + o) a1 a2 a3 eNT e ewP h _ ?_
  simp only [ck1, ck2, ck52, ck102, ck554, ck560, ck566, ck569, ck571, ck573, ck575, ck567, cp0, cp1, cp2, cp3, cp4, cp5, cp6, cp7, cp8, cp9, cy566, ite_true, true_and, and_true]
  refine w_lookI l (fun h1 s hs n1 hh f1 g1 l1 => ?_)
  simp only [ck1, ck2, ck52, ck102, ck554, ck560, ck566, ck569, ck571, ck573, ck575, ck567, cp0, cp1, cp2, cp3, cp4, cp5, cp6, cp7, cp8, cp9, cy566, ite_true, true_and, and_true]
  obtain ⟨m1, m2, m3, m4, m5⟩ := l1
  refine k_obey ho m1 cl569 (by decide) m5.1 m5.2.1 m4.2.2.2.2 (fun x y hn hx => ?_) (fun hn h2 f2 e1 e2 hch g2 nn => ?_)
  · rw [if_pos rfl]
    have fk := rfz_k (h := h1) (r := x) (d := y)
    refine HR x y hn hx _ (fun z hz => by rw [fk z (by omega) (by omega), f1 z (by omega)]) ⟨?_, ?_, ?_, ?_, ?_⟩
    · refine wR_f (fun z h3 h4 => ?_) m1
      unfold rfz
      rw [up_ne (by omega), up_ne (by omega), up_ne (by omega), up_ne (by omega)]
    · exact cH_f (fun z h3 h4 => fk z (by omega) (by omega)) m2
    · exact cV_f (by unfold rfz; rw [up_ne (by omega), up_ne (by omega), up_ne (by omega), up_ne (by omega)]) (fun z h3 h4 => fk z (by omega) (by omega)) m3
    · refine ⟨?_, fun _ => ?_, ?_, fun q => absurd rfl q, ?_⟩
      · unfold rfz; rw [up_ne (by omega), up_ne (by omega), up_nk (by omega), up_eq]
      · unfold rfz; rw [up_ne (by omega), up_ne (by omega), up_eq]
      · unfold rfz; rw [up_nk (by omega), up_eq]
      · refine lCh_f ?_ m4.2.2.2.2
        unfold rfz
        rw [up_ne (by omega), up_ne (by omega), up_ne (by omega), up_ne (by omega)]
    · exact cL_f (by unfold rfz; rw [up_ne (by omega), up_ne (by omega), up_ne (by omega), up_ne (by omega)]) (fun z h3 h4 => fk z (by omega) (by omega)) m5
  · rw [if_neg (by omega)]
    simp only [ck1, ck2, ck52, ck102, ck554, ck560, ck566, ck569, ck571, ck573, ck575, ck567, cp0, cp1, cp2, cp3, cp4, cp5, cp6, cp7, cp8, cp9, cy566, ite_true, true_and, and_true]
    have n2 : h2 102 2 = (c : Int) := by rw [f2 _ (by omega) (by omega)]; exact m2.2.1
    have n1' : h2 102 1 = (s : Int) := by rw [f2 _ (by omega) (by omega), f1 _ (by omega)]; exact n1
    rw [c_keep hs m2.1 n1' n2]
    have fin : ∀ z, z ≠ 102 → (up (up h2 102 1 (((s + 1) % 9 : Nat) : Int)) 102 2 ((if c < 8 then c + 1 else 8 : Nat) : Int)) z = h2 z := fun z hz => by rw [up_ne hz, up_ne hz]
    refine HD hn _ (fun z hz => by rw [fin z (by omega), f2 z (by omega) (by omega), f1 z (by omega)]) ⟨wR_f (fun z h3 h4 => fin z (by omega)) g2, ?_, ?_, ?_, ?_⟩
    · refine cH_keep (h := h1) m2.1 hs hh m2.2.2.2 g1 ?_ ?_ (fun z h3 h4 => by rw [fin z (by omega), f2 z (by omega) (by omega)])
      · rw [up_nk (by omega), up_eq]
      · rw [up_eq]; rfl
    · exact cV_f (by rw [fin 1 (by omega), f2 1 (by omega) (by omega)]) (fun z h3 h4 => by rw [fin z (by omega), f2 z (by omega) (by omega)]) m3
    · obtain ⟨k1', k2', k3', k4', k5'⟩ := m4
      unfold cK
      rw [fin 555 (by omega), fin 556 (by omega), e1, e2]
      exact ⟨k1', k2', k3', k4', lCh_f (fin _ (by omega)) hch⟩
    · exact cL_f (by rw [fin 1 (by omega), f2 1 (by omega) (by omega)]) (fun z h3 h4 => by rw [fin z (by omega), f2 z (by omega) (by omega)]) m5
end
