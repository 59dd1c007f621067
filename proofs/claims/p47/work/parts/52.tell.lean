/-! vowels, faults, lines -/
theorem anyF_0 (f : Nat → Prop) [DecidablePred f] : ∀ k i, (∀ t, i ≤ t → t < i + k → ¬ f t) → anyF f i k = 0 := by
  intro k
  induction k with
  | zero => intro i _; rfl
  | succ k ih =>
    intro i q
    simp only [anyF]
    rw [if_neg (q i (Nat.le_refl _) (by omega)), ih (i + 1) (fun t h1 h2 => q t (by omega) (by omega))]
def tld (w : Nat → Int) : Int := if w 6 = wr (wr (w 3 + w 5) - w 4) then 1 else 0
section
variable {X : eX} {e : Nat} {h : Nat → Nat → Int} {w : Nat → Int} {c : Nat} {U : Nat → Nat → Int} {b : Bool} {r : Nat → Int} {k1 k2 : Int × Int} {W I L : List Int} {f : Int} {N R : Nat} {T : Nat → Nat}
theorem kb49 : ewP 48 1 = 50 := (k1 kl48).2.2.1
theorem cl50 : ewK 50 = 4 := (k1 kl48).2.2.2.2.2.1
/-- the letters of the latest echo -/
def latE (w : Nat → Int) (E : List Int) : Prop := w 11 = (E.length : Int) ∧ E.length ≤ 13 ∧ (∀ k, k < E.length → E[k]? = some (w (12 + k))) ∧ ∀ z, z ∈ E → 0 ≤ z ∧ z < 65536
theorem wR_lat (l : wR h 2 w) : ∃ E, latE w E ∧ lR h 50 E := by
  obtain ⟨N, R, T, o, rr⟩ := l
  obtain ⟨b1, b2, E, b3, b4, b5, b6⟩ := rr.2.2.2.2.1
  exact ⟨E, ⟨b5, b4, b6, fun z hz => lR_x b3 hz⟩, b3⟩
theorem latE_u {E E' : List Int} (a : latE w E) (b : latE w E') : E = E' := by
  obtain ⟨a1, a2, a3, a4⟩ := a
  obtain ⟨b1, b2, b3, b4⟩ := b
  refine List.ext_getElem? (fun k => ?_)
  by_cases q : k < E.length
  · rw [a3 k q, b3 k (by omega)]
  · rw [List.getElem?_eq_none (by omega), List.getElem?_eq_none (by omega)]
theorem c_tellEcho {E : List Int} (hE : latE w E) (l : CI h w c U b r k1 k2 W I L f) {KI KX} (H : ∀ h', (∀ z, 577 ≤ z → h' z = h z) → CI h' w c U b r k1 k2 W I E f → KI (E.length : Int) eNT e ewP h') : eCi X m_X12_tellEcho [vR 1] eNT e ewP h KI KX := by
  have l' := l
  obtain ⟨l1, l2, l3, l4, p1, p2, p3, p4, p5, p6, p7, p8, p9⟩ := l
  obtain ⟨E', e1, e2⟩ := wR_lat l1
  have : E = E' := latE_u hE e1
  subst this
  refine bk_X12_tellEcho_0 X 1 eNT e ewP h _ ?_
  simp only [ck1, ck2, ck52, ck102, ck554, ck560, ck566, ck569, ck571, ck573, ck575, ck567, cp0, cp1, cp2, cp3, cp4, cp5, cp6, cp7, cp8, cp9, cy566, ite_true, true_and, and_true, kb48, kk48, kb49]
  refine w_copy cl575 cl50 (by decide) p5.2.2.2 e2 (fun h1 f1 g1 => ?_)
  simp only [ck1, ck2, ck52, ck102, ck554, ck560, ck566, ck569, ck571, ck573, ck575, ck567, cp0, cp1, cp2, cp3, cp4, cp5, cp6, cp7, cp8, cp9, cy566, ite_true, true_and, and_true]
  rw [c_size1 cl575 g1]
  exact H h1 (fun z hz => f1 z (by omega)) (CI_L l' (by rw [f1 1 (by omega)]) (fun z h2 h3 h4 => f1 z (by omega)) ⟨lR_frm f1 (by omega) p1, p2, lR_frm f1 (by omega) p3, lR_frm f1 (by omega) p4, g1, by rw [f1 1 (by omega)]; exact p6, lCh_f (f1 _ (by omega)) p7, lCh_f (f1 _ (by omega)) p8, lCh_f (f1 _ (by omega)) p9⟩)
/-- the reference writes a sign -/
def lnR (h : Nat → Nat → Int) (L : List Int) : Prop := h 577 22 = (L.length : Int) ∧ aR h 585 L
theorem MI_ln {h' : Nat → Nat → Int} {L' : List Int} (l : MI h w c U b r k1 k2 W I L f) (q : mfr [585] [0, 22] h h') (n : lnR h' L') (hL : L'.length ≤ 60) : MI h' w c U b r k1 k2 W I L' f := by
  obtain ⟨l1, l2, l3, l4, p1, p2, p3, p4, p5, p6, p7, p8, p9, p10⟩ := l
  have gk : ∀ k, k ≠ 0 → k ≠ 22 → h' 577 k = h 577 k := fun k h1 h2 => q.2 k (by simp [h1, h2])
  have gc : ∀ z, z ≠ 577 → z ≠ 585 → h' z = h z := fun z h1 h2 => q.1 z (by simp [h2]) h1
  exact ⟨by rw [gc _ (by omega) (by omega)]; exact l1, mH_f (gk _ (by omega) (by omega)) (gk _ (by omega) (by omega)) (gc _ (by omega) (by omega)) l2, mV_f (gk _ (by omega) (by omega)) (gc _ (by omega) (by omega)) l3, mK_f (fun k h1 h2 => gk k (by omega) (by omega)) l4, by rw [gk _ (by omega) (by omega)]; exact p1, p2, aR_h (gc _ (by omega) (by omega)) p3, by rw [gk _ (by omega) (by omega)]; exact p4, p5, aR_h (gc _ (by omega) (by omega)) p6, n.1, hL, n.2, by rw [gk _ (by omega) (by omega)]; exact p10⟩
theorem lp_cisTold (hN : w 0 ≤ 8) : ∀ (j i : Nat) (h : Nat → Nat → Int) (j2 : eV), ((i + j : Nat) : Int) = w 0 → CI h w c U b r k1 k2 W I L f → ∀ Q, (∀ h', (∀ z, 577 ≤ z → h' z = h z) → CI h' w c U b r k1 k2 W I L f → Q (.inl (some (vI (tld w)))) (eNT, e, ewP, h')) → eP X m_X12_isTold 2 [vR 1, vI (i : Int), j2] [] (eNT, e, ewP, h) Q := by
  intro j
  induction j with
  | zero =>
    intro i h j2 hi l Q H
    refine bk_X12_isTold_2 X 1 i j2 eNT e ewP h Q ?_
    obtain ⟨N, R, T, o, rr⟩ := id l.1
    obtain ⟨s1, s2, s3, s4, s5, s6, s7, s8⟩ := rr.2.2.2.2.2
    have o1 := o.1
    simp only [ck1, ck2, ck52, ck102, ck554, ck560, ck566, ck569, ck571, ck573, ck575, ck567, cp0, cp1, cp2, cp3, cp4, cp5, cp6, cp7, cp8, cp9, cy566, ite_true, true_and, and_true]
    rw [rr.1, if_neg (by omega), s6, s3, s5, s4]
    have := H h (fun _ _ => rfl) l
    unfold tld at this
    by_cases q : w 6 = wr (wr (w 3 + w 5) - w 4)
    · rw [if_pos q] at this ⊢
      rw [if_pos (by decide)]
      exact this
    · rw [if_neg q] at this ⊢
      rw [if_pos (by decide)]
      exact this
  | succ j ih =>
    intro i h j2 hi l Q H
    refine bk_X12_isTold_2 X 1 i j2 eNT e ewP h Q ?_
    obtain ⟨N, R, T, o, rr⟩ := id l.1
    have o1 := o.1
    have q : 0 ≤ (i : Int) ∧ (i : Int) < w 0 := by omega
    simp only [ck1, ck2, ck52, ck102, ck554, ck560, ck566, ck569, ck571, ck573, ck575, ck567, cp0, cp1, cp2, cp3, cp4, cp5, cp6, cp7, cp8, cp9, cy566, ite_true, true_and, and_true]
    rw [rr.1, if_pos (by omega), c_wellQ o rr, if_pos q, if_neg (by omega)]
    refine w_timeOn l q (fun h1 f1 l1 => ?_)
    obtain ⟨hk, wl, wo, x8⟩ := wR_well l1.1 q
    rw [if_pos (w10 hk).1, c_timeK hk wl wo, if_pos rfl, if_pos (w10 hk).1, c_hasThingBelow hk wl.2.2.1 wl.1]
    have e0 : anyF (fun t => ¬ h1 (4 + 5 * (i : Int).toNat + 2) t ≤ h1 (4 + 5 * (i : Int).toNat) 5) 0 (wW w (i : Int).toNat 2).toNat = 0 := by
      refine anyF_0 _ _ 0 (fun t h3 h4 => ?_)
      rw [(wl.2.2.2.2.2.2.2 t (by omega)).2.1, wl.2.2.2.1]
      have := (wo.2.2.2.2 t (by omega)).2.1
      omega
    rw [e0, if_pos rfl, wi1 (by omega)]
    exact ih (i + 1) h1 _ (by omega) l1 Q (fun h' f' => H h' (fun z hz => by rw [f' z hz, f1 z (by omega)]))
theorem c_isTold (l : CI h w c U b r k1 k2 W I L f) {KI KX} (H : ∀ h', (∀ z, 577 ≤ z → h' z = h z) → CI h' w c U b r k1 k2 W I L f → KI (tld w) eNT e ewP h') : eCi X m_X12_isTold [vR 1] eNT e ewP h KI KX := by
  have w0 := wR_w0 l.1
  refine bk_X12_isTold_0 X 1 eNT e ewP h _ ?_
  exact lp_cisTold w0.2 (w 0).toNat 0 h _ (by omega) l _ H
end
