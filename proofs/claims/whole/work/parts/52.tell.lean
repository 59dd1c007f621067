/-! vowels, faults, lines -/
theorem anyF_0 (f : Nat → Prop) [DecidablePred f] : ∀ k i, (∀ t, i ≤ t → t < i + k → ¬ f t) → anyF f i k = 0 := by
  intro k
  induction k with
  | zero => intro i _; rfl
  | succ k ih =>
    intro i q
    simp only [anyF]
    rw [if_neg (q i (Nat.le_refl _) (by omega)), ih (i + 1) (fun t h1 h2 => q t (by omega) (by omega))]
def tld (w : Nat → Int) : Int := if w 6 = wr (wr (w 3 + w 5) - w 4) then 1 else 0
section
variable {X : eX} {e : Nat} {h : Nat → Nat → Int} {w : Nat → Int} {c : Nat} {U : Nat → Nat → Int} {b : Bool} {r : Nat → Int} {k1 k2 : Int × Int} {W I L : List Int} {f : Int} {N R : Nat} {T : Nat → Nat}
theorem c_vowels (l : CI h w c U b r k1 k2 W I L f) (KI KX) : eCi X m_X12_vowels [vR 1] eNT e ewP h KI KX = KI (W.countP isV : Nat) eNT e ewP h := by
  refine eCi_eq X (fun Q H => ?_) KI KX
  refine bk_X12_vowels_0 X 1 eNT e ewP h Q ?_
  simp only [ck1, ck2, ck52, ck102, ck554, ck560, ck566, ck569, ck571, ck573, ck575, ck567, cp0, cp1, cp2, cp3, cp4, cp5, cp6, cp7, cp8, cp9, cy566, ite_true, true_and, and_true]
  rw [c_countOfVowels cl569 l.2.2.2.2.1]
  exact H
theorem lp_mvowels (h1 : h 577 16 = (W.length : Int)) (h8 : W.length ≤ 8) (h2 : aR h 582 W) : ∀ (B A : List Int), A ++ B = W → ∀ Q, Q (.inl (some (vI (W.countP isV : Nat)))) (eNT, e, ewP, h) → eP X m_X13_vowels 7 [vR 577, vI (A.countP isV : Nat), vI (A.length : Int)] [] (eNT, e, ewP, h) Q := by
  intro B
  induction B with
  | nil =>
    intro A hW Q H
    rw [List.append_nil] at hW
    subst hW
    refine bk_X13_vowels_7 X 577 _ _ eNT e ewP h Q ?_
    rw [if_pos mk577, if_neg (by omega)]
    exact H
  | cons x B ih =>
    intro A hW Q H
    refine bk_X13_vowels_7 X 577 _ _ eNT e ewP h Q ?_
    have hl : A.length + (B.length + 1) = W.length := by rw [← hW]; simp
    have hx : W[A.length]? = some x := by rw [← hW]; simp
    have h61 : A.countP isV ≤ A.length := List.countP_le_length
    rw [if_pos mk577, if_pos (by omega)]
    simp only [mk577, mk578, mk579, mk580, mk581, mk582, mk583, mk584, mk585, mk586, mk587, mn578, mn579, mn580, mn581, mn582, mn583, mn584, mn585, mn586, mn587, mp578, mp579, mp580, mp581, mp582, mp583, mp584, mp585, mp586, mp587, ite_true, true_and, and_true, Int.toNat_natCast]
    rw [if_pos ⟨by omega, by omega⟩, aR_g h2 hx, m_isVowel]
    have e1 : wr ((A.length : Int) + 1) = (((A ++ [x]).length : Nat) : Int) := by rw [wrn (by omega) (by omega)]; simp
    have h3 := ih (A ++ [x]) (by simpa using hW) Q H
    rw [e1]
    by_cases q : isV x = true
    · rw [if_neg (by rw [if_pos q]; decide), wrn (by omega) (by omega)]
      rw [List.countP_append] at h3
      simpa [q] using h3
    · rw [if_pos (by rw [if_neg q]), wrn (by omega) (by omega)]
      rw [List.countP_append] at h3
      simpa [q] using h3
theorem m_vowels (l : MI h w c U b r k1 k2 W I L f) {KI KX} (H : ∀ h', mB h h' → MI h' w c U b r k1 k2 W I L f → KI (W.countP isV : Nat) eNT e ewP h') : eCi X m_X13_vowels [vR 577] eNT e ewP h KI KX := by
  refine bk_X13_vowels_0 X 577 eNT e ewP h _ ?_
  rw [if_pos mk577]
  have l5 := l.2.2.2.2
  exact lp_mvowels (by rw [up_nk (by omega)]; exact l5.1) l5.2.1 (aR_h (up_ne (by omega)) l5.2.2.1) W [] rfl _ (H _ (mB_up (fun _ _ => rfl) (by omega)) (MI_0 l))
theorem c_fault (l : CI h w c U b r k1 k2 W I L f) (KI KX) : eCi X m_X12_faultPosition [vR 1] eNT e ewP h KI KX = KI f eNT e ewP h := by
  refine eCi_eq X (fun Q H => ?_) KI KX
  refine bk_X12_faultPosition_0 X 1 eNT e ewP h Q ?_
  rw [if_pos ck1, l.2.2.2.2.2.2.2.2.2.1]
  exact H
theorem m_fault (l : MI h w c U b r k1 k2 W I L f) {KI KX} (H : ∀ h', mB h h' → MI h' w c U b r k1 k2 W I L f → KI f eNT e ewP h') : eCi X m_X13_faultPosition [vR 577] eNT e ewP h KI KX := by
  refine bk_X13_faultPosition_0 X 577 eNT e ewP h _ ?_
  rw [if_pos mk577, if_pos mk577, up_nk (by omega), l.2.2.2.2.2.2.2.2.2.2.2.2.2]
  exact H _ (mB_up (fun _ _ => rfl) (by omega)) (MI_0 l)
theorem c_tellWord (l : CI h w c U b r k1 k2 W I L f) {KI KX} (H : ∀ h', (∀ z, 577 ≤ z → h' z = h z) → CI h' w c U b r k1 k2 W I W f → KI (W.length : Int) eNT e ewP h') : eCi X m_X12_tellWord [vR 1] eNT e ewP h KI KX := by
  have l' := l
  obtain ⟨l1, l2, l3, l4, p1, p2, p3, p4, p5, p6, p7, p8, p9⟩ := l
  refine bk_X12_tellWord_0 X 1 eNT e ewP h _ ?_
  simp only [ck1, ck2, ck52, ck102, ck554, ck560, ck566, ck569, ck571, ck573, ck575, ck567, cp0, cp1, cp2, cp3, cp4, cp5, cp6, cp7, cp8, cp9, cy566, ite_true, true_and, and_true]
  refine w_copy cl575 cl569 (by decide) p5.2.2.2 p1 (fun h1 f1 g1 => ?_)
  simp only [ck1, ck2, ck52, ck102, ck554, ck560, ck566, ck569, ck571, ck573, ck575, ck567, cp0, cp1, cp2, cp3, cp4, cp5, cp6, cp7, cp8, cp9, cy566, ite_true, true_and, and_true]
  rw [c_size1 cl575 g1]
  exact H h1 (fun z hz => f1 z (by omega)) (CI_L l' (by rw [f1 1 (by omega)]) (fun z h2 h3 h4 => f1 z (by omega)) ⟨lR_frm f1 (by omega) p1, p2, lR_frm f1 (by omega) p3, lR_frm f1 (by omega) p4, g1, by rw [f1 1 (by omega)]; exact p6, lCh_f (f1 _ (by omega)) p7, lCh_f (f1 _ (by omega)) p8, lCh_f (f1 _ (by omega)) p9⟩)
theorem kb49 : ewP 48 1 = 50 := (k1 kl48).2.2.1
theorem cl50 : ewK 50 = 4 := (k1 kl48).2.2.2.2.2.1
/-- the letters of the latest echo -/
def latE (w : Nat → Int) (E : List Int) : Prop := w 11 = (E.length : Int) ∧ E.length ≤ 13 ∧ (∀ k, k < E.length → E[k]? = some (w (12 + k))) ∧ ∀ z, z ∈ E → 0 ≤ z ∧ z < 65536
theorem wR_lat (l : wR h 2 w) : ∃ E, latE w E ∧ lR h 50 E := by
  obtain ⟨N, R, T, o, rr⟩ := l
  obtain ⟨b1, b2, E, b3, b4, b5, b6⟩ := rr.2.2.2.2.1
  exact ⟨E, ⟨b5, b4, b6, fun z hz => lR_x b3 hz⟩, b3⟩
theorem latE_u {E E' : List Int} (a : latE w E) (b : latE w E') : E = E' := by
  obtain ⟨a1, a2, a3, a4⟩ := a
  obtain ⟨b1, b2, b3, b4⟩ := b
  refine List.ext_getElem? (fun k => ?_)
  by_cases q : k < E.length
  · rw [a3 k q, b3 k (by omega)]
  · rw [List.getElem?_eq_none (by omega), List.getElem?_eq_none (by omega)]
theorem c_tellEcho {E : List Int} (hE : latE w E) (l : CI h w c U b r k1 k2 W I L f) {KI KX} (H : ∀ h', (∀ z, 577 ≤ z → h' z = h z) → CI h' w c U b r k1 k2 W I E f → KI (E.length : Int) eNT e ewP h') : eCi X m_X12_tellEcho [vR 1] eNT e ewP h KI KX := by
  have l' := l
  obtain ⟨l1, l2, l3, l4, p1, p2, p3, p4, p5, p6, p7, p8, p9⟩ := l
  obtain ⟨E', e1, e2⟩ := wR_lat l1
  have : E = E' := latE_u hE e1
  subst this
  refine bk_X12_tellEcho_0 X 1 eNT e ewP h _ ?_
  simp only [ck1, ck2, ck52, ck102, ck554, ck560, ck566, ck569, ck571, ck573, ck575, ck567, cp0, cp1, cp2, cp3, cp4, cp5, cp6, cp7, cp8, cp9, cy566, ite_true, true_and, and_true, kb48, kk48, kb49]
  refine w_copy cl575 cl50 (by decide) p5.2.2.2 e2 (fun h1 f1 g1 => ?_)
  simp only [ck1, ck2, ck52, ck102, ck554, ck560, ck566, ck569, ck571, ck573, ck575, ck567, cp0, cp1, cp2, cp3, cp4, cp5, cp6, cp7, cp8, cp9, cy566, ite_true, true_and, and_true]
  rw [c_size1 cl575 g1]
  exact H h1 (fun z hz => f1 z (by omega)) (CI_L l' (by rw [f1 1 (by omega)]) (fun z h2 h3 h4 => f1 z (by omega)) ⟨lR_frm f1 (by omega) p1, p2, lR_frm f1 (by omega) p3, lR_frm f1 (by omega) p4, g1, by rw [f1 1 (by omega)]; exact p6, lCh_f (f1 _ (by omega)) p7, lCh_f (f1 _ (by omega)) p8, lCh_f (f1 _ (by omega)) p9⟩)
/-- the reference writes a sign -/
def lnR (h : Nat → Nat → Int) (L : List Int) : Prop := h 577 22 = (L.length : Int) ∧ aR h 585 L
theorem m_writes {v : Int} (l : lnR h L) (hL : L.length < 60) (hv : 0 ≤ v ∧ v < 65536) {KV KX} (H : ∀ h', mfr [585] [22] h h' → lnR h' (L ++ [v]) → KV eNT e ewP h') : eCv X m_X13_writes [vR 577, vI v] eNT e ewP h KV KX := by
  obtain ⟨l1, l2⟩ := l
  refine bk_X13_writes_0 X 577 v eNT e ewP h _ ?_
  simp only [mk577, mk578, mk579, mk580, mk581, mk582, mk583, mk584, mk585, mk586, mk587, mn578, mn579, mn580, mn581, mn582, mn583, mn584, mn585, mn586, mn587, mp578, mp579, mp580, mp581, mp582, mp583, mp584, mp585, mp586, mp587, ite_true, true_and, and_true, l1, Int.toNat_natCast, up_ne (show 577 ≠ 585 by decide)]
  rw [if_pos ⟨by omega, by omega⟩, wi1 (by omega), Int.emod_eq_of_lt hv.1 hv.2, Int.emod_eq_of_lt hv.1 hv.2]
  exact H _ (mfr_f (mfr_c mfr_rfl (by decide) (by decide)) (by decide)) ⟨by rw [up_eq]; simp, aR_h (up_ne (by decide)) (aR_app l2)⟩
theorem MI_ln {h' : Nat → Nat → Int} {L' : List Int} (l : MI h w c U b r k1 k2 W I L f) (q : mfr [585] [0, 22] h h') (n : lnR h' L') (hL : L'.length ≤ 60) : MI h' w c U b r k1 k2 W I L' f := by
  obtain ⟨l1, l2, l3, l4, p1, p2, p3, p4, p5, p6, p7, p8, p9, p10⟩ := l
  have gk : ∀ k, k ≠ 0 → k ≠ 22 → h' 577 k = h 577 k := fun k h1 h2 => q.2 k (by simp [h1, h2])
  have gc : ∀ z, z ≠ 577 → z ≠ 585 → h' z = h z := fun z h1 h2 => q.1 z (by simp [h2]) h1
  exact ⟨by rw [gc _ (by omega) (by omega)]; exact l1, mH_f (gk _ (by omega) (by omega)) (gk _ (by omega) (by omega)) (gc _ (by omega) (by omega)) l2, mV_f (gk _ (by omega) (by omega)) (gc _ (by omega) (by omega)) l3, mK_f (fun k h1 h2 => gk k (by omega) (by omega)) l4, by rw [gk _ (by omega) (by omega)]; exact p1, p2, aR_h (gc _ (by omega) (by omega)) p3, by rw [gk _ (by omega) (by omega)]; exact p4, p5, aR_h (gc _ (by omega) (by omega)) p6, n.1, hL, n.2, by rw [gk _ (by omega) (by omega)]; exact p10⟩
theorem lp_tellWord (hW8 : W.length ≤ 8) (hch : ∀ z, z ∈ W → 0 ≤ z ∧ z < 65536) : ∀ (B A : List Int) (h : Nat → Nat → Int), A ++ B = W → h 577 16 = (W.length : Int) → aR h 582 W → lnR h A → ∀ Q, (∀ h', mfr [585] [22] h h' → lnR h' W → Q (.inl (some (vI (W.length : Int)))) (eNT, e, ewP, h')) → eP X m_X13_tellWord 8 [vR 577, vI (A.length : Int)] [] (eNT, e, ewP, h) Q := by
  intro B
  induction B with
  | nil =>
    intro A h hW h1 h2 h3 Q H
    rw [List.append_nil] at hW
    subst hW
    refine bk_X13_tellWord_8 X 577 _ eNT e ewP h Q ?_
    rw [if_pos mk577, if_neg (by omega), if_pos mk577, h3.1]
    exact H h mfr_rfl h3
  | cons x B ih =>
    intro A h hW h1 h2 h3 Q H
    refine bk_X13_tellWord_8 X 577 _ eNT e ewP h Q ?_
    have hl : A.length + (B.length + 1) = W.length := by rw [← hW]; simp
    have hx : W[A.length]? = some x := by rw [← hW]; simp
    rw [if_pos mk577, if_pos (by omega)]
    simp only [mk577, mk578, mk579, mk580, mk581, mk582, mk583, mk584, mk585, mk586, mk587, mn578, mn579, mn580, mn581, mn582, mn583, mn584, mn585, mn586, mn587, mp578, mp579, mp580, mp581, mp582, mp583, mp584, mp585, mp586, mp587, ite_true, true_and, and_true, Int.toNat_natCast]
    rw [if_pos ⟨by omega, by omega⟩, aR_g h2 hx]
    refine m_writes h3 (by omega) (hch x (List.mem_of_getElem? hx)) (fun h' f' l' => ?_)
    have e1 : wr ((A.length : Int) + 1) = (((A ++ [x]).length : Nat) : Int) := by rw [wrn (by omega) (by omega)]; simp
    rw [e1]
    exact ih (A ++ [x]) h' (by simpa using hW) (by rw [f'.2 _ (by decide)]; exact h1) (aR_h (f'.1 _ (by decide) (by decide)) h2) l' Q (fun h'' f'' => H h'' (mfr_tr f' f''))
theorem m_tellWord (l : MI h w c U b r k1 k2 W I L f) (hch : ∀ z, z ∈ W → 0 ≤ z ∧ z < 65536) {KI KX} (H : ∀ h', mB h h' → MI h' w c U b r k1 k2 W I W f → KI (W.length : Int) eNT e ewP h') : eCi X m_X13_tellWord [vR 577] eNT e ewP h KI KX := by
  refine bk_X13_tellWord_0 X 577 eNT e ewP h _ ?_
  rw [if_pos mk577, if_pos mk577]
  have l5 := l.2.2.2.2
  have f0 : mfr [585] [0, 22] h (up (up h 577 0 0) 577 22 0) := mfr_f (mfr_f mfr_rfl (by decide)) (by decide)
  refine lp_tellWord l5.2.1 hch W [] _ rfl (by rw [f0.2 _ (by decide)]; exact l5.1) (aR_h (f0.1 _ (by decide) (by decide)) l5.2.2.1) ⟨by rw [up_eq]; rfl, fun k hk => absurd hk (Nat.not_lt_zero _)⟩ _ (fun h' f1 g1 => ?_)
  have f2 := mfr_tr f0 (mfr_le f1 (fun c q => q) (by decide))
  exact H h' (mB_m f2 (by simp)) (MI_ln l f2 g1 (by have := l5.2.1; omega))
theorem lp_tellEcho {E : List Int} (hE : latE w E) : ∀ (B A : List Int) (h : Nat → Nat → Int), A ++ B = E → h 578 = w → lnR h A → ∀ Q, (∀ h', mfr [585] [22] h h' → lnR h' E → Q (.inl (some (vI (E.length : Int)))) (eNT, e, ewP, h')) → eP X m_X13_tellEcho 8 [vR 577, vI (A.length : Int)] [] (eNT, e, ewP, h) Q := by
  obtain ⟨a1, a2, a3, a4⟩ := hE
  intro B
  induction B with
  | nil =>
    intro A h hW h1 h3 Q H
    rw [List.append_nil] at hW
    subst hW
    refine bk_X13_tellEcho_8 X 577 _ eNT e ewP h Q ?_
    rw [if_pos mk577, mp578, if_pos ⟨mk578, by decide, by rw [mn578]; decide⟩, h1, show (11 : Int).toNat = 11 from rfl, if_neg (by omega), if_pos mk577, h3.1]
    exact H h mfr_rfl h3
  | cons x B ih =>
    intro A h hW h1 h3 Q H
    refine bk_X13_tellEcho_8 X 577 _ eNT e ewP h Q ?_
    have hl : A.length + (B.length + 1) = E.length := by rw [← hW]; simp
    have hx : E[A.length]? = some x := by rw [← hW]; simp
    have hw := a3 A.length (by omega)
    rw [hx] at hw
    injection hw with hw
    have e4 : wr (12 + (A.length : Int)) = ((12 + A.length : Nat) : Int) := by rw [wrn (by omega) (by omega)]; omega
    rw [if_pos mk577, mp578, if_pos ⟨mk578, by decide, by rw [mn578]; decide⟩, h1, show (11 : Int).toNat = 11 from rfl, if_pos (by omega), if_pos mk577, e4, if_pos ⟨mk578, by omega, by rw [mn578]; omega⟩, Int.toNat_natCast, if_pos mk577, ← hw]
    refine m_writes h3 (by omega) (a4 x (List.mem_of_getElem? hx)) (fun h' f' l' => ?_)
    have e1 : wr ((A.length : Int) + 1) = (((A ++ [x]).length : Nat) : Int) := by rw [wrn (by omega) (by omega)]; simp
    rw [e1]
    exact ih (A ++ [x]) h' (by simpa using hW) (by rw [f'.1 _ (by decide) (by decide)]; exact h1) l' Q (fun h'' f'' => H h'' (mfr_tr f' f''))
theorem m_tellEcho {E : List Int} (hE : latE w E) (l : MI h w c U b r k1 k2 W I L f) {KI KX} (H : ∀ h', mB h h' → MI h' w c U b r k1 k2 W I E f → KI (E.length : Int) eNT e ewP h') : eCi X m_X13_tellEcho [vR 577] eNT e ewP h KI KX := by
  refine bk_X13_tellEcho_0 X 577 eNT e ewP h _ ?_
  rw [if_pos mk577, if_pos mk577]
  have f0 : mfr [585] [0, 22] h (up (up h 577 0 0) 577 22 0) := mfr_f (mfr_f mfr_rfl (by decide)) (by decide)
  refine lp_tellEcho hE E [] _ rfl (by rw [f0.1 _ (by decide) (by decide)]; exact l.1) ⟨by rw [up_eq]; rfl, fun k hk => absurd hk (Nat.not_lt_zero _)⟩ _ (fun h' f1 g1 => ?_)
  have f2 := mfr_tr f0 (mfr_le f1 (fun c q => q) (by decide))
  exact H h' (mB_m f2 (by simp)) (MI_ln l f2 g1 (by have := hE.2.1; omega))
theorem lp_cisTold (hN : w 0 ≤ 8) : ∀ (j i : Nat) (h : Nat → Nat → Int) (j2 : eV), ((i + j : Nat) : Int) = w 0 → CI h w c U b r k1 k2 W I L f → ∀ Q, (∀ h', (∀ z, 577 ≤ z → h' z = h z) → CI h' w c U b r k1 k2 W I L f → Q (.inl (some (vI (tld w)))) (eNT, e, ewP, h')) → eP X m_X12_isTold 2 [vR 1, vI (i : Int), j2] [] (eNT, e, ewP, h) Q := by
  intro j
  induction j with
  | zero =>
    intro i h j2 hi l Q H
    refine bk_X12_isTold_2 X 1 i j2 eNT e ewP h Q ?_
    obtain ⟨N, R, T, o, rr⟩ := id l.1
    obtain ⟨s1, s2, s3, s4, s5, s6, s7, s8⟩ := rr.2.2.2.2.2
    have o1 := o.1
    simp only [ck1, ck2, ck52, ck102, ck554, ck560, ck566, ck569, ck571, ck573, ck575, ck567, cp0, cp1, cp2, cp3, cp4, cp5, cp6, cp7, cp8, cp9, cy566, ite_true, true_and, and_true]
    rw [rr.1, if_neg (by omega), s6, s3, s5, s4]
    have := H h (fun _ _ => rfl) l
    unfold tld at this
    by_cases q : w 6 = wr (wr (w 3 + w 5) - w 4)
    · rw [if_pos q] at this ⊢
      rw [if_pos (by decide)]
      exact this
    · rw [if_neg q] at this ⊢
      rw [if_pos (by decide)]
      exact this
  | succ j ih =>
    intro i h j2 hi l Q H
    refine bk_X12_isTold_2 X 1 i j2 eNT e ewP h Q ?_
    obtain ⟨N, R, T, o, rr⟩ := id l.1
    have o1 := o.1
    have q : 0 ≤ (i : Int) ∧ (i : Int) < w 0 := by omega
    simp only [ck1, ck2, ck52, ck102, ck554, ck560, ck566, ck569, ck571, ck573, ck575, ck567, cp0, cp1, cp2, cp3, cp4, cp5, cp6, cp7, cp8, cp9, cy566, ite_true, true_and, and_true]
    rw [rr.1, if_pos (by omega), c_wellQ o rr, if_pos q, if_neg (by omega)]
    refine w_timeOn l q (fun h1 f1 l1 => ?_)
    obtain ⟨hk, wl, wo, x8⟩ := wR_well l1.1 q
    rw [if_pos (w10 hk).1, c_timeK hk wl wo, if_pos rfl, if_pos (w10 hk).1, c_hasThingBelow hk wl.2.2.1 wl.1]
    have e0 : anyF (fun t => ¬ h1 (4 + 5 * (i : Int).toNat + 2) t ≤ h1 (4 + 5 * (i : Int).toNat) 5) 0 (wW w (i : Int).toNat 2).toNat = 0 := by
      refine anyF_0 _ _ 0 (fun t h3 h4 => ?_)
      rw [(wl.2.2.2.2.2.2.2 t (by omega)).2.1, wl.2.2.2.1]
      have := (wo.2.2.2.2 t (by omega)).2.1
      omega
    rw [e0, if_pos rfl, wi1 (by omega)]
    exact ih (i + 1) h1 _ (by omega) l1 Q (fun h' f' => H h' (fun z hz => by rw [f' z hz, f1 z (by omega)]))
theorem c_isTold (l : CI h w c U b r k1 k2 W I L f) {KI KX} (H : ∀ h', (∀ z, 577 ≤ z → h' z = h z) → CI h' w c U b r k1 k2 W I L f → KI (tld w) eNT e ewP h') : eCi X m_X12_isTold [vR 1] eNT e ewP h KI KX := by
  have w0 := wR_w0 l.1
  refine bk_X12_isTold_0 X 1 eNT e ewP h _ ?_
  exact lp_cisTold w0.2 (w 0).toNat 0 h _ (by omega) l _ H
theorem lp_misT {i : Nat} (o : rOk w N R T) (hi : i < N) (hw : h 578 = w) : ∀ (j t : Nat), t + j = T i → ∀ Q, eP X m_X13_isTold 5 [vR 577, vI ((i + 1 : Nat) : Int), vI (T i : Int)] [] (eNT, e, ewP, h) Q → eP X m_X13_isTold 13 [vR 577, vI (i : Int), vI (t : Int)] [] (eNT, e, ewP, h) Q := by
  have h8 := o.2.1
  have wo := o.2.2.2.2.1 i hi
  have f1 := wo.1
  intro j
  induction j with
  | zero =>
    intro t ht Q H
    refine bk_X13_isTold_13 X 577 i t eNT e ewP h Q ?_
    rw [if_pos mk577, m_of (by omega) (by decide), hw, show (2 : Int).toNat = 2 from rfl, wo.2.1, if_neg (by omega), wi1 (by omega), show t = T i by omega]
    exact H
  | succ j ih =>
    intro t ht Q H
    refine bk_X13_isTold_13 X 577 i t eNT e ewP h Q ?_
    have := (wo.2.2.2.2 t (by omega)).2.1
    rw [if_pos mk577, m_of (by omega) (by decide), hw, show (2 : Int).toNat = 2 from rfl, wo.2.1, if_pos (by omega), if_pos mk577, m_is1 (by omega) (by omega), if_pos mk577, m_of (by omega) (by decide), hw, show (0 : Int).toNat = 0 from rfl, if_pos this.2, wi1 (by omega)]
    exact ih (t + 1) (by omega) Q H
theorem lp_mis {i : Nat} (o : rOk w N R T) (hw : h 578 = w) : ∀ (j i : Nat) (j2 : eV), i + j = N → ∀ Q, Q (.inl (some (vI (tld w)))) (eNT, e, ewP, h) → eP X m_X13_isTold 5 [vR 577, vI (i : Int), j2] [] (eNT, e, ewP, h) Q := by
  have h8 := o.2.1
  have o1 := o.1
  intro j
  induction j with
  | zero =>
    intro i j2 hi Q H
    refine bk_X13_isTold_5 X 577 i j2 eNT e ewP h Q ?_
    simp only [mk577, mk578, mk579, mk580, mk581, mk582, mk583, mk584, mk585, mk586, mk587, mn578, mn579, mn580, mn581, mn582, mn583, mn584, mn585, mn586, mn587, mp578, mp579, mp580, mp581, mp582, mp583, mp584, mp585, mp586, mp587, ite_true, true_and, and_true, hw, show (0 : Int).toNat = 0 from rfl, show (6 : Int).toNat = 6 from rfl, show (3 : Int).toNat = 3 from rfl, show (5 : Int).toNat = 5 from rfl, show (4 : Int).toNat = 4 from rfl]
    rw [if_pos (by decide), if_neg (by omega), if_pos (by decide), if_pos (by decide), if_pos (by decide), if_pos (by decide)]
    unfold tld at H
    by_cases q : w 6 = wr (wr (w 3 + w 5) - w 4)
    · rw [if_pos q] at H ⊢
      rw [if_pos (by decide)]
      exact H
    · rw [if_neg q] at H ⊢
      rw [if_pos (by decide)]
      exact H
  | succ j ih =>
    intro i j2 hi Q H
    refine bk_X13_isTold_5 X 577 i j2 eNT e ewP h Q ?_
    rw [if_pos mk577, mp578, if_pos ⟨mk578, by decide, by rw [mn578]; decide⟩, show (0 : Int).toNat = 0 from rfl, hw, if_pos (by omega)]
    exact lp_misT o (by omega) hw (T i) 0 (by omega) Q (ih (i + 1) _ (by omega) Q H)
theorem m_isTold (o : rOk w N R T) (l : MI h w c U b r k1 k2 W I L f) {KI KX} (H : ∀ h', mB h h' → MI h' w c U b r k1 k2 W I L f → KI (tld w) eNT e ewP h') : eCi X m_X13_isTold [vR 577] eNT e ewP h KI KX := by
  refine bk_X13_isTold_0 X 577 eNT e ewP h _ ?_
  rw [if_pos mk577]
  exact lp_mis (i := 0) o (by rw [up_ne (by omega)]; exact l.1) N 0 _ (by omega) _ (H _ (mB_up (fun _ _ => rfl) (by omega)) (MI_0 l))
end
