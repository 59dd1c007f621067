/-! the reference's reader: signs and parts -/
def sgm (T : List Int) (q : Nat) : Int := if q < T.length then sg T q else -1
def mS (h : Nat → Nat → Int) (T : List Int) (q : Nat) : Prop := h 577 25 = (q : Int) ∧ h 577 24 = (T.length : Int) ∧ T.length ≤ 60 ∧ aR h 586 T
/-- only the place is another -/
def sm (h h' : Nat → Nat → Int) : Prop := (∀ z, z ≠ 577 → h' z = h z) ∧ ∀ k, k ≠ 25 → h' 577 k = h 577 k
abbrev rfr (h h' : Nat → Nat → Int) : Prop := mfr [583, 587] [17, 25, 28] h h'
theorem sm_up {h : Nat → Nat → Int} {v : Int} : sm h (up h 577 25 v) := ⟨fun z hz => up_ne hz, fun k hk => up_nk hk⟩
theorem sm_rfl {h : Nat → Nat → Int} : sm h h := ⟨fun _ _ => rfl, fun _ _ => rfl⟩
theorem sm_tr {h h1 h2 : Nat → Nat → Int} (a : sm h h1) (b : sm h1 h2) : sm h h2 := ⟨fun z hz => by rw [b.1 z hz, a.1 z hz], fun k hk => by rw [b.2 k hk, a.2 k hk]⟩
theorem rfr_sm {h h1 h2 : Nat → Nat → Int} (a : rfr h h1) (b : sm h1 h2) : rfr h h2 := ⟨fun c h1 h2 => by rw [b.1 c h2, a.1 c h1 h2], fun k h1 => by rw [b.2 k (fun e => h1 (by rw [e]; decide)), a.2 k h1]⟩
theorem rfr_s {h h1 : Nat → Nat → Int} (b : sm h h1) : rfr h h1 := rfr_sm mfr_rfl b
theorem mS_p {h : Nat → Nat → Int} {T : List Int} {q q' : Nat} (l : mS h T q) : mS (up h 577 25 (q' : Int)) T q' := ⟨up_eq, by rw [up_nk (by omega)]; exact l.2.1, l.2.2.1, aR_h (up_ne (by omega)) l.2.2.2⟩
theorem mS_k {h : Nat → Nat → Int} {T : List Int} {q k : Nat} {v : Int} (h5 : k ≠ 25) (h4 : k ≠ 24) (l : mS h T q) : mS (up h 577 k v) T q := ⟨by rw [up_nk (Ne.symm h5)]; exact l.1, by rw [up_nk (Ne.symm h4)]; exact l.2.1, l.2.2.1, aR_h (up_ne (by omega)) l.2.2.2⟩
theorem mS_c {h : Nat → Nat → Int} {T : List Int} {q c k : Nat} {v : Int} (h5 : c ≠ 577) (h4 : c ≠ 586) (l : mS h T q) : mS (up h c k v) T q := ⟨by rw [up_ne (Ne.symm h5)]; exact l.1, by rw [up_ne (Ne.symm h5)]; exact l.2.1, l.2.2.1, aR_h (up_ne (Ne.symm h4)) l.2.2.2⟩
theorem mS_g {h : Nat → Nat → Int} {T : List Int} {q q' : Nat} (e : q = q') (l : mS h T q) : mS h T q' := by rw [← e]; exact l
theorem sgm_c {T : List Int} {q : Nat} {c : Int} (hc : 0 < c) : (sgm T q = c) ↔ (sg T q = c) := by
  unfold sgm
  by_cases a : q < T.length
  · rw [if_pos a]
  · rw [if_neg a]
    have : sg T q = 0 := by
      rcases Classical.em (sg T q = 0) with h | h
      · exact h
      · exact absurd (sg_in h) a
    omega
theorem sgm_b {T : List Int} {q : Nat} {a b : Int} (ha : 0 < a) : (a ≤ sgm T q ∧ sgm T q ≤ b) ↔ (a ≤ sg T q ∧ sg T q ≤ b) := by
  unfold sgm
  by_cases c : q < T.length
  · rw [if_pos c]
  · rw [if_neg c]
    have : sg T q = 0 := by
      rcases Classical.em (sg T q = 0) with h | h
      · exact h
      · exact absurd (sg_in h) c
    omega
theorem sgm_i {T : List Int} {q : Nat} (h : sg T q ≠ 0) : sgm T q = sg T q := by
  unfold sgm
  rw [if_pos (sg_in h)]
section
variable {X : eX} {e : Nat} {h : Nat → Nat → Int} {T : List Int} {q : Nat} {ns : List Int}
theorem m_next (l : mS h T q) (KI KX) : eCi X m_X13_nextSign [vR 577] eNT e ewP h KI KX = KI (sgm T q) eNT e ewP h := by
  refine eCi_eq X (fun Q H => ?_) KI KX
  refine bk_X13_nextSign_0 X 577 eNT e ewP h Q ?_
  obtain ⟨l1, l2, l3, l4⟩ := l
  rw [if_pos mk577, if_pos mk577, l1, l2]
  unfold sgm at H
  by_cases a : q < T.length
  · rw [if_pos a] at H
    rw [if_pos (by omega), if_pos mk577, if_pos mk577, mp586, if_pos ⟨mk586, by omega, by rw [mn586]; omega⟩, Int.toNat_natCast, aR_g l4 (sg_at a)]
    exact H
  · rw [if_neg a] at H
    rw [if_neg (by omega)]
    exact H
theorem m_sg {c : Int} (hc : 0 < c) (l : mS h T q) {KI KX} (HF : sg T q ≠ c → KI 0 eNT e ewP h) (HS : sg T q = c → ∀ h', sm h h' → mS h' T (q + 1) → KI 1 eNT e ewP h') : eCi X m_X13_reads [vR 577, vI c] eNT e ewP h KI KX := by
  refine bk_X13_reads_0 X 577 c eNT e ewP h _ ?_
  rw [if_pos mk577, m_next l]
  by_cases a : sg T q = c
  · have qi := sg_in (T := T) (q := q) (by omega)
    have l6 := l.2.2.1
    rw [if_pos ((sgm_c hc).mpr a), if_pos mk577, if_pos mk577, if_pos (by decide), l.1, wi1 (by omega)]
    exact HS a _ sm_up (mS_p l)
  · rw [if_neg (fun b => a ((sgm_c hc).mp b)), if_pos (by decide)]
    exact HF a
theorem m_rest {a b c : Int} (ha : 0 < a) (hb : 0 < b) (hc : 0 < c) (l : mS h T q) {KI KX} (HF : ∀ j, lcp T [a, b, c, 32] q = j → j ≠ 4 → ∀ h', sm h h' → mS h' T (q + j) → KI 0 eNT e ewP h') (HS : lcp T [a, b, c, 32] q = 4 → ∀ h', sm h h' → mS h' T (q + 4) → KI 1 eNT e ewP h') : eCi X m_X13_readsRest [vR 577, vI a, vI b, vI c] eNT e ewP h KI KX := by
  refine bk_X13_readsRest_0 X 577 a b c eNT e ewP h _ ?_
  have d0 : (0 : Int) = 0 ∨ (0 : Int) = 1 := by decide
  have d1 : (1 : Int) = 0 ∨ (1 : Int) = 1 := by decide
  have n1 : ¬ (1 : Int) = 0 := by decide
  rw [if_pos mk577]
  refine m_sg ha l (fun a1 => ?_) (fun a1 h1 s1 l1 => ?_)
  · rw [if_pos rfl, if_pos d0]
    exact HF 0 (lcp_0 a1) (by decide) h sm_rfl l
  rw [if_neg n1, if_pos mk577]
  refine m_sg hb l1 (fun a2 => ?_) (fun a2 h2 s2 l2 => ?_)
  · rw [if_pos rfl, if_pos d0]
    exact HF 1 (by rw [lcp_s a1, lcp_0 a2]) (by decide) h1 s1 l1
  rw [if_neg n1, if_pos mk577]
  refine m_sg hc l2 (fun a3 => ?_) (fun a3 h3 s3 l3 => ?_)
  · rw [if_pos rfl, if_pos d0]
    exact HF 2 (by rw [lcp_s a1, lcp_s a2, lcp_0 a3]) (by decide) h2 (sm_tr s1 s2) l2
  rw [if_neg n1, if_pos mk577]
  refine m_sg (by decide) l3 (fun a4 => ?_) (fun a4 h4 s4 l4 => ?_)
  · rw [if_pos rfl, if_pos d0]
    exact HF 3 (by rw [lcp_s a1, lcp_s a2, lcp_s a3, lcp_0 a4]) (by decide) h3 (sm_tr (sm_tr s1 s2) s3) l3
  rw [if_neg n1, if_pos d1]
  exact HS (by rw [lcp_s a1, lcp_s a2, lcp_s a3, lcp_s a4, lcp_n]) h4 (sm_tr (sm_tr (sm_tr s1 s2) s3) s4) l4
/-- what must hold behind the parts of a form -/
def OF (T : List Int) (b : Prop) (ks : List Int) (q : Nat) (ns : List Int) (h : Nat → Nat → Int) (e : Nat) (KI : Int → Nat → Nat → (Nat → Nat → Nat) → (Nat → Nat → Int) → Prop) : Prop := (∀ f, rdForm T ks q ns [] = .inl f → ∀ h', rfr h h' → mS h' T f → KI 0 eNT e ewP h') ∧ (∀ q1 ns1 W1, rdForm T ks q ns [] = .inr (q1, ns1, W1) → ∀ h', rfr h h' → mS h' T q1 → h' 577 28 = h 577 28 → aR h' 587 ns1 → (b → sR h' W1) → KI 1 eNT e ewP h')
variable {b : Prop} {ks : List Int} {KI : Int → Nat → Nat → (Nat → Nat → Nat) → (Nat → Nat → Int) → Prop}
theorem fm_f {k : Int} {W : List Int} {f : Nat} (hp : rdPart T k q ns W = .inl f) : rdForm T (k :: ks) q ns W = .inl f := by rw [rdForm, hp]
theorem fm_s {k : Int} {W : List Int} {q1 : Nat} {ns1 W1 : List Int} (hp : rdPart T k q ns W = .inr (q1, ns1, W1)) : rdForm T (k :: ks) q ns W = rdForm T ks q1 ns1 W1 := by rw [rdForm, hp]
theorem OF_s {k : Int} {q1 : Nat} {ns1 : List Int} {h' : Nat → Nat → Int} (H : OF T b (k :: ks) q ns h e KI) (hp : rdPart T k q ns [] = .inr (q1, ns1, [])) (r : rfr h h') (o : h' 577 28 = h 577 28) : OF T b ks q1 ns1 h' e KI :=
  ⟨fun f hf h2 r2 => H.1 f ((fm_s hp).trans hf) h2 (mfr_tr r r2), fun q2 ns2 W2 hs h2 r2 s2 o2 => H.2 q2 ns2 W2 ((fm_s hp).trans hs) h2 (mfr_tr r r2) s2 (o2.trans o)⟩
theorem OF_f {k : Int} {f : Nat} {h' : Nat → Nat → Int} (H : OF T b (k :: ks) q ns h e KI) (hp : rdPart T k q ns [] = .inl f) (r : rfr h h') (s : mS h' T f) : KI 0 eNT e ewP h' := H.1 f (fm_f hp) h' r s
theorem OF_n (H : OF T b [] q ns h e KI) (hb : ¬ b) (s : mS h T q) (a : aR h 587 ns) : KI 1 eNT e ewP h := H.2 q ns [] rfl h mfr_rfl s rfl a (fun x => absurd x hb)
theorem nt_a {x : Int} (h3 : ns.length < 3) : nt ns x = ns ++ [x] := by unfold nt; rw [if_pos h3]
theorem p_sign {KI' KX} (H : OF T b (32 :: ks) q ns h e KI) (l : mS h T q) (ln : aR h 587 ns) (HF : ∀ h', KI 0 eNT e ewP h' → KI' 0 eNT e ewP h') (HS : ∀ q1 h', OF T b ks q1 ns h' e KI → mS h' T q1 → aR h' 587 ns → KI' 1 eNT e ewP h') : eCi X m_X13_reads [vR 577, vI 32] eNT e ewP h KI' KX := by
  refine m_sg (by decide) l (fun a => ?_) (fun a h1 s1 l1 => ?_)
  · exact HF h (OF_f H (by unfold rdPart; simp only [show ¬ (32 : Int) = 98 by decide, show ¬ (32 : Int) = 100 by decide, show ¬ (32 : Int) = 108 by decide, show ¬ (32 : Int) = 110 by decide, show ¬ (32 : Int) = 119 by decide, if_false]; rw [if_neg a]) mfr_rfl l)
  · exact HS _ h1 (OF_s H (by unfold rdPart; simp only [show ¬ (32 : Int) = 98 by decide, show ¬ (32 : Int) = 100 by decide, show ¬ (32 : Int) = 108 by decide, show ¬ (32 : Int) = 110 by decide, show ¬ (32 : Int) = 119 by decide, if_false]; rw [if_pos a]) (rfr_s s1) (s1.2 28 (by decide))) l1 (aR_h (s1.1 _ (by decide)) ln)
theorem m_digitE {i : Nat} (l : mS h T q) (h3 : i < 3) (KI' KX) : eCi X m_X13_readsDigit [vR 577, vI (i : Int)] eNT e ewP h KI' KX = if 48 ≤ sg T q ∧ sg T q ≤ 57 then KI' 1 eNT e ewP (up (up h 587 i (sg T q - 48)) 577 25 ((q + 1 : Nat) : Int)) else KI' 0 eNT e ewP h := by
  by_cases a : 48 ≤ sg T q ∧ sg T q ≤ 57
  · rw [if_pos a]
    refine eCi_eq X (fun Q H => ?_) KI' KX
    refine bk_X13_readsDigit_0 X 577 i eNT e ewP h Q ?_
    have qi := sg_in (T := T) (q := q) (by omega)
    have l6 := l.2.2.1
    rw [if_pos mk577, m_next l, m_isBetween, if_pos ((sgm_b (by decide)).mpr a), if_neg (by decide), if_pos mk577, if_pos mk577, m_next l, mp587, if_pos ⟨mk587, by omega, by rw [mn587]; omega⟩, if_pos mk577, if_pos mk577, if_pos (by decide), Int.toNat_natCast, up_ne (by omega), l.1, wi1 (by omega), sgm_i (by omega), wrn (by omega) (by omega)]
    exact H
  · rw [if_neg a]
    refine eCi_eq X (fun Q H => ?_) KI' KX
    refine bk_X13_readsDigit_0 X 577 i eNT e ewP h Q ?_
    rw [if_pos mk577, m_next l, m_isBetween, if_neg (fun z => a ((sgm_b (by decide)).mp z)), if_pos rfl, if_pos (by decide)]
    exact H
theorem rfr_d {i : Nat} {v w : Int} : rfr h (up (up h 587 i v) 577 25 w) := mfr_f (mfr_c mfr_rfl (by decide) (by decide)) (by decide)
theorem mS_d {i : Nat} {v : Int} {q' : Nat} (l : mS h T q) : mS (up (up h 587 i v) 577 25 (q' : Int)) T q' := mS_p (mS_c (by omega) (by omega) l)
theorem p_digit {i : Nat} {KI' KX} (H : OF T b (100 :: ks) q ns h e KI) (l : mS h T q) (ln : aR h 587 ns) (hi : ns.length = i) (h3 : i < 3) (HF : ∀ h', KI 0 eNT e ewP h' → KI' 0 eNT e ewP h') (HS : ∀ q1 x h', OF T b ks q1 (ns ++ [x]) h' e KI → mS h' T q1 → aR h' 587 (ns ++ [x]) → KI' 1 eNT e ewP h') : eCi X m_X13_readsDigit [vR 577, vI (i : Int)] eNT e ewP h KI' KX := by
  subst hi
  rw [m_digitE l h3]
  by_cases a : 48 ≤ sg T q ∧ sg T q ≤ 57
  · rw [if_pos a]
    refine HS (q + 1) (sg T q - 48) _ (OF_s H ?_ rfr_d (by rw [up_nk (by omega), up_ne (by omega)])) (mS_d l) (aR_h (up_ne (by omega)) (aR_app ln))
    unfold rdPart
    rw [if_neg (by decide), if_pos rfl, if_pos a, nt_a h3]
  · rw [if_neg a]
    refine HF h (OF_f H ?_ mfr_rfl l)
    unfold rdPart
    rw [if_neg (by decide), if_pos rfl, if_neg a]
theorem aR_last {v v2 : Int} (ln : aR h 587 ns) : aR (up (up h 587 ns.length v) 587 ns.length v2) 587 (ns ++ [v2]) := by
  have : up (up h 587 ns.length v) 587 ns.length v2 = up h 587 ns.length v2 := by
    funext z k
    unfold up
    split <;> rfl
  rw [this]
  exact aR_app ln
theorem p_number {i : Nat} {KI' KX} (H : OF T b (110 :: ks) q ns h e KI) (l : mS h T q) (ln : aR h 587 ns) (hi : ns.length = i) (h3 : i < 3) (HF : ∀ h', KI 0 eNT e ewP h' → KI' 0 eNT e ewP h') (HS : ∀ q1 x h', OF T b ks q1 (ns ++ [x]) h' e KI → mS h' T q1 → aR h' 587 (ns ++ [x]) → KI' 1 eNT e ewP h') : eCi X m_X13_readsNumber [vR 577, vI (i : Int)] eNT e ewP h KI' KX := by
  subst hi
  refine bk_X13_readsNumber_0 X 577 _ eNT e ewP h _ ?_
  rw [if_pos mk577, m_digitE l h3]
  by_cases a : 48 ≤ sg T q ∧ sg T q ≤ 57
  · have s1 : mS (up (up h 587 ns.length (sg T q - 48)) 577 25 ((q + 1 : Nat) : Int)) T (q + 1) := mS_d l
    have l6 := l.2.2.1
    rw [if_pos a, if_neg (by decide), if_pos mk577, m_next s1, m_isBetween]
    by_cases c : 48 ≤ sg T (q + 1) ∧ sg T (q + 1) ≤ 57
    · have qi := sg_in (T := T) (q := q + 1) (by omega)
      rw [if_pos ((sgm_b (by decide)).mpr c), if_neg (by decide), if_pos mk577, if_pos mk577, mp587, if_pos ⟨mk587, by omega, by rw [mn587]; omega⟩, if_pos mk577, m_next s1, if_pos ⟨mk587, by omega, by rw [mn587]; omega⟩, if_pos mk577, if_pos mk577, if_pos (by decide), Int.toNat_natCast, up_ne (show 577 ≠ 587 by decide), up_eq, up_ne (show 587 ≠ 577 by decide), up_eq, wi1 (by omega), sgm_i (by omega), wrn (x := 10 * _) (by omega) (by omega), wrn (x := 10 * _ + _) (by omega) (by omega), wrn (by omega) (by omega)]
      refine HS (q + 2) (10 * (sg T q - 48) + sg T (q + 1) - 48) _ (OF_s H ?_ ?_ ?_) (mS_p (mS_c (by omega) (by omega) s1)) (aR_h (up_ne (by omega)) ?_)
      · unfold rdPart
        simp only [show ¬ (110 : Int) = 98 by decide, show ¬ (110 : Int) = 100 by decide, show ¬ (110 : Int) = 108 by decide, if_false, if_true]
        rw [if_pos a, if_pos c, nt_a h3]
      · exact mfr_f (mfr_c rfr_d (by decide) (by decide)) (by decide)
      · rw [up_nk (by omega), up_ne (by omega), up_nk (by omega), up_ne (by omega)]
      · refine aR_h (h := up (up h 587 ns.length (sg T q - 48)) 587 ns.length (10 * (sg T q - 48) + sg T (q + 1) - 48)) ?_ (aR_last ln)
        funext k
        rw [up_at, up_at, up_ne (show 587 ≠ 577 by decide)]
    · rw [if_neg (fun z => c ((sgm_b (by decide)).mp z)), if_pos rfl, if_pos (by decide)]
      refine HS (q + 1) (sg T q - 48) _ (OF_s H ?_ rfr_d (by rw [up_nk (by omega), up_ne (by omega)])) s1 (aR_h (up_ne (by omega)) (aR_app ln))
      unfold rdPart
      simp only [show ¬ (110 : Int) = 98 by decide, show ¬ (110 : Int) = 100 by decide, show ¬ (110 : Int) = 108 by decide, if_false, if_true]
      rw [if_pos a, if_neg c, nt_a h3]
  · rw [if_neg a, if_pos rfl, if_pos (by decide)]
    refine HF h (OF_f H ?_ mfr_rfl l)
    unfold rdPart
    simp only [show ¬ (110 : Int) = 98 by decide, show ¬ (110 : Int) = 100 by decide, show ¬ (110 : Int) = 108 by decide, if_false, if_true]
    rw [if_neg a]
theorem p_bottom {KI' KX} (H : OF T b (98 :: ks) q ns h e KI) (l : mS h T q) (ln : aR h 587 ns) (hi : ns.length = 1) (HF : ∀ h', KI 0 eNT e ewP h' → KI' 0 eNT e ewP h') (HS : ∀ q1 x h', OF T b ks q1 (ns ++ [x]) h' e KI → mS h' T q1 → aR h' 587 (ns ++ [x]) → KI' 1 eNT e ewP h') : eCi X m_X13_readsBottom [vR 577] eNT e ewP h KI' KX := by
  refine bk_X13_readsBottom_0 X 577 eNT e ewP h _ ?_
  have d0 : (0 : Int) = 0 ∨ (0 : Int) = 1 := by decide
  have d1 : (1 : Int) = 0 ∨ (1 : Int) = 1 := by decide
  have n1 : ¬ (1 : Int) = 0 := by decide
  have ap : ∀ v h', sm (up h 587 1 v) h' → aR h' 587 (ns ++ [v]) := fun v h' s => aR_h (s.1 587 (by decide)) (by have := aR_app (v := v) ln; rw [hi] at this; exact this)
  have rr : ∀ v h', sm (up h 587 1 v) h' → rfr h h' := fun v h' s => rfr_sm (mfr_c mfr_rfl (by decide) (by decide)) s
  have oo : ∀ v h', sm (up h 587 1 v) h' → h' 577 28 = h 577 28 := fun v h' s => by rw [s.2 28 (by decide), up_ne (by omega)]
  have sv : ∀ v, mS (up h 587 1 v) T q := fun v => mS_c (by omega) (by omega) l
  rw [if_pos mk577, m_next l, if_pos mk577, mp587]
  by_cases a1 : sg T q = 115
  · rw [if_pos ((sgm_c (by decide)).mpr a1), if_pos ⟨mk587, by decide, by rw [mn587]; decide⟩, if_pos mk577]
    refine m_sg (by decide) (sv 0) (fun z => absurd a1 z) (fun _ h1 s1 l1 => ?_)
    rw [if_neg n1, if_pos d1]
    exact HS (q + 1) 0 h1 (OF_s H (by unfold rdPart; rw [if_pos rfl, if_pos a1, nt_a (by omega)]) (rr _ _ s1) (oo _ _ s1)) l1 (ap _ _ s1)
  rw [if_neg (fun z => a1 ((sgm_c (by decide)).mp z))]
  by_cases a2 : sg T q = 119
  · rw [if_pos ((sgm_c (by decide)).mpr a2), if_pos ⟨mk587, by decide, by rw [mn587]; decide⟩, if_pos mk577]
    refine m_sg (by decide) (sv 1) (fun _ => ?_) (fun z => absurd z a1)
    rw [if_pos rfl, if_pos mk577]
    refine m_sg (by decide) (sv 1) (fun z => absurd a2 z) (fun _ h1 s1 l1 => ?_)
    rw [if_neg n1, if_pos d1]
    exact HS (q + 1) 1 h1 (OF_s H (by unfold rdPart; rw [if_pos rfl, if_neg a1, if_pos a2, nt_a (by omega)]) (rr _ _ s1) (oo _ _ s1)) l1 (ap _ _ s1)
  rw [if_neg (fun z => a2 ((sgm_c (by decide)).mp z)), if_pos ⟨mk587, by decide, by rw [mn587]; decide⟩, if_pos mk577]
  refine m_sg (by decide) (sv 2) (fun _ => ?_) (fun z => absurd z a1)
  rw [if_pos rfl, if_pos mk577]
  refine m_sg (by decide) (sv 2) (fun _ => ?_) (fun z => absurd z a2)
  rw [if_pos rfl, if_pos mk577]
  refine m_sg (by decide) (sv 2) (fun a3 => ?_) (fun a3 h1 s1 l1 => ?_)
  · rw [if_pos rfl, if_pos d0]
    exact HF _ (OF_f H (by unfold rdPart; rw [if_pos rfl, if_neg a1, if_neg a2, if_neg a3]) (rr _ _ sm_rfl) (sv 2))
  · rw [if_neg n1, if_pos d1]
    exact HS (q + 1) 2 h1 (OF_s H (by unfold rdPart; rw [if_pos rfl, if_neg a1, if_neg a2, if_pos a3, nt_a (by omega)]) (rr _ _ s1) (oo _ _ s1)) l1 (ap _ _ s1)
theorem p_letter {KI' KX} (H : OF T b (108 :: ks) q ns h e KI) (l : mS h T q) (ln : aR h 587 ns) (hi : ns.length = 2) (HF : ∀ h', KI 0 eNT e ewP h' → KI' 0 eNT e ewP h') (HS : ∀ q1 x h', OF T b ks q1 (ns ++ [x]) h' e KI → mS h' T q1 → aR h' 587 (ns ++ [x]) → KI' 1 eNT e ewP h') : eCi X m_X13_readsLetter [vR 577] eNT e ewP h KI' KX := by
  refine bk_X13_readsLetter_0 X 577 eNT e ewP h _ ?_
  have l6 := l.2.2.1
  have sv : mS (up h 587 2 (sgm T q)) T q := mS_c (by omega) (by omega) l
  rw [if_pos mk577, if_pos mk577, m_next l, mp587, if_pos ⟨mk587, by decide, by rw [mn587]; decide⟩, if_pos mk577]
  show eCi X m_X13_nextSign [vR 577] eNT e ewP (up h 587 2 (sgm T q)) _ _
  rw [m_next sv, m_isLetter]
  by_cases a : 97 ≤ sg T q ∧ sg T q ≤ 122
  · have qi := sg_in (T := T) (q := q) (by omega)
    rw [if_pos ((sgm_b (by decide)).mpr a), if_neg (by decide), if_pos mk577, if_pos mk577, if_pos (by decide), up_ne (by omega), l.1, wi1 (by omega), sgm_i (by omega)]
    refine HS (q + 1) (sg T q) _ (OF_s H ?_ rfr_d (by rw [up_nk (by omega), up_ne (by omega)])) (mS_d l) (aR_h (up_ne (by omega)) (by have := aR_app (v := sg T q) ln; rw [hi] at this; exact this))
    unfold rdPart
    simp only [show ¬ (108 : Int) = 98 by decide, show ¬ (108 : Int) = 100 by decide, if_false, if_true]
    rw [if_pos a, nt_a (by omega)]
  · rw [if_neg (fun z => a ((sgm_b (by decide)).mp z)), if_pos rfl, if_pos (by decide)]
    refine HF _ (OF_f H ?_ (mfr_c mfr_rfl (by decide) (by decide)) sv)
    unfold rdPart
    simp only [show ¬ (108 : Int) = 98 by decide, show ¬ (108 : Int) = 100 by decide, if_false, if_true]
    rw [if_neg a]
theorem p_place {KI' KX} (H : OF T b (100 :: 32 :: 110 :: 32 :: ks) q [] h e KI) (l : mS h T q) (HF : ∀ h', KI 0 eNT e ewP h' → KI' 0 eNT e ewP h') (HS : ∀ q1 x y h', OF T b ks q1 [x, y] h' e KI → mS h' T q1 → aR h' 587 [x, y] → KI' 1 eNT e ewP h') : eCi X m_X13_readsPlace [vR 577] eNT e ewP h KI' KX := by
  refine bk_X13_readsPlace_0 X 577 eNT e ewP h _ ?_
  have d0 : (0 : Int) = 0 ∨ (0 : Int) = 1 := by decide
  have d1 : (1 : Int) = 0 ∨ (1 : Int) = 1 := by decide
  have n1 : ¬ (1 : Int) = 0 := by decide
  rw [if_pos mk577]
  refine p_digit (i := 0) H l (fun k hk => absurd hk (Nat.not_lt_zero _)) rfl (by decide) (fun h' k => by rw [if_pos rfl, if_pos d0]; exact HF h' k) (fun q1 x h1 H1 l1 n1' => ?_)
  rw [if_neg n1, if_pos mk577]
  refine p_sign H1 l1 n1' (fun h' k => by rw [if_pos rfl, if_pos d0]; exact HF h' k) (fun q2 h2 H2 l2 n2 => ?_)
  rw [if_neg n1, if_pos mk577]
  refine p_number (i := 1) H2 l2 n2 rfl (by decide) (fun h' k => by rw [if_pos rfl, if_pos d0]; exact HF h' k) (fun q3 y h3 H3 l3 n3 => ?_)
  rw [if_neg n1, if_pos mk577]
  refine p_sign H3 l3 n3 (fun h' k => by rw [if_pos rfl, if_pos d0]; exact HF h' k) (fun q4 h4 H4 l4 n4 => ?_)
  rw [if_neg n1, if_pos d1]
  exact HS q4 x y h4 H4 l4 n4
theorem p_two {KI' KX} (H : OF T b (100 :: 32 :: 100 :: ks) q [] h e KI) (l : mS h T q) (HF : ∀ h', KI 0 eNT e ewP h' → KI' 0 eNT e ewP h') (HS : ∀ q1 x y h', OF T b ks q1 [x, y] h' e KI → mS h' T q1 → aR h' 587 [x, y] → KI' 1 eNT e ewP h') : eCi X m_X13_readsTwo [vR 577] eNT e ewP h KI' KX := by
  refine bk_X13_readsTwo_0 X 577 eNT e ewP h _ ?_
  have d0 : (0 : Int) = 0 ∨ (0 : Int) = 1 := by decide
  have d1 : (1 : Int) = 0 ∨ (1 : Int) = 1 := by decide
  have n1 : ¬ (1 : Int) = 0 := by decide
  rw [if_pos mk577]
  refine p_digit (i := 0) H l (fun k hk => absurd hk (Nat.not_lt_zero _)) rfl (by decide) (fun h' k => by rw [if_pos rfl, if_pos d0]; exact HF h' k) (fun q1 x h1 H1 l1 n1' => ?_)
  rw [if_neg n1, if_pos mk577]
  refine p_sign H1 l1 n1' (fun h' k => by rw [if_pos rfl, if_pos d0]; exact HF h' k) (fun q2 h2 H2 l2 n2 => ?_)
  rw [if_neg n1, if_pos mk577]
  refine p_digit (i := 1) H2 l2 n2 rfl (by decide) (fun h' k => by rw [if_pos rfl, if_pos d0]; exact HF h' k) (fun q3 y h3 H3 l3 n3 => ?_)
  rw [if_neg n1, if_pos d1]
  exact HS q3 x y h3 H3 l3 n3
theorem lp_said {KI : Int → Nat → Nat → (Nat → Nat → Nat) → (Nat → Nat → Int) → Prop} {Q : eO → eM → Prop} (HQ : ∀ x n e p h, KI x n e p h → Q (.inl (some (vI x))) (n, e, p, h)) : ∀ (k : Nat) (h : Nat → Nat → Int) (q : Nat) (W : List Int), W.length + k = 8 → mS h T q → sR h W → (∀ h', mfr [583] [17, 25] h h' → mS h' T (wdF T k q W).1 → sR h' (wdF T k q W).2 → KI (if (wdF T k q W).2 = [] then 0 else 1) eNT e ewP h') → eP X m_X13_readsShout 33 [vR 577] [] (eNT, e, ewP, h) Q := by
  intro k
  induction k with
  | zero =>
    intro h q W hk l sr H
    refine bk_X13_readsShout_33 X 577 eNT e ewP h Q ?_
    have H2 := H h mfr_rfl l sr
    rw [wdF] at H2
    dsimp only at H2
    clear H
    rw [if_pos mk577, sr.1, if_neg (by omega), if_pos mk577]
    by_cases a : W = []
    · rw [a] at hk; simp at hk
    · rw [if_neg a] at H2
      rw [if_neg (by omega), if_pos (by decide)]
      exact HQ _ _ _ _ _ H2
  | succ k ih =>
    intro h q W hk l sr H
    refine bk_X13_readsShout_33 X 577 eNT e ewP h Q ?_
    have l6 := l.2.2.1
    rw [wdF] at H
    rw [if_pos mk577, sr.1, if_pos (by omega), if_pos mk577, m_next l, m_isLetter]
    by_cases a : 97 ≤ sg T q ∧ sg T q ≤ 122
    · rw [if_pos a] at H
      have qi := sg_in (T := T) (q := q) (by omega)
      rw [if_pos ((sgm_b (by decide)).mpr a), if_neg (by decide), if_pos mk577, if_pos mk577, if_pos mk577, m_next l, mp583, sr.1, if_pos ⟨mk583, by omega, by rw [mn583]; omega⟩, if_pos mk577, if_pos mk577, if_pos mk577, if_pos mk577, Int.toNat_natCast, up_ne (show 577 ≠ 583 by decide), sr.1, wi1 (by omega), up_nk (show 25 ≠ 17 by decide), up_ne (show 577 ≠ 583 by decide), l.1, wi1 (by omega), sgm_i (by omega)]
      refine ih _ (q + 1) (W ++ [sg T q]) (by simp; omega) (mS_p (mS_k (by omega) (by omega) (mS_c (by omega) (by omega) l))) ⟨by rw [up_nk (by omega), up_eq]; simp, by simp; omega, aR_h (by rw [up_ne (by omega), up_ne (by omega)]) (aR_app sr.2.2)⟩ (fun h' f s' w' => H h' (mfr_tr (mfr_f (mfr_f (mfr_c mfr_rfl (by decide) (by decide)) (by decide)) (by decide)) f) s' w')
    · rw [if_neg a] at H
      have H2 := H h mfr_rfl l sr
      dsimp only at H2
      clear H
      rw [if_neg (fun z => a ((sgm_b (by decide)).mp z)), if_pos rfl, if_pos mk577, sr.1]
      by_cases a : W = []
      · rw [if_pos a] at H2
        rw [if_pos (by rw [a]; decide), if_pos (by decide)]
        exact HQ _ _ _ _ _ H2
      · rw [if_neg a] at H2
        have : W.length ≠ 0 := fun z => a (List.eq_nil_of_length_eq_zero z)
        rw [if_neg (by omega), if_pos (by decide)]
        exact HQ _ _ _ _ _ H2
end
