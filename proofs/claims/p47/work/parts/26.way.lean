/-! the class's way of a word -/
theorem ly_9 : ∀ c, c < 577 → ewK c = 9 → ewP c 0 = c + 1 ∧ ewK (c + 1) = 4 := by decide +kernel
theorem y9 {c : Nat} (hc : ewK c = 9) : kn ewK eNT c = 9 ∧ ewP c 0 = c + 1 ∧ ewK (c + 1) = 4 ∧ kn ewK eNT (c + 1) = 4 := by
  obtain ⟨h1, h2⟩ := ly_9 c (ly_out c (by rw [hc]; decide)) hc
  exact ⟨kn_ly hc (by decide), h1, h2, kn_ly h2 (by decide)⟩
def yR (h : Nat → Nat → Int) (c : Nat) (L : List Int) (lost given time : Int) : Prop := lR h (c + 1) L ∧ h c 1 = lost ∧ h c 2 = given ∧ h c 3 = time
theorem yR_frm {a b c : Nat} {h h' : Nat → Nat → Int} {L : List Int} {x y z : Int} (f : frm a b h h') (q : c + 3 ≤ a ∨ b ≤ c) (l : yR h c L x y z) : yR h' c L x y z := by
  obtain ⟨h1, h2, h3, h4⟩ := l
  unfold yR
  rw [f c (by omega)]
  exact ⟨lR_frm f (by omega) h1, h2, h3, h4⟩
def fr1 (f : Nat → Int) (t : Nat) : Int := sFrg (fun t => f (5 + 4 * t)) (fun t => f (8 + 4 * t)) 1 t
def th1 (f : Nat → Int) (t : Nat) : Int := sThk (fun t => f (5 + 4 * t)) (fun t => f (7 + 4 * t)) t
theorem fr1_e {f : Nat → Int} {t : Nat} : fr1 f t = if f (5 + 4 * t) = 1 then (if (if f (8 + 4 * t) = 0 then (0 : Int) else 1) = 1 then 1 else 0) else 0 := rfl
theorem th1_e {f : Nat → Int} {t : Nat} : th1 f t = if f (5 + 4 * t) = 2 then f (7 + 4 * t) else 0 := rfl
theorem fr1_01 {f : Nat → Int} {t : Nat} : 0 ≤ fr1 f t ∧ fr1 f t ≤ 1 := sFrg01 t
section
variable {X : eX} {e : Nat} {h : Nat → Nat → Int}
theorem w_answer {c : Nat} {L : List Int} {x y z v : Int} (hc : ewK c = 9) (l : yR h c L x y z) (hL : L.length < 60) (hv : 0 ≤ v ∧ v < 65536) (hy : 0 ≤ y ∧ y ≤ 10000) (hz : 0 ≤ z ∧ z ≤ 10000) {KV KX} (H : ∀ h', frm c (c + 3) h h' → yR h' c (L ++ [v]) x (y + 1) (z + 3) → KV eNT e ewP h') : eCv X m_X9_answer [vR c, vI v] eNT e ewP h KV KX := by
  obtain ⟨l1, l2, l3, l4⟩ := l
  obtain ⟨k1, k2, k3, k4⟩ := y9 hc
  refine bk_X9_answer_0 X c v eNT e ewP h _ ?_
  simp only [k1, k2, k4, ite_true]
  rw [Int.emod_eq_of_lt hv.1 hv.2]
  refine w_put k3 l1 hL hv (fun h1 f1 q1 => ?_)
  simp only [k1, ite_true]
  rw [up_nk (show 3 ≠ 2 by omega), f1 c (by omega), l3, l4, wrn (by omega) (by omega), wrn (by omega) (by omega)]
  have g : frm c (c + 3) h (up (up h1 c 2 (y + 1)) c 3 (z + 3)) := frm_up (frm_up (frm_le f1 (by omega)) (by omega)) (by omega)
  refine H _ g ⟨lR_frm (frm_up (frm_up frm_rfl (by omega : c ≤ c ∧ c < c + 1)) (by omega)) (by omega) q1, ?_, ?_, ?_⟩
  · rw [up_nk (by omega), up_nk (by omega), f1 c (by omega)]; exact l2
  · rw [up_nk (by omega), up_eq]
  · rw [up_eq]
theorem w_pass {c d n t : Nat} {f : Nat → Int} {L : List Int} {x y z a : Int} (hc : ewK c = 9) (hd : ewK d = 10) (hcd : d + 5 ≤ c ∨ c + 3 ≤ d) (l : yR h c L x y z) (wd : wlR h d f n) (ok : wOk f n) (ht : t < n) (hL : L.length < 60) (hx : -10000 ≤ x ∧ x ≤ 10000) (hy : 0 ≤ y ∧ y ≤ 10000) (hz : 0 ≤ z ∧ z ≤ 10000) (ha : a = 0 ∨ a = 1) {KV KX} (H : ∀ h' L' u, frm c (c + 3) h h' → (L' = if a = 1 then pD f t L else pU f t L) → (u = if a = 1 then fr1 f t else 0) → L'.length ≤ L.length + 1 → yR h' c L' (x + (L.length + u - L'.length)) (y + u) (z + th1 f t + 3 * u) → KV eNT e ewP h') : eCv X m_X9_pass [vR c, vR d, vI t, vI a] eNT e ewP h KV KX := by
  have l' := l
  obtain ⟨l1, l2, l3, l4⟩ := l
  obtain ⟨k1, k2, k3, k4⟩ := y9 hc
  have k0 := (w10 hd).1
  have h5 := wd.1
  obtain ⟨t1, t2, t3, t4, t5⟩ := wd.2.2.2.2.2.2.2 t ht
  obtain ⟨o1, -, o3, o4, o5, o6⟩ := ok.2.2.2.2 t ht
  refine bk_X9_pass_0 X c d t a eNT e ewP h _ ?_
  simp only [k1, k2, k4, k0, ite_true, c_size1 k3 l1, c_kindOf hd (show t < 5 by omega), t1, show ((0 : Nat) : Int) = 0 from rfl, show ((2 : Nat) : Int) = 2 from rfl]
  by_cases q0 : f (5 + 4 * t) = 0
  · rw [if_pos q0]
    refine w_cutLast k3 l1 (fun h1 f1 q1 => ?_)
    simp only [k1, k2, k4, ite_true, c_size1 k3 q1]
    have e1 : (L.dropLast).length ≤ L.length := by rw [List.length_dropLast]; omega
    rw [f1 c (by omega), l2, wrn (x := (L.length : Int) - _) (by omega) (by omega), wrn (by omega) (by omega)]
    have e2 : fr1 f t = 0 := by rw [fr1_e]; rw [if_neg (by omega)]
    have e3 : th1 f t = 0 := by rw [th1_e]; rw [if_neg (by omega)]
    refine H _ L.dropLast 0 (frm_up (frm_le f1 (by omega)) (by omega)) ?_ ?_ (by omega) ⟨lR_frm (frm_up frm_rfl (by omega : c ≤ c ∧ c < c + 1)) (by omega) q1, ?_, ?_, ?_⟩
    · unfold pD pU; rw [if_pos q0, if_pos q0]; split <;> rfl
    · rw [e2]; split <;> rfl
    · rw [up_eq]; omega
    · rw [up_nk (by omega), f1 c (by omega)]; omega
    · rw [up_nk (by omega), f1 c (by omega), e3]; omega
  · rw [if_neg q0]
    by_cases q2 : f (5 + 4 * t) = 2
    · rw [if_pos q2, c_valueOf hd (by omega), t3]
      have hv := o4 (by omega)
      simp only [k1, k2, k4, ite_true]
      rw [l4, wrn (x := z + _) (by omega) (by omega)]
      have f0 : frm c (c + 1) h (up h c 3 (z + f (7 + 4 * t))) := frm_up frm_rfl (by omega)
      refine w_cutFirstVowel k3 (lR_frm f0 (by omega) l1) (fun h1 f1 q1 => ?_)
      simp only [k1, k2, k4, ite_true, c_size1 k3 q1]
      have e1 : (L.eraseP isV).length ≤ L.length := List.length_eraseP_le
      rw [f1 c (by omega), up_nk (by omega), l2, wrn (x := (L.length : Int) - _) (by omega) (by omega), wrn (by omega) (by omega)]
      have e2 : fr1 f t = 0 := by rw [fr1_e]; rw [if_neg (by omega)]
      have e3 : th1 f t = f (7 + 4 * t) := by rw [th1_e]; rw [if_pos q2]
      refine H _ (L.eraseP isV) 0 (frm_up (frm_tr f0 f1 (by omega)) (by omega)) ?_ ?_ (by omega) ⟨lR_frm (frm_up frm_rfl (by omega : c ≤ c ∧ c < c + 1)) (by omega) q1, ?_, ?_, ?_⟩
      · unfold pD pU; rw [if_neg q0, if_pos q2, if_neg q0, if_pos q2]; split <;> rfl
      · rw [e2]; split <;> rfl
      · rw [up_eq]; omega
      · rw [up_nk (by omega), f1 c (by omega), up_nk (by omega)]; omega
      · rw [up_nk (by omega), f1 c (by omega), up_eq, e3]; omega
    · rw [if_neg q2]
      have q1 : f (5 + 4 * t) = 1 := by omega
      have e3 : th1 f t = 0 := by rw [th1_e]; rw [if_neg (by omega)]
      by_cases qa : a = 0
      · rw [if_pos qa]
        refine H h L 0 frm_rfl ?_ ?_ (by omega) ?_
        · rw [if_neg (by omega)]; unfold pU; rw [if_neg q0, if_neg q2]
        · rw [if_neg (by omega)]
        · rw [e3]; simpa using l'
      · have qa1 : a = 1 := by omega
        rw [if_neg qa, c_isAwake hd (by omega), t4]
        by_cases qw : f (8 + 4 * t) = 0
        · rw [if_pos (by rw [if_pos qw])]
          have e2 : fr1 f t = 0 := by rw [fr1_e]; rw [if_pos q1]; simp [qw]
          refine H h L 0 frm_rfl ?_ ?_ (by omega) ?_
          · rw [if_pos qa1]; unfold pD; rw [if_neg q0, if_neg q2, if_neg (by omega)]
          · rw [if_pos qa1, e2]
          · rw [e3]; simpa using l'
        · have hv := o3 q1
          rw [if_neg (by rw [if_neg qw]; decide)]
          simp only [k0, k1, ite_true, c_valueOf hd (show t < 5 by omega), t3]
          have e2 : fr1 f t = 1 := by rw [fr1_e]; rw [if_pos q1]; simp [qw]
          refine w_answer hc l' hL (by omega) hy hz (fun h1 f1 q3 => ?_)
          refine H h1 (L ++ [f (7 + 4 * t)]) 1 f1 ?_ ?_ (by simp) ?_
          · rw [if_pos qa1]; unfold pD; rw [if_neg q0, if_neg q2, if_pos (by omega)]
          · rw [if_pos qa1, e2]
          · rw [e3]
            have e4 : x + ((L.length : Int) + 1 - ((L ++ [f (7 + 4 * t)]).length : Nat)) = x := by simp
            rw [e4, Int.add_zero]
            exact q3
theorem w_turnAt {c : Nat} {L : List Int} {x y z b : Int} (hc : ewK c = 9) (l : yR h c L x y z) (hx : -10000 ≤ x ∧ x ≤ 10000) {KV KX} (H : ∀ h' L', frm c (c + 3) h h' → L' = trn b L → L'.length ≤ L.length → yR h' c L' (x + (L.length - L'.length)) y z → KV eNT e ewP h') : eCv X m_X9_turnAt [vR c, vI b] eNT e ewP h KV KX := by
  have l' := l
  obtain ⟨l1, l2, l3, l4⟩ := l
  obtain ⟨k1, k2, k3, k4⟩ := y9 hc
  have h60 := l1.2.1
  refine bk_X9_turnAt_0 X c b eNT e ewP h _ ?_
  simp only [k1, k2, k4, ite_true, c_size1 k3 l1]
  have key : ∀ h1 L', frm (c + 1) (c + 3) h h1 → lR h1 (c + 1) L' → L' = trn b L → L'.length ≤ L.length → KV eNT e ewP (up h1 c 1 (x + (L.length - L'.length))) := by
    intro h1 L' f1 q1 e1 e2
    refine H _ L' (frm_up (frm_le f1 (by omega)) (by omega)) e1 e2 ⟨lR_frm (frm_up frm_rfl (by omega : c ≤ c ∧ c < c + 1)) (by omega) q1, ?_, ?_, ?_⟩
    · rw [up_eq]
    · rw [up_nk (by omega), f1 c (by omega)]; exact l3
    · rw [up_nk (by omega), f1 c (by omega)]; exact l4
  by_cases q1 : b = 1
  · rw [if_pos q1]
    refine w_turn k3 l1 (fun h1 f1 q => ?_)
    simp only [k1, k2, k4, ite_true, c_size1 k3 q]
    have e1 : (L.reverse).length = L.length := List.length_reverse
    rw [f1 c (by omega), l2, wrn (x := (L.length : Int) - _) (by omega) (by omega), wrn (by omega) (by omega)]
    exact key h1 _ f1 q (by unfold trn; rw [if_pos q1]) (by omega)
  · rw [if_neg q1]
    by_cases q2 : b = 2
    · rw [if_pos q2]
      refine w_cutVowels k3 l1 (fun h1 f1 q => ?_)
      simp only [k1, k2, k4, ite_true, c_size1 k3 q]
      have e1 : (L.filter (fun x => !isV x)).length ≤ L.length := List.length_filter_le _ _
      rw [f1 c (by omega), l2, wrn (x := (L.length : Int) - _) (by omega) (by omega), wrn (by omega) (by omega)]
      exact key h1 _ f1 q (by unfold trn; rw [if_neg q1, if_pos q2]) (by omega)
    · rw [if_neg q2]
      rw [l2, wrn (x := (L.length : Int) - _) (by omega) (by omega), wrn (by omega) (by omega)]
      exact key h L frm_rfl l1 (by unfold trn; rw [if_neg q1, if_neg q2]) (by omega)
theorem frP_s {f : Nat → Int} {n p : Nat} : frP f n (p + 1) = frP f n p + fr1 f (fAt f n p).toNat := by
  unfold frP fr1
  rw [sumF_snoc, Nat.zero_add]
theorem msP_s {f : Nat → Int} {n p : Nat} : msP f n (p + 1) = msP f n p + th1 f (fAt f n p).toNat := by
  unfold msP th1
  rw [sumF_snoc, Nat.zero_add]
theorem frP_b {f : Nat → Int} {n p : Nat} : 0 ≤ frP f n p ∧ frP f n p ≤ p * 1 := sumF_le (fun t => (sFrg01 _).1) (fun t => (sFrg01 _).2) p 0
theorem th1_b {f : Nat → Int} {n t : Nat} (ok : wOk f n) (ht : t < n) : 0 ≤ th1 f t ∧ th1 f t ≤ 9 := by
  obtain ⟨o1, -, o3, o4, o5, o6⟩ := ok.2.2.2.2 t ht
  rw [th1_e]
  split
  · have := o4 (by omega); omega
  · omega
theorem msP_b {f : Nat → Int} {n : Nat} (ok : wOk f n) : ∀ p, p ≤ n → 0 ≤ msP f n p ∧ msP f n p ≤ 9 * p := by
  intro p
  induction p with
  | zero => intro _; simp [msP, sumF]
  | succ p ih =>
    intro hp
    obtain ⟨t, a, -, b⟩ := fAt_ok (f := f) (show p < n by omega)
    rw [msP_s, b, Int.toNat_natCast]
    have := ih (by omega)
    have := th1_b ok a
    omega
theorem msP_m {f : Nat → Int} {n p : Nat} (ok : wOk f n) : ∀ q, p ≤ q → q ≤ n → msP f n p ≤ msP f n q := by
  intro q
  induction q with
  | zero => intro h _; rw [show p = 0 by omega]; exact Int.le_refl _
  | succ q ih =>
    intro h hq
    by_cases e : p = q + 1
    · rw [e]; exact Int.le_refl _
    · obtain ⟨t, a, -, b⟩ := fAt_ok (f := f) (show q < n by omega)
      rw [msP_s (p := q), b, Int.toNat_natCast]
      have := ih (by omega) (by omega)
      have := th1_b ok a
      omega
theorem c_thingAtF {d n p : Nat} {f : Nat → Int} (hd : ewK d = 10) (wd : wlR h d f n) (KI KX) : eCi X m_X10_thingAt [vR d, vI p] eNT e ewP h KI KX = KI (fAt f n p) eNT e ewP h := by
  rw [c_thingAt hd wd.2.2.1 wd.1]
  have : sAt (h (d + 2)) n p = fAt f n p := by
    unfold fAt sAt
    have e1 : ∀ t, t < n → sPl (h (d + 2)) n t = sPl (fun t => f (6 + 4 * t)) n t := by
      intro t ht
      unfold sPl
      refine sumF_congr n 0 (fun s _ hs => ?_)
      unfold sAb
      rw [(wd.2.2.2.2.2.2.2 s (by omega)).2.1, (wd.2.2.2.2.2.2.2 t ht).2.1]
    have e2 : ∀ (k i : Nat), i + k = n → fstF (fun t => sPl (h (d + 2)) n t = (p : Int)) i k = fstF (fun t => sPl (fun t => f (6 + 4 * t)) n t = (p : Int)) i k := by
      intro k
      induction k with
      | zero => intro i _; rfl
      | succ k ih =>
        intro i hi
        simp only [fstF]
        simp only [e1 i (show i < n by omega), ih (i + 1) (by omega)]
    exact e2 n 0 (by omega)
  rw [this]
theorem lp_goU {c d w n : Nat} {f : Nat → Int} {l0 : Nat} (hc : ewK c = 9) (hd : ewK d = 10) (hcd : d + 5 ≤ c ∨ c + 3 ≤ d) (ok : wOk f n) (hl : l0 ≤ 30) : ∀ (k : Nat) (L : List Int) (h : Nat → Nat → Int), k ≤ n → L.length ≤ l0 + 10 - k → wlR h d f n → yR h c L (l0 + frP f n n - L.length) (frP f n n) (2 * f 0 + msP f n n + 3 * frP f n n + (msP f n n - msP f n k)) → ∀ Q, (∀ h', frm c (c + 3) h h' → (gU f n k L).length ≤ l0 + 10 → yR h' c (gU f n k L) (l0 + frP f n n - (gU f n k L).length) (frP f n n) (fTime f n) → Q (.inl none) (eNT, e, ewP, h')) → eP X m_X9_go 40 [vR c, vR d, vR w, vI ((k : Int) - 1)] [] (eNT, e, ewP, h) Q := by
  have h5 := ok.1
  have bF := frP_b (f := f) (n := n) (p := n)
  have bM := msP_b ok n (Nat.le_refl _)
  have hd30 := ok.2.2.1
  intro k
  induction k with
  | zero =>
    intro L h hk hL wd l Q H
    refine bk_X9_go_40 X c d w _ eNT e ewP h Q ?_
    rw [if_pos (by omega)]
    refine H h frm_rfl (by simpa [gU] using hL) ?_
    rw [fTime_at]
    have e1 : msP f n 0 = 0 := rfl
    rw [e1] at l
    simp only [gU]
    rw [show (2 * f 0 + msP f n n + 3 * frP f n n + msP f n n) = (2 * f 0 + msP f n n + 3 * frP f n n + (msP f n n - 0)) by omega]
    exact l
  | succ k ih =>
    intro L h hk hL wd l Q H
    refine bk_X9_go_40 X c d w _ eNT e ewP h Q ?_
    have bK := msP_b ok (k + 1) hk
    have bK2 := msP_m ok n hk (Nat.le_refl _)
    rw [show ((k + 1 : Nat) : Int) - 1 = (k : Int) by omega]
    obtain ⟨t, a1, -, a2⟩ := fAt_ok (f := f) (show k < n by omega)
    rw [if_neg (by omega), if_pos (w10 hd).1, c_thingAtF hd wd, if_pos (y9 hc).1, a2]
    have tb := th1_b ok a1
    refine w_pass (a := 0) hc hd hcd l wd ok a1 (by omega) (by omega) (by omega) (by omega) (Or.inl rfl) (fun h1 L' u f1 hL' hu hl' q1 => ?_)
    rw [if_neg (by decide)] at hL' hu
    subst hu
    rw [show wr ((k : Int) + -1) = (k : Int) - 1 by rw [wrn (by omega) (by omega)]; omega]
    have hlu : L'.length ≤ L.length := by
      rw [hL']; unfold pU; split
      · rw [List.length_dropLast]; omega
      · split
        · exact List.length_eraseP_le
        · exact Nat.le_refl _
    refine ih L' h1 (by omega) (by omega) (wlR_frm f1 (by omega) wd) ?_ Q (fun h' f' => ?_)
    · have e1 := msP_s (f := f) (n := n) (p := k)
      rw [a2, Int.toNat_natCast] at e1
      obtain ⟨b1, b2, b3, b4⟩ := q1
      refine ⟨b1, by omega, by omega, by omega⟩
    · have e2 : gU f n (k + 1) L = gU f n k L' := by
        simp only [gU]; rw [a2, Int.toNat_natCast, hL']
      rw [← e2]
      exact H h' (frm_tr f1 f' (by omega))
theorem lp_goD {c d w n : Nat} {f : Nat → Int} {l0 : Nat} (hc : ewK c = 9) (hd : ewK d = 10) (hcd : d + 5 ≤ c ∨ c + 3 ≤ d) (ok : wOk f n) (hl : l0 ≤ 30) : ∀ (k p : Nat) (L : List Int) (h : Nat → Nat → Int), p + k = n → L.length ≤ l0 + p → wlR h d f n → yR h c L (l0 + frP f n p - L.length) (frP f n p) (2 * f 0 + msP f n p + 3 * frP f n p) → ∀ Q, (∀ h' L', frm c (c + 3) h h' → L' = gU f n n (trn (f 1) (gD f n p k L)) → L'.length ≤ l0 + 10 → yR h' c L' (l0 + frP f n n - L'.length) (frP f n n) (fTime f n) → Q (.inl none) (eNT, e, ewP, h')) → eP X m_X9_go 18 [vR c, vR d, vR w, vI (p : Int)] [] (eNT, e, ewP, h) Q := by
  have h5 := ok.1
  have hd30 := ok.2.2.1
  intro k
  induction k with
  | zero =>
    intro p L h hk hL wd l Q H
    have bF := frP_b (f := f) (n := n) (p := p)
    refine bk_X9_go_18 X c d w _ eNT e ewP h Q ?_
    obtain ⟨a0, a1, a2, a3, a4, a5, a6, a7⟩ := id wd
    simp only [(w10 hd).1, (y9 hc).1, ite_true]
    have hp : p = n := by omega
    subst hp
    rw [if_neg (by omega), a4]
    refine w_turnAt hc l (by omega) (fun h1 L' f1 e1 e2 q1 => ?_)
    simp only [(w10 hd).1, ite_true]
    rw [f1 d (by omega), a2, wrn (by omega) (by omega)]
    refine lp_goU hc hd hcd ok hl p L' h1 (Nat.le_refl _) (by omega) (wlR_frm f1 (by omega) wd) ?_ Q (fun h' f' b1 b2 => ?_)
    · obtain ⟨b1, b2, b3, b4⟩ := q1
      exact ⟨b1, by omega, by omega, by omega⟩
    · subst e1
      exact H h' _ (frm_tr f1 f' (by omega)) rfl b1 b2
  | succ k ih =>
    intro p L h hk hL wd l Q H
    have bF := frP_b (f := f) (n := n) (p := p)
    have bM := msP_b ok p (by omega)
    refine bk_X9_go_18 X c d w _ eNT e ewP h Q ?_
    obtain ⟨t, a1, -, a2⟩ := fAt_ok (f := f) (show p < n by omega)
    have hn := wd.2.2.1
    rw [if_pos (w10 hd).1, if_pos (by omega), if_pos (w10 hd).1, c_thingAtF hd wd, if_pos (y9 hc).1, a2]
    have tb := th1_b ok a1
    refine w_pass (a := 1) hc hd hcd l wd ok a1 (by omega) (by omega) (by omega) (by omega) (Or.inr rfl) (fun h1 L' u f1 hL' hu hl' q1 => ?_)
    rw [if_pos rfl] at hL' hu
    rw [wi1 (by omega)]
    refine ih (p + 1) L' h1 (by omega) (by omega) (wlR_frm f1 (by omega) wd) ?_ Q (fun h' L2 f' e2 => ?_)
    · have e1 := msP_s (f := f) (n := n) (p := p)
      have e2 := frP_s (f := f) (n := n) (p := p)
      rw [a2, Int.toNat_natCast] at e1 e2
      obtain ⟨b1, b2, b3, b4⟩ := q1
      refine ⟨b1, by omega, by omega, by omega⟩
    · refine H h' L2 (frm_tr f1 f' (by omega)) ?_
      rw [e2]
      simp only [gD]
      rw [a2, Int.toNat_natCast, hL']
theorem w_go {c d w n : Nat} {f : Nat → Int} {M : List Int} (hc : ewK c = 9) (hd : ewK d = 10) (hw : ewK w = 4) (hcd : d + 5 ≤ c ∨ c + 3 ≤ d) (hcw : w + 2 ≤ c ∨ c + 3 ≤ w) (ok : wOk f n) (wd : wlR h d f n) (lw : lR h w M) (hM : M.length ≤ 30) (hch : lCh h (c + 1)) {KV KX} (H : ∀ h', frm c (c + 3) h h' → (eEc f n M).length ≤ M.length + 10 → yR h' c (eEc f n M) (M.length + fFrg f 1 n - (eEc f n M).length) (fFrg f 1 n) (fTime f n) → KV eNT e ewP h') : eCv X m_X9_go [vR c, vR d, vR w] eNT e ewP h KV KX := by
  obtain ⟨k1, k2, k3, k4⟩ := y9 hc
  refine bk_X9_go_0 X c d w eNT e ewP h _ ?_
  simp only [k1, k2, k4, ite_true]
  refine w_copy k3 hw (by omega) hch lw (fun h1 f1 q1 => ?_)
  simp only [k1, (w10 hd).1, ite_true]
  have hdc : d ≠ c := by omega
  have hd30 := ok.2.2.1
  simp only [up_ne hdc]
  rw [f1 d (by omega), wd.2.2.2.1, wrn (by omega) (by omega)]
  have g : frm c (c + 3) h (up (up (up h1 c 1 0) c 2 0) c 3 (2 * f 0)) := frm_up (frm_up (frm_up (frm_le f1 (by omega)) (by omega)) (by omega)) (by omega)
  refine lp_goD hc hd hcd ok hM n 0 M _ (by omega) (by omega) (wlR_frm g (by omega) wd) ⟨?_, ?_, ?_, ?_⟩ _ (fun h' L' f' e1 b1 b2 => ?_)
  · exact lR_frm (frm_up (frm_up (frm_up frm_rfl (by omega : c ≤ c ∧ c < c + 1)) (by omega)) (by omega)) (by omega) q1
  · rw [up_nk (by omega), up_nk (by omega), up_eq, show frP f n 0 = 0 from rfl]; omega
  · rw [up_nk (by omega), up_eq]; rfl
  · rw [up_eq, show frP f n 0 = 0 from rfl, show msP f n 0 = 0 from rfl]; omega
  · have e2 : L' = eEc f n M := e1
    subst e2
    rw [frP_all] at b2
    exact H h' (frm_tr g f' (by omega)) b1 b2
/-- a grade -/
def grd (a b t : Int) : Int := if 9 - (if b < a then a - b else b - a) - t / 20 < 0 then 0 else 9 - (if b < a then a - b else b - a) - t / 20
theorem grd_b {a b t : Int} (ha : 0 ≤ t) : 0 ≤ grd a b t ∧ grd a b t ≤ 9 := by
  unfold grd
  split
  · omega
  · split at * <;> omega
theorem c_gradeFor {c w : Nat} {L M : List Int} {x y z : Int} (hc : ewK c = 9) (hw : ewK w = 4) (l : yR h c L x y z) (lw : lR h w M) (hz : 0 ≤ z ∧ z ≤ 10000) (KI KX) : eCi X m_X9_gradeFor [vR c, vR w] eNT e ewP h KI KX = KI (grd M.length L.length z) eNT e ewP h := by
  obtain ⟨k1, k2, k3, k4⟩ := y9 hc
  have a1 := l.1.2.1
  have a2 := lw.2.1
  refine eCi_eq X (fun Q H => ?_) KI KX
  refine bk_X9_gradeFor_0 X c w eNT e ewP h Q ?_
  simp only [k1, k2, k4, (l4 hw).1, ite_true, c_size1 hw lw, c_size1 k3 l.1, l.2.2.2]
  rw [if_neg (by decide), Int.tdiv_eq_ediv_of_nonneg hz.1, wrn (x := (M.length : Int) - _) (by omega) (by omega), wrn (x := z / 20) (by omega) (by omega), wrn (x := -((M.length : Int) - _)) (by omega) (by omega)]
  have e1 : (if (M.length : Int) - L.length < 0 then -((M.length : Int) - L.length) else (M.length : Int) - L.length) = (if (L.length : Int) < M.length then (M.length : Int) - L.length else (L.length : Int) - M.length) := by
    split <;> split <;> omega
  rw [e1]
  have e2 : 0 ≤ (if (L.length : Int) < M.length then (M.length : Int) - L.length else (L.length : Int) - M.length) ∧ (if (L.length : Int) < M.length then (M.length : Int) - L.length else (L.length : Int) - M.length) ≤ 100 := by
    split <;> omega
  rw [wrn (x := 9 - _) (by omega) (by omega), wrn (by omega) (by omega)]
  have e3 : grd M.length L.length z = (if 9 - (if (L.length : Int) < M.length then (M.length : Int) - L.length else (L.length : Int) - M.length) - z / 20 ≤ 0 then 0 else 9 - (if (L.length : Int) < M.length then (M.length : Int) - L.length else (L.length : Int) - M.length) - z / 20) := by
    unfold grd
    split <;> split <;> omega
  rw [← e3]
  exact H
theorem lp_uppermostCoin {c n : Nat} {len : Int} {f : Nat → Int} (hc : ewK c = 10) (wc : wlR h c f n) : ∀ (k i : Nat) (x : Int) (j4 : eV), i + k = n → (x = -1 ∨ ∃ t, t < n ∧ x = ((t : Nat) : Int)) → ∀ Q, Q (.inl (some (vI (upF f len i k x)))) (eNT, e, ewP, h) → eP X m_X10_uppermostCoin 4 [vR c, vI len, vI x, vI i, j4] [] (eNT, e, ewP, h) Q := by
  obtain ⟨a0, a1, a2, a3, a4, a5, a6, a7⟩ := id wc
  intro k
  induction k with
  | zero =>
    intro i x j4 hi hx Q H
    refine bk_X10_uppermostCoin_4 X c len x i j4 eNT e ewP h Q ?_
    rw [if_pos (w10 hc).1, if_neg (by omega)]
    exact H
  | succ k ih =>
    intro i x j4 hi hx Q H
    refine bk_X10_uppermostCoin_4 X c len x i j4 eNT e ewP h Q ?_
    obtain ⟨t1, t2, t3, t4, t5⟩ := a7 i (by omega)
    have g1 : (i : Int) < h c 4 := by omega
    simp only [(w10 hc).1, g1, ite_true, c_kindOf hc (show i < 5 by omega), c_depthOf hc (show i < 5 by omega), t1, t2, wi1 (show i < 1000 by omega), show ((1 : Int) = 0) = False by decide, ite_false, show ((0 : Int) = 0) = True by decide]
    simp only [upF] at H
    by_cases q1 : f (5 + 4 * i) = 0
    · rw [if_pos q1]
      by_cases q2 : f (6 + 4 * i) ≤ len
      · rw [if_pos q2]
        by_cases q3 : x = -1
        · rw [if_pos q3]
          rw [if_pos ⟨q1, q2, Or.inl q3⟩] at H
          exact ih (i + 1) i _ (by omega) (Or.inr ⟨i, by omega, rfl⟩) Q H
        · rw [if_neg q3]
          rcases hx with hx | ⟨t, b1, b2⟩
          · exact absurd hx q3
          · subst b2
            rw [c_depthOf hc (by omega), (a7 t b1).2.1]
            rw [Int.toNat_natCast] at H
            by_cases q4 : f (6 + 4 * i) < f (6 + 4 * t)
            · rw [if_pos q4]
              rw [if_pos ⟨q1, q2, Or.inr q4⟩] at H
              exact ih (i + 1) i _ (by omega) (Or.inr ⟨i, by omega, rfl⟩) Q H
            · rw [if_neg q4]
              rw [if_neg (fun r => r.2.2.elim q3 q4)] at H
              exact ih (i + 1) t _ (by omega) (Or.inr ⟨t, b1, rfl⟩) Q H
      · rw [if_neg q2]
        rw [if_neg (fun r => q2 r.2.1)] at H
        exact ih (i + 1) x _ (by omega) hx Q H
    · rw [if_neg q1]
      rw [if_neg (fun r => q1 r.1)] at H
      exact ih (i + 1) x _ (by omega) hx Q H
theorem c_uppermostCoin {c n : Nat} {len : Int} {f : Nat → Int} (hc : ewK c = 10) (wc : wlR h c f n) (KI KX) : eCi X m_X10_uppermostCoin [vR c, vI len] eNT e ewP h KI KX = KI (rchF f n len 0 n) eNT e ewP h := by
  refine eCi_eq X (fun Q H => ?_) KI KX
  refine bk_X10_uppermostCoin_0 X c len eNT e ewP h Q ?_
  rw [← up_rch] at H
  exact lp_uppermostCoin hc wc n 0 (-1) _ (by omega) (Or.inl rfl) Q H
end
theorem pD_len {f : Nat → Int} {t : Nat} {L : List Int} : (pD f t L).length ≤ L.length + 1 := by
  unfold pD
  split
  · rw [List.length_dropLast]; omega
  · split
    · exact Nat.le_succ_of_le List.length_eraseP_le
    · split
      · simp
      · omega
theorem pU_len {f : Nat → Int} {t : Nat} {L : List Int} : (pU f t L).length ≤ L.length := by
  unfold pU
  split
  · rw [List.length_dropLast]; omega
  · split
    · exact List.length_eraseP_le
    · exact Nat.le_refl _
theorem gD_len {f : Nat → Int} {n : Nat} : ∀ (k p : Nat) (L : List Int), (gD f n p k L).length ≤ L.length + k := by
  intro k
  induction k with
  | zero => intro p L; exact Nat.le_refl _
  | succ k ih =>
    intro p L
    simp only [gD]
    have h1 := ih (p + 1) (pD f (fAt f n p).toNat L)
    have h2 := pD_len (f := f) (t := (fAt f n p).toNat) (L := L)
    omega
theorem gU_len {f : Nat → Int} {n : Nat} : ∀ (k : Nat) (L : List Int), (gU f n k L).length ≤ L.length := by
  intro k
  induction k with
  | zero => intro L; exact Nat.le_refl _
  | succ k ih =>
    intro L
    simp only [gU]
    have h1 := ih (pU f (fAt f n k).toNat L)
    have h2 := pU_len (f := f) (t := (fAt f n k).toNat) (L := L)
    omega
theorem trn_len {b : Int} {L : List Int} : (trn b L).length ≤ L.length := by
  unfold trn
  split
  · simp
  · split
    · exact List.length_filter_le _ _
    · exact Nat.le_refl _
theorem eEc_len {f : Nat → Int} {n : Nat} {M : List Int} (ok : wOk f n) : (eEc f n M).length ≤ M.length + 5 := by
  unfold eEc
  have h1 := gU_len (f := f) (n := n) n (trn (f 1) (gD f n 0 n M))
  have h2 := trn_len (b := f 1) (L := gD f n 0 n M)
  have h3 := gD_len (f := f) (n := n) n 0 M
  have := ok.1
  omega
