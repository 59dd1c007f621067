/-! frames, and the class's letters as lists -/
def frm (a b : Nat) (h h' : Nat → Nat → Int) : Prop := ∀ c, (c < a ∨ b ≤ c) → h' c = h c
theorem frm_rfl {a b : Nat} {h : Nat → Nat → Int} : frm a b h h := fun _ _ => rfl
theorem frm_tr {a b a1 b1 a2 b2 : Nat} {h h1 h2 : Nat → Nat → Int} (f1 : frm a1 b1 h h1) (f2 : frm a2 b2 h1 h2) (q : a ≤ a1 ∧ b1 ≤ b ∧ a ≤ a2 ∧ b2 ≤ b) : frm a b h h2 := by
  intro c hc
  rw [f2 c (by omega), f1 c (by omega)]
theorem frm_le {a b a1 b1 : Nat} {h h1 : Nat → Nat → Int} (f1 : frm a1 b1 h h1) (q : a ≤ a1 ∧ b1 ≤ b) : frm a b h h1 := by
  intro c hc
  rw [f1 c (by omega)]
theorem up_ne {h : Nat → Nat → Int} {a k : Nat} {v : Int} {c : Nat} (q : c ≠ a) : up h a k v c = h c := by
  funext j
  unfold up
  rw [if_neg (by omega)]
theorem up_nk {h : Nat → Nat → Int} {a k : Nat} {v : Int} {c j : Nat} (q : j ≠ k) : up h a k v c j = h c j := by
  unfold up
  rw [if_neg (by omega)]
theorem up_eq {h : Nat → Nat → Int} {a k : Nat} {v : Int} : up h a k v a k = v := by
  unfold up
  rw [if_pos ⟨rfl, rfl⟩]
theorem up_at {h : Nat → Nat → Int} {a k : Nat} {v : Int} {j : Nat} : up h a k v a j = if j = k then v else h a j := by
  unfold up
  simp
theorem frm_up {a b : Nat} {h h' : Nat → Nat → Int} {c k : Nat} {v : Int} (f : frm a b h h') (q : a ≤ c ∧ c < b) : frm a b h (up h' c k v) := by
  intro d hd
  rw [up_ne (by omega), f d hd]
/-- the letters at c are L -/
def lR (h : Nat → Nat → Int) (c : Nat) (L : List Int) : Prop := h c 1 = (L.length : Int) ∧ L.length ≤ 60 ∧ (∀ k, k < L.length → L[k]? = some (h (c + 1) k)) ∧ lCh h c
theorem lR_frm {a b c : Nat} {h h' : Nat → Nat → Int} {L : List Int} (f : frm a b h h') (q : c + 2 ≤ a ∨ b ≤ c) (l : lR h c L) : lR h' c L := by
  obtain ⟨h1, h2, h3, h4⟩ := l
  unfold lR lCh
  rw [f c (by omega), f (c + 1) (by omega)]
  exact ⟨h1, h2, h3, h4⟩
def isV (x : Int) : Bool := x == 97 || x == 101 || x == 105 || x == 111 || x == 117
theorem k4s {c d : Nat} (hc : ewK c = 4) (hd : ewK d = 4) : c + 1 ≠ d := by
  intro q
  have h1 := (ly_4 c (ly_out c (by rw [hc]; decide)) hc).2.1
  rw [q, hd] at h1
  omega
section
variable {X : eX} {e : Nat} {h : Nat → Nat → Int}
theorem c_at1 {c i : Nat} {x : Int} {L : List Int} (hc : ewK c = 4) (l : lR h c L) (hx : L[i]? = some x) (KI KX) : eCi X m_X4_at [vR c, vI i] eNT e ewP h KI KX = KI x eNT e ewP h := by
  obtain ⟨h1, h2, h3, h4⟩ := l
  have h5 : i < L.length := (List.getElem?_eq_some_iff.mp hx).1
  rw [c_at hc h4]
  unfold lAt
  rw [if_pos (by omega), Int.toNat_natCast]
  have h6 := h3 i h5
  rw [hx] at h6
  injection h6 with h6
  rw [h6]
theorem c_at0 {c : Nat} {i : Int} {L : List Int} (hc : ewK c = 4) (l : lR h c L) (hx : i < 0 ∨ (L.length : Int) ≤ i) (KI KX) : eCi X m_X4_at [vR c, vI i] eNT e ewP h KI KX = KI 0 eNT e ewP h := by
  obtain ⟨h1, h2, h3, h4⟩ := l
  rw [c_at hc h4]
  unfold lAt
  rw [if_neg (by omega)]
theorem c_size1 {c : Nat} {L : List Int} (hc : ewK c = 4) (l : lR h c L) (KI KX) : eCi X m_X4_size [vR c] eNT e ewP h KI KX = KI (L.length : Int) eNT e ewP h := by
  rw [c_size hc, l.1]
theorem lR_x {c : Nat} {L : List Int} (l : lR h c L) {x : Int} (hx : x ∈ L) : 0 ≤ x ∧ x < 65536 := by
  obtain ⟨h1, h2, h3, h4⟩ := l
  obtain ⟨i, hi, q⟩ := List.getElem_of_mem hx
  have h5 := h3 i hi
  rw [List.getElem?_eq_getElem hi] at h5
  injection h5 with h5
  rw [← q, h5]
  exact h4 i
theorem w_clear {c : Nat} (hc : ewK c = 4) (l : lCh h c) {KV KX} (H : ∀ h', frm c (c + 2) h h' → lR h' c [] → KV eNT e ewP h') : eCv X m_X4_clear [vR c] eNT e ewP h KV KX := by
  refine bk_X4_clear_0 X c eNT e ewP h _ ?_
  rw [if_pos (l4 hc).1]
  refine H _ (frm_up frm_rfl (by omega)) ⟨by rw [up_eq]; rfl, by decide, fun k hk => absurd hk (Nat.not_lt_zero _), ?_⟩
  unfold lCh
  rw [up_ne (by omega)]
  exact l
theorem w_putx {c : Nat} {L : List Int} {v : Int} (hc : ewK c = 4) (l : lR h c L) (hL : L.length < 60) (hv : 0 ≤ v ∧ v < 65536) {KV KX} (H : ∀ h', frm c (c + 2) h h' → lR h' c (L ++ [v]) → (∀ k, k ≠ L.length → h' (c + 1) k = h (c + 1) k) → KV eNT e ewP h') : eCv X m_X4_put [vR c, vI v] eNT e ewP h KV KX := by
  obtain ⟨h1, h2, h3, h4⟩ := l
  obtain ⟨k1, k2, k3, k4⟩ := l4 hc
  refine bk_X4_put_0 X c v eNT e ewP h _ ?_
  simp only [k1, k2, k3, k4, ite_true, h1, Int.toNat_natCast]
  rw [if_neg (by omega), if_pos (by decide), if_pos (by omega), if_pos ⟨trivial, by omega, by omega⟩]
  rw [up_ne (by omega), h1, wrn (by omega) (by omega), Int.emod_eq_of_lt hv.1 hv.2]
  refine H _ (frm_up (frm_up frm_rfl (by omega)) (by omega)) ⟨?_, ?_, ?_, ?_⟩ ?_
  · rw [up_eq]; simp
  · simp; omega
  · intro k hk
    rw [up_ne (by omega), up_at]
    simp at hk
    by_cases q : k = L.length
    · subst q
      simp
    · rw [if_neg q, List.getElem?_append_left (by omega)]
      exact h3 k (by omega)
  · intro k
    rw [up_ne (by omega), up_at]
    by_cases q : k = L.length
    · rw [if_pos q]; exact hv
    · rw [if_neg q]; exact h4 k
  · intro k hk
    rw [up_ne (by omega), up_nk hk]
theorem w_put {c : Nat} {L : List Int} {v : Int} (hc : ewK c = 4) (l : lR h c L) (hL : L.length < 60) (hv : 0 ≤ v ∧ v < 65536) {KV KX} (H : ∀ h', frm c (c + 2) h h' → lR h' c (L ++ [v]) → KV eNT e ewP h') : eCv X m_X4_put [vR c, vI v] eNT e ewP h KV KX := by
  exact w_putx hc l hL hv (fun h' f l' _ => H h' f l')
def dgt (v : Int) : List Int := if v < 10 then [48 + v] else [48 + v / 10, 48 + v % 10]
theorem lp_copy {c d : Nat} (hc : ewK c = 4) (hd : ewK d = 4) (hcd : c ≠ d) {M : List Int} : ∀ (B A : List Int) (h : Nat → Nat → Int), A ++ B = M → lR h c A → lR h d M → ∀ Q, (∀ h', frm c (c + 2) h h' → lR h' c M → Q (.inl none) (eNT, e, ewP, h')) → eP X m_X4_copy 4 [vR c, vR d, vI (A.length : Int)] [] (eNT, e, ewP, h) Q := by
  have s1 := k4s hc hd
  have s2 := k4s hd hc
  intro B
  induction B with
  | nil =>
    intro A h hM lc ld Q H
    rw [List.append_nil] at hM
    subst hM
    refine bk_X4_copy_4 X c d _ eNT e ewP h Q ?_
    rw [if_pos (l4 hd).1, if_neg (by rw [ld.1]; omega)]
    exact H h frm_rfl lc
  | cons x B ih =>
    intro A h hM lc ld Q H
    refine bk_X4_copy_4 X c d _ eNT e ewP h Q ?_
    have hl : A.length + (B.length + 1) = M.length := by rw [← hM]; simp
    have hx : M[A.length]? = some x := by rw [← hM]; simp
    simp only [(l4 hd).1, (l4 hc).1, ite_true]
    rw [if_pos (by rw [ld.1]; omega), c_at1 hd ld hx]
    have h60 := ld.2.1
    rw [if_pos (l4 hc).1]
    refine w_put hc lc (by omega) (lR_x ld (List.mem_of_getElem? hx)) (fun h1 f1 l1 => ?_)
    have e1 : wr ((A.length : Int) + 1) = (((A ++ [x]).length : Nat) : Int) := by rw [wrn (by omega) (by omega)]; simp
    rw [e1]
    refine ih (A ++ [x]) h1 (by simpa using hM) l1 (lR_frm f1 (by omega) ld) Q (fun h' f l' => H h' (frm_tr f1 f (by omega)) l')
theorem w_copy {c d : Nat} {M : List Int} (hc : ewK c = 4) (hd : ewK d = 4) (hcd : c ≠ d) (lc : lCh h c) (ld : lR h d M) {KV KX} (H : ∀ h', frm c (c + 2) h h' → lR h' c M → KV eNT e ewP h') : eCv X m_X4_copy [vR c, vR d] eNT e ewP h KV KX := by
  have s1 := k4s hc hd
  have s2 := k4s hd hc
  refine bk_X4_copy_0 X c d eNT e ewP h _ ?_
  rw [if_pos (l4 hc).1]
  refine w_clear hc lc (fun h1 f1 l1 => ?_)
  exact lp_copy hc hd hcd M [] h1 rfl l1 (lR_frm f1 (by omega) ld) _ (fun h' f l' => H h' (frm_tr f1 f (by omega)) l')
theorem c_isVowel {x : Int} (KI KX) : eCi X m_X12_isVowel [vI x] eNT e ewP h KI KX = KI (if isV x then 1 else 0) eNT e ewP h := by
  refine eCi_eq X (fun Q H => ?_) KI KX
  refine bk_X12_isVowel_0 X x eNT e ewP h Q ?_
  unfold isV at H
  by_cases a1 : x = 97
  · subst a1; simpa using H
  · by_cases a2 : x = 101
    · subst a2; simpa using H
    · by_cases a3 : x = 105
      · subst a3; simpa using H
      · by_cases a4 : x = 111
        · subst a4; simpa using H
        · by_cases a5 : x = 117
          · subst a5; simpa using H
          · simpa [a1, a2, a3, a4, a5] using H
theorem c_isLetter {x : Int} (KI KX) : eCi X m_X12_isLetter [vI x] eNT e ewP h KI KX = KI (if 97 ≤ x ∧ x ≤ 122 then 1 else 0) eNT e ewP h := by
  refine eCi_eq X (fun Q H => ?_) KI KX
  refine bk_X12_isLetter_0 X x eNT e ewP h Q ?_
  by_cases a1 : x < 97
  · rw [if_neg (by omega)] at H
    simpa [a1] using H
  · by_cases a2 : x ≤ 122
    · rw [if_pos (by omega)] at H
      have a3 : ¬ 122 < x := by omega
      simpa [a1, a2, a3] using H
    · rw [if_neg (by omega)] at H
      have a3 : 122 < x := by omega
      simpa [a1, a2, a3] using H
theorem w_cutLast {c : Nat} {L : List Int} (hc : ewK c = 4) (l : lR h c L) {KV KX} (H : ∀ h', frm c (c + 2) h h' → lR h' c L.dropLast → KV eNT e ewP h') : eCv X m_X4_cutLast [vR c] eNT e ewP h KV KX := by
  obtain ⟨h1, h2, h3, h4⟩ := l
  refine bk_X4_cutLast_0 X c eNT e ewP h _ ?_
  simp only [(l4 hc).1, ite_true, h1]
  by_cases q : L = []
  · subst q
    rw [if_pos (by simp)]
    exact H h frm_rfl ⟨h1, h2, h3, h4⟩
  · have h5 : 0 < L.length := List.length_pos_iff.mpr q
    rw [if_neg (by omega), wrn (by omega) (by omega)]
    refine H _ (frm_up frm_rfl (by omega)) ⟨?_, ?_, ?_, ?_⟩
    · rw [up_eq, List.length_dropLast]; omega
    · rw [List.length_dropLast]; omega
    · intro k hk
      rw [List.length_dropLast] at hk
      rw [up_ne (by omega), List.getElem?_dropLast, if_pos (by omega)]
      exact h3 k (by omega)
    · intro k
      rw [up_ne (by omega)]
      exact h4 k
/-- shifting down in the loop of cutAt -/
theorem lp_cutAt {c : Nat} (hc : ewK c = 4) {L : List Int} {a : Int} : ∀ (B A : List Int) (h : Nat → Nat → Int) (x : Int) , A.length + B.length + 1 = L.length → h c 1 = (L.length : Int) → L.length ≤ 60 → (∀ k, k < A.length → A[k]? = some (h (c + 1) k)) → (∀ k, k < B.length → B[k]? = some (h (c + 1) (A.length + 1 + k))) → lCh h c → ∀ Q, (∀ h', frm c (c + 2) h h' → lR h' c (A ++ B) → Q (.inl none) (eNT, e, ewP, h')) → eP X m_X4_cutAt 11 [vR c, vI a, vI ((A.length : Int) + 1)] [] (eNT, e, ewP, h) Q := by
  obtain ⟨k1, k2, k3, k4⟩ := l4 hc
  intro B
  induction B with
  | nil =>
    intro A h x hl hn h60 hA hB hh Q H
    refine bk_X4_cutAt_11 X c a _ eNT e ewP h Q ?_
    simp only [k1, ite_true]
    simp only [List.length_nil] at hl
    rw [if_neg (by omega), hn, wrn (by omega) (by omega)]
    rw [List.append_nil] at H
    refine H _ (frm_up frm_rfl (by omega)) ⟨by rw [up_eq]; omega, by omega, ?_, ?_⟩
    · intro k hk
      rw [up_ne (by omega)]
      exact hA k hk
    · intro k
      rw [up_ne (by omega)]
      exact hh k
  | cons y B ih =>
    intro A h x hl hn h60 hA hB hh Q H
    refine bk_X4_cutAt_11 X c a _ eNT e ewP h Q ?_
    simp only [k1, k2, k3, k4, ite_true]
    simp only [List.length_cons] at hl hB
    rw [if_pos (by omega), if_pos (by decide), if_pos (by omega), if_pos ⟨trivial, by omega, by omega⟩, wrn (x := (A.length : Int) + 1 - 1) (by omega) (by omega), if_pos ⟨trivial, by omega, by omega⟩]
    have e1 : ((A.length : Int) + 1 - 1).toNat = A.length := by omega
    have e2 : ((A.length : Int) + 1).toNat = A.length + 1 := by omega
    have e3 : wr ((A.length : Int) + 1 + 1) = (((A ++ [y]).length : Nat) : Int) + 1 := by rw [wrn (by omega) (by omega)]; simp
    have hy := hB 0 (by omega)
    simp at hy
    rw [e1, e2, e3, ← hy]
    have hr := hh (A.length + 1)
    rw [← hy] at hr
    rw [Int.emod_eq_of_lt hr.1 hr.2]
    refine ih (A ++ [y]) _ x (by simp; omega) (by rw [up_ne (by omega)]; exact hn) h60 ?_ ?_ ?_ Q ?_
    · intro k hk
      simp at hk
      rw [up_at]
      by_cases q : k = A.length
      · subst q; simp
      · rw [if_neg q, List.getElem?_append_left (by omega)]
        exact hA k (by omega)
    · intro k hk
      rw [up_at, if_neg (by simp; omega)]
      have := hB (k + 1) (by omega)
      simp at this ⊢
      rw [this]
      exact congrArg (fun z => some (h (c + 1) z)) (by omega)
    · intro k
      rw [up_at]
      by_cases q : k = A.length
      · rw [if_pos q]; exact hr
      · rw [if_neg q]; exact hh k
    · intro h' f l'
      refine H h' (frm_tr (frm_up frm_rfl (by omega : c ≤ c + 1 ∧ c + 1 < c + 2)) f (by omega)) ?_
      simpa using l'
theorem w_cutAt {c : Nat} {A B : List Int} {x : Int} (hc : ewK c = 4) (l : lR h c (A ++ x :: B)) {KV KX} (H : ∀ h', frm c (c + 2) h h' → lR h' c (A ++ B) → KV eNT e ewP h') : eCv X m_X4_cutAt [vR c, vI (A.length : Int)] eNT e ewP h KV KX := by
  obtain ⟨h1, h2, h3, h4⟩ := l
  refine bk_X4_cutAt_0 X c _ eNT e ewP h _ ?_
  have hl : (A ++ x :: B).length = A.length + B.length + 1 := by simp; omega
  rw [if_neg (by omega), if_pos (l4 hc).1, if_pos (by omega), wrn (by omega) (by omega)]
  refine lp_cutAt hc (L := A ++ x :: B) B A h x (by omega) h1 h2 ?_ ?_ h4 _ H
  · intro k hk
    have := h3 k (by omega)
    rw [List.getElem?_append_left hk] at this
    exact this
  · intro k hk
    have := h3 (A.length + 1 + k) (by omega)
    rw [List.getElem?_append_right (by omega)] at this
    rw [← this, show A.length + 1 + k - A.length = k + 1 from by omega]
    simp
theorem w_cutAt0 {c : Nat} {L : List Int} (hc : ewK c = 4) (l : lR h c L) {KV KX} (H : KV eNT e ewP h) : eCv X m_X4_cutAt [vR c, vI (L.length : Int)] eNT e ewP h KV KX := by
  refine bk_X4_cutAt_0 X c _ eNT e ewP h _ ?_
  rw [if_neg (by omega), if_pos (l4 hc).1, if_neg (by rw [l.1]; omega)]
  exact H
theorem lp_cutFirstVowel {c : Nat} (hc : ewK c = 4) {L : List Int} (lc : lR h c L) : ∀ (B A : List Int), A ++ B = L → (∀ x, x ∈ A → isV x = false) → ∀ Q, (∀ h', frm c (c + 2) h h' → lR h' c (L.eraseP isV) → Q (.inl none) (eNT, e, ewP, h')) → eP X m_X4_cutFirstVowel 2 [vR c, vI (A.length : Int)] [] (eNT, e, ewP, h) Q := by
  intro B
  induction B with
  | nil =>
    intro A h1 hA Q H
    rw [List.append_nil] at h1
    subst h1
    refine bk_X4_cutFirstVowel_2 X c _ eNT e ewP h Q ?_
    simp only [(l4 hc).1, ite_true]
    rw [if_neg (by rw [lc.1]; omega)]
    refine w_cutAt0 hc lc (H h frm_rfl ?_)
    rw [List.eraseP_of_forall_not (fun x hx => by simp [hA x hx])]
    exact lc
  | cons x B ih =>
    intro A h1 hA Q H
    refine bk_X4_cutFirstVowel_2 X c _ eNT e ewP h Q ?_
    have hl : A.length + (B.length + 1) = L.length := by rw [← h1]; simp
    have hx : L[A.length]? = some x := by rw [← h1]; simp
    have h60 := lc.2.1
    simp only [(l4 hc).1, ite_true]
    rw [if_pos (by rw [lc.1]; omega), c_at1 hc lc hx, c_isVowel]
    by_cases q : isV x = true
    · rw [if_neg (by rw [if_pos q]; decide)]
      subst h1
      simp only [(l4 hc).1, ite_true]
      refine w_cutAt hc lc ?_
      intro h' f l'
      refine H h' f ?_
      rw [List.eraseP_append_right _ (fun y hy => by simp [hA y hy]), List.eraseP_cons_of_pos q]
      exact l'
    · rw [if_pos (by rw [if_neg q])]
      have e1 : wr ((A.length : Int) + 1) = (((A ++ [x]).length : Nat) : Int) := by rw [wrn (by omega) (by omega)]; simp
      rw [e1]
      refine ih (A ++ [x]) (by simpa using h1) ?_ Q H
      intro y hy
      rcases List.mem_append.mp hy with r | r
      · exact hA y r
      · rw [List.mem_singleton.mp r]
        simpa using q
theorem w_cutFirstVowel {c : Nat} {L : List Int} (hc : ewK c = 4) (l : lR h c L) {KV KX} (H : ∀ h', frm c (c + 2) h h' → lR h' c (L.eraseP isV) → KV eNT e ewP h') : eCv X m_X4_cutFirstVowel [vR c] eNT e ewP h KV KX := by
  refine bk_X4_cutFirstVowel_0 X c eNT e ewP h _ ?_
  exact lp_cutFirstVowel hc l L [] rfl (fun x hx => absurd hx List.not_mem_nil) _ H
theorem lp_cutVowels {c : Nat} (hc : ewK c = 4) {L : List Int} (h60 : L.length ≤ 60) : ∀ (B A : List Int) (h : Nat → Nat → Int), A ++ B = L → lR h c (A.filter (fun x => !isV x)) → (∀ k, k < B.length → B[k]? = some (h (c + 1) (A.length + k))) → ∀ Q, (∀ h', frm c (c + 2) h h' → lR h' c (L.filter (fun x => !isV x)) → Q (.inl none) (eNT, e, ewP, h')) → eP X m_X4_cutVowels 7 [vR c, vI (L.length : Int), vI (A.length : Int)] [] (eNT, e, ewP, h) Q := by
  obtain ⟨k1, k2, k3, k4⟩ := l4 hc
  intro B
  induction B with
  | nil =>
    intro A h h1 lc hB Q H
    rw [List.append_nil] at h1
    subst h1
    refine bk_X4_cutVowels_7 X c _ _ eNT e ewP h Q ?_
    rw [if_neg (by omega)]
    exact H h frm_rfl lc
  | cons x B ih =>
    intro A h h1 lc hB Q H
    refine bk_X4_cutVowels_7 X c _ _ eNT e ewP h Q ?_
    have hl : A.length + (B.length + 1) = L.length := by rw [← h1]; simp
    simp only [List.length_cons] at hB
    have hx := hB 0 (by omega)
    simp at hx
    simp only [k1, k2, k3, k4, ite_true, Int.toNat_natCast]
    rw [if_pos (by omega), if_pos (by decide), if_pos (by omega), if_pos ⟨trivial, by omega, by omega⟩, ← hx, c_isVowel]
    have e1 : wr ((A.length : Int) + 1) = (((A ++ [x]).length : Nat) : Int) := by rw [wrn (by omega) (by omega)]; simp
    rw [e1]
    have hf : (A.filter (fun x => !isV x)).length ≤ A.length := List.length_filter_le _ _
    by_cases q : isV x = true
    · rw [if_neg (by rw [if_pos q]; decide)]
      refine ih (A ++ [x]) h (by simpa using h1) ?_ ?_ Q H
      · rw [List.filter_append]
        simpa [q] using lc
      · intro k hk
        have := hB (k + 1) (by omega)
        simp at this ⊢
        rw [this]
        exact congrArg (fun z => some (h (c + 1) z)) (by omega)
    · rw [if_pos (by rw [if_neg q])]
      simp only [k1, k2, k3, k4, ite_true, Int.toNat_natCast]
      rw [if_pos ⟨trivial, by omega, by omega⟩, ← hx]
      have hr := lc.2.2.2 A.length
      rw [← hx] at hr
      refine w_putx hc lc (by omega) hr (fun h2 f2 l2 g2 => ?_)
      refine ih (A ++ [x]) h2 (by simpa using h1) ?_ ?_ Q (fun h' f l' => H h' (frm_tr f2 f (by omega)) l')
      · rw [List.filter_append]
        simpa [q] using l2
      · intro k hk
        have := hB (k + 1) (by omega)
        simp at this ⊢
        rw [this, g2 _ (by omega)]
        exact congrArg (fun z => some (h (c + 1) z)) (by omega)
theorem w_cutVowels {c : Nat} {L : List Int} (hc : ewK c = 4) (l : lR h c L) {KV KX} (H : ∀ h', frm c (c + 2) h h' → lR h' c (L.filter (fun x => !isV x)) → KV eNT e ewP h') : eCv X m_X4_cutVowels [vR c] eNT e ewP h KV KX := by
  refine bk_X4_cutVowels_0 X c eNT e ewP h _ ?_
  simp only [(l4 hc).1, ite_true, l.1]
  have h3 := l.2.2.1
  refine bk_X4_clear_0 X c eNT e ewP h _ ?_
  rw [if_pos (l4 hc).1]
  refine lp_cutVowels hc l.2.1 L [] _ rfl ⟨by rw [up_eq]; rfl, by simp, fun k hk => absurd hk (Nat.not_lt_zero _), ?_⟩ ?_ _ (fun h' f l' => H h' (frm_tr (frm_up frm_rfl (by omega : c ≤ c ∧ c < c + 2)) f (by omega)) l')
  · unfold lCh
    rw [up_ne (by omega)]
    exact l.2.2.2
  · intro k hk
    rw [up_ne (by omega)]
    simpa using h3 k hk
theorem lp_turn {c n : Nat} (hc : ewK c = 4) (o : Nat → Int) (hn : n ≤ 60) : ∀ (m i : Nat) (h : Nat → Nat → Int) (j3 : eV), n ≤ 2 * i + m → h c 1 = (n : Int) → (∀ k, k < n → h (c + 1) k = if k < i ∨ n ≤ k + i then o (n - 1 - k) else o k) → lCh h c → 2 * i ≤ n → ∀ Q, (∀ h', frm c (c + 2) h h' → h' c 1 = (n : Int) → (∀ k, k < n → h' (c + 1) k = o (n - 1 - k)) → lCh h' c → Q (.inl none) (eNT, e, ewP, h')) → eP X m_X4_turn 7 [vR c, vI (i : Int), vI ((n : Int) - 1 - i), j3] [] (eNT, e, ewP, h) Q := by
  obtain ⟨k1, k2, k3, k4⟩ := l4 hc
  have fin : ∀ (i : Nat) (h : Nat → Nat → Int), h c 1 = (n : Int) → (∀ k, k < n → h (c + 1) k = if k < i ∨ n ≤ k + i then o (n - 1 - k) else o k) → n ≤ 2 * i + 1 → (∀ k, k < n → h (c + 1) k = o (n - 1 - k)) := by
    intro i h h1 h2 h3 k hk
    rw [h2 k hk]
    by_cases q : k < i ∨ n ≤ k + i
    · rw [if_pos q]
    · rw [if_neg q]
      congr 1
      omega
  intro m
  induction m with
  | zero =>
    intro i h j3 hm h1 h2 h4 h5 Q H
    refine bk_X4_turn_7 X c _ _ j3 eNT e ewP h Q ?_
    rw [if_neg (by omega), if_neg (by omega)]
    exact H h frm_rfl h1 (fin i h h1 h2 (by omega)) h4
  | succ m ih =>
    intro i h j3 hm h1 h2 h4 h5 Q H
    refine bk_X4_turn_7 X c _ _ j3 eNT e ewP h Q ?_
    rw [if_neg (by omega)]
    by_cases q : (i : Int) < (n : Int) - 1 - i
    · simp only [k1, k2, k3, k4, ite_true, Int.toNat_natCast]
      rw [if_pos q, if_pos (by decide), if_pos (by omega), if_pos ⟨trivial, by omega, by omega⟩, if_pos ⟨trivial, by omega, by omega⟩, if_pos ⟨trivial, by omega, by omega⟩, if_pos ⟨trivial, by omega, by omega⟩]
      rw [show wr ((i : Int) + 1) = ((i + 1 : Nat) : Int) by (rw [wrn (by omega) (by omega)]; omega), show wr ((n : Int) - 1 - i + -1) = (n : Int) - 1 - (i + 1 : Nat) by rw [wrn (by omega) (by omega)]; omega]
      have e2 : ((n : Int) - 1 - i).toNat = n - 1 - i := by omega
      rw [e2, Int.emod_eq_of_lt (h4 _).1 (h4 _).2, Int.emod_eq_of_lt (h4 _).1 (h4 _).2]
      refine ih (i + 1) _ _ (by omega) (by rw [up_ne (by omega), up_ne (by omega)]; exact h1) ?_ ?_ (by omega) Q ?_
      · intro k hk
        rw [up_at, up_at]
        by_cases a1 : k = n - 1 - i
        · rw [if_pos a1, if_pos (by omega), h2 i (by omega), if_neg (by omega)]
          congr 1
          omega
        · rw [if_neg a1]
          by_cases a2 : k = i
          · rw [if_pos a2, if_pos (by omega), h2 (n - 1 - i) (by omega), if_neg (by omega)]
            congr 1
            omega
          · rw [if_neg a2, h2 k hk]
            by_cases a3 : k < i ∨ n ≤ k + i
            · rw [if_pos a3, if_pos (by omega)]
            · rw [if_neg a3, if_neg (by omega)]
      · intro k
        rw [up_at, up_at]
        split
        · exact h4 _
        · split
          · exact h4 _
          · exact h4 k
      · intro h' f
        exact H h' (frm_tr (frm_up (frm_up frm_rfl (by omega : c ≤ c + 1 ∧ c + 1 < c + 2)) (by omega : c ≤ c + 1 ∧ c + 1 < c + 2)) f (by omega))
    · rw [if_neg q]
      exact H h frm_rfl h1 (fin i h h1 h2 (by omega)) h4
theorem w_turn {c : Nat} {L : List Int} (hc : ewK c = 4) (l : lR h c L) {KV KX} (H : ∀ h', frm c (c + 2) h h' → lR h' c L.reverse → KV eNT e ewP h') : eCv X m_X4_turn [vR c] eNT e ewP h KV KX := by
  obtain ⟨h1, h2, h3, h4⟩ := l
  refine bk_X4_turn_0 X c eNT e ewP h _ ?_
  rw [if_pos (l4 hc).1, h1, wrn (by omega) (by omega)]
  have := lp_turn (X := X) (e := e) hc (fun k => h (c + 1) k) h2 L.length 0 h vJ (by omega) h1 (fun k hk => by rw [if_neg (by omega)]) h4 (by omega) (fun o μ => match o, μ with
    | .inl none, (n, e, p, h) => KV n e p h
    | .inr E, (n, e, p, h) => KX E n e p h
    | _, _ => False) (fun h' f g1 g2 g4 => H h' f ⟨by rw [g1]; simp, by simpa using h2, fun k hk => ?_, g4⟩)
  · rw [show ((0 : Nat) : Int) = 0 from rfl, Int.sub_zero] at this
    exact this
  · simp at hk
    rw [List.getElem?_reverse hk, h3 _ (by omega), g2 k hk]
end
