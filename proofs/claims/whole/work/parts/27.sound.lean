/-! the reference's way of a word -/
def mfr (C F : List Nat) (h h' : Nat → Nat → Int) : Prop := (∀ c, c ∉ C → c ≠ 577 → h' c = h c) ∧ ∀ k, k ∉ F → h' 577 k = h 577 k
theorem mfr_rfl {C F : List Nat} {h : Nat → Nat → Int} : mfr C F h h := ⟨fun _ _ _ => rfl, fun _ _ => rfl⟩
theorem mfr_tr {C F : List Nat} {h h1 h2 : Nat → Nat → Int} (a : mfr C F h h1) (b : mfr C F h1 h2) : mfr C F h h2 := ⟨fun c h1 h2 => by rw [b.1 c h1 h2, a.1 c h1 h2], fun k h1 => by rw [b.2 k h1, a.2 k h1]⟩
theorem mfr_le {C F C' F' : List Nat} {h h1 : Nat → Nat → Int} (a : mfr C F h h1) (hC : ∀ c, c ∈ C → c ∈ C') (hF : ∀ c, c ∈ F → c ∈ F') : mfr C' F' h h1 := ⟨fun c h1 h2 => a.1 c (fun q => h1 (hC c q)) h2, fun k h1 => a.2 k (fun q => h1 (hF k q))⟩
theorem mfr_f {C F : List Nat} {h h1 : Nat → Nat → Int} {k : Nat} {v : Int} (a : mfr C F h h1) (hk : k ∈ F) : mfr C F h (up h1 577 k v) := ⟨fun c h1 h2 => by rw [up_ne h2, a.1 c h1 h2], fun j h1 => by
  have q : j ≠ k := fun q => h1 (by rw [q]; exact hk)
  rw [up_nk q, a.2 j h1]⟩
theorem mfr_c {C F : List Nat} {h h1 : Nat → Nat → Int} {c k : Nat} {v : Int} (a : mfr C F h h1) (hc : c ∈ C) (h7 : c ≠ 577) : mfr C F h (up h1 c k v) := ⟨fun d h1 h2 => by
  have q : d ≠ c := fun q => h1 (by rw [q]; exact hc)
  rw [up_ne q, a.1 d h1 h2], fun j h1 => by rw [up_ne (Ne.symm h7), a.2 j h1]⟩
def aR (h : Nat → Nat → Int) (a : Nat) (L : List Int) : Prop := ∀ k, k < L.length → L[k]? = some (h a k)
theorem aR_h {h h' : Nat → Nat → Int} {a : Nat} {L : List Int} (q : h' a = h a) (l : aR h a L) : aR h' a L := by
  unfold aR
  rw [q]
  exact l
theorem aR_g {h : Nat → Nat → Int} {a k : Nat} {x : Int} {L : List Int} (l : aR h a L) (hx : L[k]? = some x) : h a k = x := by
  have h5 : k < L.length := (List.getElem?_eq_some_iff.mp hx).1
  have h6 := l k h5
  rw [hx] at h6
  injection h6 with h6
  exact h6.symm
theorem aR_app {h : Nat → Nat → Int} {a : Nat} {v : Int} {L : List Int} (l : aR h a L) : aR (up h a L.length v) a (L ++ [v]) := by
  intro k hk
  simp at hk
  rw [up_at]
  by_cases q : k = L.length
  · subst q; simp
  · rw [if_neg q, List.getElem?_append_left (by omega)]
    exact l k (by omega)
theorem aR_pre {h : Nat → Nat → Int} {a : Nat} {A B : List Int} (l : aR h a (A ++ B)) : aR h a A := by
  intro k hk
  have := l k (by simp; omega)
  rw [List.getElem?_append_left hk] at this
  exact this
def eR (h : Nat → Nat → Int) (L : List Int) (lost : Int) : Prop := h 577 19 = (L.length : Int) ∧ L.length ≤ 16 ∧ h 577 20 = lost ∧ aR h 584 L
section
variable {X : eX} {e : Nat} {h : Nat → Nat → Int}
theorem m_isVowel {x : Int} (KI KX) : eCi X m_X13_isVowel [vI x] eNT e ewP h KI KX = KI (if isV x then 1 else 0) eNT e ewP h := by
  refine eCi_eq X (fun Q H => ?_) KI KX
  refine bk_X13_isVowel_0 X x eNT e ewP h Q ?_
  unfold isV at H
  by_cases a1 : x = 97
  · subst a1; simpa using H
  · by_cases a2 : x = 101
    · subst a2; simpa using H
    · by_cases a3 : x = 105
      · subst a3; simpa using H
      · by_cases a4 : x = 111
        · subst a4; simpa using H
        · by_cases a5 : x = 117
          · subst a5; simpa using H
          · simpa [a1, a2, a3, a4, a5] using H
theorem m_isLetter {x : Int} (KI KX) : eCi X m_X13_isLetter [vI x] eNT e ewP h KI KX = KI (if 97 ≤ x ∧ x ≤ 122 then 1 else 0) eNT e ewP h := by
  refine eCi_eq X (fun Q H => ?_) KI KX
  refine bk_X13_isLetter_0 X x eNT e ewP h Q ?_
  rw [m_isBetween]
  rw [if_pos (by split <;> simp)]
  exact H
theorem lp_losesAt {a : Int} {n : Nat} (h16 : n < 16) : ∀ (B A : List Int) (h : Nat → Nat → Int), A.length + B.length = n → h 577 19 = (n : Int) → aR h 584 A → (∀ k, k < B.length → B[k]? = some (h 584 (A.length + 1 + k))) → ∀ Q, (∀ h', mfr [584] [] h h' → aR h' 584 (A ++ B) → Q (.inl none) (eNT, e, ewP, h')) → eP X m_X13_losesAt 14 [vR 577, vI a, vI (A.length : Int)] [] (eNT, e, ewP, h) Q := by
  intro B
  induction B with
  | nil =>
    intro A h hl hn hA hB Q H
    refine bk_X13_losesAt_14 X 577 a _ eNT e ewP h Q ?_
    simp only [List.length_nil] at hl
    rw [if_pos mk577, if_neg (by omega)]
    rw [List.append_nil] at H
    exact H h mfr_rfl hA
  | cons y B ih =>
    intro A h hl hn hA hB Q H
    refine bk_X13_losesAt_14 X 577 a _ eNT e ewP h Q ?_
    simp only [List.length_cons] at hl hB
    have hy := hB 0 (by omega)
    simp at hy
    have e3 : wr ((A.length : Int) + 1) = (((A ++ [y]).length : Nat) : Int) := by rw [wrn (by omega) (by omega)]; simp
    have e4 : (A ++ [y]).length = A.length + 1 := by simp
    simp only [mk577, mk578, mk579, mk580, mk581, mk582, mk583, mk584, mk585, mk586, mk587, mn578, mn579, mn580, mn581, mn582, mn583, mn584, mn585, mn586, mn587, mp578, mp579, mp580, mp581, mp582, mp583, mp584, mp585, mp586, mp587, ite_true, true_and, and_true, hn, e3, Int.toNat_natCast]
    rw [if_pos (by omega), if_pos ⟨by omega, by omega⟩, if_pos ⟨by omega, by omega⟩, e4, ← hy]
    have g := ih (A ++ [y]) (up h 584 A.length y) (by simp; omega) (by rw [up_ne (by decide)]; exact hn) (aR_app hA) ?_ Q (fun h' f l' => H h' (mfr_tr (mfr_c mfr_rfl (by decide) (by decide)) f) (by simpa using l'))
    · rw [e4] at g
      exact g
    · intro k hk
      rw [up_at, if_neg (by simp; omega)]
      have := hB (k + 1) (by omega)
      simp at this ⊢
      rw [this]
      exact congrArg (fun z => some (h 584 z)) (by omega)
theorem m_losesAt {A B : List Int} {x lost : Int} (l : eR h (A ++ x :: B) lost) (hlo : -10000 ≤ lost ∧ lost ≤ 10000) {KV KX} (H : ∀ h', mfr [584] [19, 20] h h' → eR h' (A ++ B) (lost + 1) → KV eNT e ewP h') : eCv X m_X13_losesAt [vR 577, vI (A.length : Int)] eNT e ewP h KV KX := by
  obtain ⟨l1, l2, l3, l4⟩ := l
  have hl : (A ++ x :: B).length = A.length + B.length + 1 := by simp; omega
  refine bk_X13_losesAt_0 X 577 _ eNT e ewP h _ ?_
  simp only [mk577, mk578, mk579, mk580, mk581, mk582, mk583, mk584, mk585, mk586, mk587, mn578, mn579, mn580, mn581, mn582, mn583, mn584, mn585, mn586, mn587, mp578, mp579, mp580, mp581, mp582, mp583, mp584, mp585, mp586, mp587, ite_true, true_and, and_true]
  rw [up_nk (show 20 ≠ 19 by omega), l1, l3, wrn (x := lost + 1) (by omega) (by omega), show wr (((A ++ x :: B).length : Nat) - 1 : Int) = ((A.length + B.length : Nat) : Int) by rw [wrn (by omega) (by omega)]; omega]
  refine lp_losesAt (n := A.length + B.length) (by omega) B A _ rfl (by rw [up_nk (by omega), up_eq]) ?_ ?_ _ (fun h' f l' => H h' (mfr_tr (mfr_f (mfr_f mfr_rfl (by decide)) (by decide)) (mfr_le f (fun c q => q) (fun c q => absurd q List.not_mem_nil))) ⟨?_, ?_, ?_, l'⟩)
  · intro k hk
    rw [up_ne (by decide), up_ne (by decide)]
    exact aR_pre l4 k hk
  · intro k hk
    rw [up_ne (by decide), up_ne (by decide)]
    have := l4 (A.length + 1 + k) (by omega)
    rw [List.getElem?_append_right (by omega)] at this
    rw [← this, show A.length + 1 + k - A.length = k + 1 from by omega]
    simp
  · rw [f.2 19 List.not_mem_nil, up_nk (by omega), up_eq]; simp
  · simp; omega
  · rw [f.2 20 List.not_mem_nil, up_eq]
theorem lp_losesVowel {L : List Int} {lost : Int} (l : eR h L lost) (hlo : -10000 ≤ lost ∧ lost ≤ 10000) : ∀ (B A : List Int), A ++ B = L → (∀ x, x ∈ A → isV x = false) → ∀ Q, (∀ h', mfr [584] [19, 20] h h' → eR h' (L.eraseP isV) (lost + (L.length - (L.eraseP isV).length)) → Q (.inl none) (eNT, e, ewP, h')) → eP X m_X13_losesVowel 2 [vR 577, vI (A.length : Int)] [] (eNT, e, ewP, h) Q := by
  intro B
  induction B with
  | nil =>
    intro A h1 hA Q H
    rw [List.append_nil] at h1
    subst h1
    refine bk_X13_losesVowel_2 X 577 _ eNT e ewP h Q ?_
    rw [if_pos mk577, if_neg (by rw [l.1]; omega)]
    refine H h mfr_rfl ?_
    rw [List.eraseP_of_forall_not (fun x hx => by simp [hA x hx])]
    rw [show lost + ((A.length : Int) - A.length) = lost by omega]
    exact l
  | cons x B ih =>
    intro A h1 hA Q H
    refine bk_X13_losesVowel_2 X 577 _ eNT e ewP h Q ?_
    have hl : A.length + (B.length + 1) = L.length := by rw [← h1]; simp
    have hx : L[A.length]? = some x := by rw [← h1]; simp
    have h16 := l.2.1
    simp only [mk577, mk578, mk579, mk580, mk581, mk582, mk583, mk584, mk585, mk586, mk587, mn578, mn579, mn580, mn581, mn582, mn583, mn584, mn585, mn586, mn587, mp578, mp579, mp580, mp581, mp582, mp583, mp584, mp585, mp586, mp587, ite_true, true_and, and_true, Int.toNat_natCast]
    rw [if_pos (by rw [l.1]; omega), if_pos ⟨by omega, by omega⟩, aR_g l.2.2.2 hx, m_isVowel]
    by_cases q : isV x = true
    · rw [if_neg (by rw [if_pos q]; decide), if_pos mk577]
      subst h1
      refine m_losesAt l hlo (fun h' f l' => H h' f ?_)
      rw [List.eraseP_append_right _ (fun y hy => by simp [hA y hy]), List.eraseP_cons_of_pos q]
      have e1 : lost + (((A ++ x :: B).length : Nat) - ((A ++ B).length : Nat) : Int) = lost + 1 := by simp; omega
      rw [e1]
      exact l'
    · rw [if_pos (by rw [if_neg q])]
      have e1 : wr ((A.length : Int) + 1) = (((A ++ [x]).length : Nat) : Int) := by rw [wrn (by omega) (by omega)]; simp
      rw [e1]
      refine ih (A ++ [x]) (by simpa using h1) ?_ Q H
      intro y hy
      rcases List.mem_append.mp hy with r | r
      · exact hA y r
      · rw [List.mem_singleton.mp r]
        simpa using q
theorem m_losesVowel {L : List Int} {lost : Int} (l : eR h L lost) (hlo : -10000 ≤ lost ∧ lost ≤ 10000) {KV KX} (H : ∀ h', mfr [584] [19, 20] h h' → eR h' (L.eraseP isV) (lost + (L.length - (L.eraseP isV).length)) → KV eNT e ewP h') : eCv X m_X13_losesVowel [vR 577] eNT e ewP h KV KX := by
  refine bk_X13_losesVowel_0 X 577 eNT e ewP h _ ?_
  exact lp_losesVowel l hlo L [] rfl (fun x hx => absurd hx List.not_mem_nil) _ H
theorem m_passes {i n t : Nat} {f : Nat → Int} {L : List Int} {lost a : Int} (hi : i < 8) (hf : wW (h 578) i = f) (ok : wOk f n) (ht : t < n) (l : eR h L lost) (hL : L.length < 16) (hlo : -10000 ≤ lost ∧ lost ≤ 10000) (ha : a = 0 ∨ a = 1) {KV KX} (H : ∀ h' L' u, mfr [584] [19, 20] h h' → (L' = if a = 1 then pD f t L else pU f t L) → (u = if a = 1 then fr1 f t else 0) → L'.length ≤ L.length + 1 → eR h' L' (lost + (L.length + u - L'.length)) → KV eNT e ewP h') : eCv X m_X13_passes [vR 577, vI i, vI t, vI a] eNT e ewP h KV KX := by
  have h5 := ok.1
  obtain ⟨o1, -, o3, o4, o5, o6⟩ := ok.2.2.2.2 t ht
  have l' := l
  obtain ⟨l1, l2, l3, l4⟩ := l
  refine bk_X13_passes_0 X 577 i t a eNT e ewP h _ ?_
  rw [if_pos mk577, m_is0 hi (by omega), hf]
  by_cases q0 : f (5 + 4 * t) = 0
  · have q2 : ¬ f (5 + 4 * t) = 2 := by omega
    have q1 : ¬ f (5 + 4 * t) = 1 := by omega
    have e2 : fr1 f t = 0 := by rw [fr1_e]; rw [if_neg (by omega)]
    simp only [mk577, mk578, mk579, mk580, mk581, mk582, mk583, mk584, mk585, mk586, mk587, mn578, mn579, mn580, mn581, mn582, mn583, mn584, mn585, mn586, mn587, mp578, mp579, mp580, mp581, mp582, mp583, mp584, mp585, mp586, mp587, ite_true, true_and, and_true, if_pos q0, if_neg q2, if_neg q1, l1]
    by_cases q3 : L = []
    · rw [if_pos (by rw [q3]; decide)]
      refine H h L 0 mfr_rfl ?_ ?_ (by omega) ?_
      · unfold pD pU; rw [if_pos q0, if_pos q0, q3]; split <;> rfl
      · rw [e2]; split <;> rfl
      · rw [show lost + ((L.length : Int) + 0 - L.length) = lost by omega]; exact l'
    · have h6 : 0 < L.length := List.length_pos_iff.mpr q3
      rw [if_neg (by omega)]
      have e3 : L = L.dropLast ++ L.getLast q3 :: [] := (List.dropLast_concat_getLast q3).symm
      have e4 : (L.dropLast).length = L.length - 1 := List.length_dropLast
      rw [show wr ((L.length : Int) - 1) = ((L.dropLast.length : Nat) : Int) by rw [wrn (by omega) (by omega)]; omega]
      have l2 : eR h (L.dropLast ++ L.getLast q3 :: []) lost := by rw [← e3]; exact l'
      refine m_losesAt l2 hlo (fun h' f' l3 => ?_)
      rw [List.append_nil] at l3
      refine H h' L.dropLast 0 f' ?_ ?_ (by omega) ?_
      · unfold pD pU; rw [if_pos q0, if_pos q0]; split <;> rfl
      · rw [e2]; split <;> rfl
      · rw [show lost + ((L.length : Int) + 0 - (L.dropLast.length : Nat)) = lost + 1 by omega]; exact l3
  · by_cases q2 : f (5 + 4 * t) = 2
    · have q1 : ¬ f (5 + 4 * t) = 1 := by omega
      have e2 : fr1 f t = 0 := by rw [fr1_e]; rw [if_neg (by omega)]
      simp only [mk577, mk578, mk579, mk580, mk581, mk582, mk583, mk584, mk585, mk586, mk587, mn578, mn579, mn580, mn581, mn582, mn583, mn584, mn585, mn586, mn587, mp578, mp579, mp580, mp581, mp582, mp583, mp584, mp585, mp586, mp587, ite_true, true_and, and_true, if_neg q0, if_pos q2, if_neg q1]
      have e4 : (L.eraseP isV).length ≤ L.length := List.length_eraseP_le
      refine m_losesVowel l' hlo (fun h' f' l3 => ?_)
      refine H h' (L.eraseP isV) 0 f' ?_ ?_ (by omega) ?_
      · unfold pD pU; rw [if_neg q0, if_pos q2, if_neg q0, if_pos q2]; split <;> rfl
      · rw [e2]; split <;> rfl
      · rw [Int.add_zero]; exact l3
    · have q1 : f (5 + 4 * t) = 1 := by omega
      simp only [mk577, mk578, mk579, mk580, mk581, mk582, mk583, mk584, mk585, mk586, mk587, mn578, mn579, mn580, mn581, mn582, mn583, mn584, mn585, mn586, mn587, mp578, mp579, mp580, mp581, mp582, mp583, mp584, mp585, mp586, mp587, ite_true, true_and, and_true, if_neg q0, if_neg q2, if_pos q1]
      by_cases qa : a = 0
      · rw [if_pos qa]
        refine H h L 0 mfr_rfl ?_ ?_ (by omega) ?_
        · rw [if_neg (by omega)]; unfold pU; rw [if_neg q0, if_neg q2]
        · rw [if_neg (by omega)]
        · rw [show lost + ((L.length : Int) + 0 - L.length) = lost by omega]; exact l'
      · have qa1 : a = 1 := by omega
        rw [if_neg qa, m_is3 hi (by omega), hf]
        by_cases qw : f (8 + 4 * t) = 1
        · have hv := o3 q1
          have e2 : fr1 f t = 1 := by rw [fr1_e, if_pos q1]; simp [qw]
          simp only [mk577, mk578, mk579, mk580, mk581, mk582, mk583, mk584, mk585, mk586, mk587, mn578, mn579, mn580, mn581, mn582, mn583, mn584, mn585, mn586, mn587, mp578, mp579, mp580, mp581, mp582, mp583, mp584, mp585, mp586, mp587, ite_true, true_and, and_true, if_pos qw, m_is2 hi (show t < 5 by omega), hf, l1, Int.toNat_natCast]
          rw [if_pos ⟨by omega, by omega⟩, up_ne (by decide), l1, wrn (by omega) (by omega)]
          refine H _ (L ++ [f (7 + 4 * t)]) 1 (mfr_f (mfr_c mfr_rfl (by decide) (by decide)) (by decide)) ?_ ?_ (by simp) ⟨?_, ?_, ?_, ?_⟩
          · rw [if_pos qa1]; unfold pD; rw [if_neg q0, if_neg q2, if_pos (by omega)]
          · rw [if_pos qa1, e2]
          · rw [up_eq]; simp
          · simp; omega
          · rw [up_nk (by omega), up_ne (by decide), l3]; simp
          · exact aR_h (up_ne (by decide)) (aR_app l4)
        · have e2 : fr1 f t = 0 := by rw [fr1_e, if_pos q1]; rcases o5 with o5 | o5 <;> simp [o5] <;> exact absurd o5 qw
          rw [if_neg qw]
          refine H h L 0 mfr_rfl ?_ ?_ (by omega) ?_
          · rw [if_pos qa1]; unfold pD; rw [if_neg q0, if_neg q2, if_neg qw]
          · rw [if_pos qa1, e2]
          · rw [show lost + ((L.length : Int) + 0 - L.length) = lost by omega]; exact l'
theorem lp_turns5 {n : Nat} (o : Nat → Int) (hn : n ≤ 16) : ∀ (m i : Nat) (h : Nat → Nat → Int) (j3 : eV), n / 2 ≤ i + m → i ≤ n / 2 → h 577 19 = (n : Int) → (∀ k, k < n → h 584 k = if k < i ∨ n ≤ k + i then o (n - 1 - k) else o k) → ∀ Q, (∀ h', mfr [584] [] h h' → (∀ k, k < n → h' 584 k = o (n - 1 - k)) → Q (.inl none) (eNT, e, ewP, h')) → eP X m_X13_turns 5 [vR 577, vI 1, vI (i : Int), j3] [] (eNT, e, ewP, h) Q := by
  have fin : ∀ (i : Nat) (h : Nat → Nat → Int), (∀ k, k < n → h 584 k = if k < i ∨ n ≤ k + i then o (n - 1 - k) else o k) → n / 2 = i → (∀ k, k < n → h 584 k = o (n - 1 - k)) := by
    intro i h h2 h3 k hk
    rw [h2 k hk]
    by_cases q : k < i ∨ n ≤ k + i
    · rw [if_pos q]
    · rw [if_neg q]
      congr 1
      omega
  intro m
  induction m with
  | zero =>
    intro i h j3 hm hm2 h1 h2 Q H
    refine bk_X13_turns_5 X 577 1 _ j3 eNT e ewP h Q ?_
    rw [if_pos mk577, if_neg (by decide), h1, Int.tdiv_eq_ediv_of_nonneg (by omega), wrn (by omega) (by omega), if_neg (by omega), if_neg (by decide)]
    exact H h mfr_rfl (fin i h h2 (by omega))
  | succ m ih =>
    intro i h j3 hm hm2 h1 h2 Q H
    refine bk_X13_turns_5 X 577 1 _ j3 eNT e ewP h Q ?_
    rw [if_pos mk577, if_neg (by decide), h1, Int.tdiv_eq_ediv_of_nonneg (by omega), wrn (x := (n : Int) / 2) (by omega) (by omega)]
    by_cases q : (i : Int) < (n : Int) / 2
    · have e1 : wr (wr ((n : Int) - 1) - (i : Int)) = ((n - 1 - i : Nat) : Int) := by rw [wrn (x := (n : Int) - 1) (by omega) (by omega), wrn (by omega) (by omega)]; omega
      have e0 : (577 : Nat) ≠ 584 := by decide
      simp only [mk577, mk578, mk579, mk580, mk581, mk582, mk583, mk584, mk585, mk586, mk587, mn578, mn579, mn580, mn581, mn582, mn583, mn584, mn585, mn586, mn587, mp578, mp579, mp580, mp581, mp582, mp583, mp584, mp585, mp586, mp587, ite_true, true_and, and_true, up_ne e0, h1, e1, Int.toNat_natCast]
      rw [if_pos q, if_pos ⟨by omega, by omega⟩, if_pos ⟨by omega, by omega⟩, if_pos ⟨by omega, by omega⟩, if_pos ⟨by omega, by omega⟩, wi1 (by omega)]
      refine ih (i + 1) _ _ (by omega) (by omega) (by rw [up_ne e0, up_ne e0]; exact h1) ?_ Q (fun h' f => H h' (mfr_tr (mfr_c (mfr_c mfr_rfl (by decide) (by decide)) (by decide) (by decide)) f))
      intro k hk
      rw [up_at, up_at]
      by_cases a1 : k = n - 1 - i
      · rw [if_pos a1, if_pos (by omega), h2 i (by omega), if_neg (by omega)]
        congr 1
        omega
      · rw [if_neg a1]
        by_cases a2 : k = i
        · rw [if_pos a2, if_pos (by omega), h2 (n - 1 - i) (by omega), if_neg (by omega)]
          congr 1
          omega
        · rw [if_neg a2, h2 k hk]
          by_cases a3 : k < i ∨ n ≤ k + i
          · rw [if_pos a3, if_pos (by omega)]
          · rw [if_neg a3, if_neg (by omega)]
    · rw [if_neg q, if_neg (by decide)]
      exact H h mfr_rfl (fin i h h2 (by omega))
theorem lp_turns50 : ∀ (m : Nat) (A F : List Int) (lost : Int) (h : Nat → Nat → Int) (j3 : eV), A.length = m → eR h (A ++ F) lost → -5000 ≤ lost ∧ lost ≤ 5000 - (m : Int) → ∀ Q, (∀ h' L', mfr [584] [19, 20] h h' → L' = A.filter (fun x => !isV x) ++ F → eR h' L' (lost + (A.length + F.length - L'.length)) → Q (.inl none) (eNT, e, ewP, h')) → eP X m_X13_turns 50 [vR 577, vI 2, vI ((m : Int) - 1), j3] [] (eNT, e, ewP, h) Q := by
  intro m
  induction m with
  | zero =>
    intro A F lost h j3 hm l hlo Q H
    refine bk_X13_turns_50 X 577 2 _ j3 eNT e ewP h Q ?_
    have hA : A = [] := List.length_eq_zero_iff.mp hm
    subst hA
    rw [if_pos (by omega)]
    refine H h F mfr_rfl (by simp) ?_
    rw [List.nil_append] at l
    simp only [List.length_nil]
    rw [show lost + (((0 : Nat) : Int) + F.length - F.length) = lost by omega]
    exact l
  | succ m ih =>
    intro A F lost h j3 hm l hlo Q H
    refine bk_X13_turns_50 X 577 2 _ j3 eNT e ewP h Q ?_
    have hA : A ≠ [] := by intro q; rw [q] at hm; simp at hm
    obtain ⟨A', x, e1⟩ : ∃ A' x, A = A' ++ [x] := ⟨A.dropLast, A.getLast hA, (List.dropLast_concat_getLast hA).symm⟩
    subst e1
    simp at hm
    have hx : ((A' ++ [x]) ++ F)[A'.length]? = some x := by simp
    have h16 := l.2.1
    simp at h16
    rw [show ((m + 1 : Nat) : Int) - 1 = ((A'.length : Nat) : Int) by omega]
    simp only [mk577, mk578, mk579, mk580, mk581, mk582, mk583, mk584, mk585, mk586, mk587, mn578, mn579, mn580, mn581, mn582, mn583, mn584, mn585, mn586, mn587, mp578, mp579, mp580, mp581, mp582, mp583, mp584, mp585, mp586, mp587, ite_true, true_and, and_true, Int.toNat_natCast]
    rw [if_neg (by omega), if_pos ⟨by omega, by omega⟩, aR_g l.2.2.2 hx, m_isVowel]
    rw [show wr ((A'.length : Int) + -1) = (m : Int) - 1 by rw [wrn (by omega) (by omega)]; omega]
    have l2 : eR h (A' ++ x :: F) lost := by simpa using l
    by_cases q : isV x = true
    · rw [if_neg (by rw [if_pos q]; decide), if_pos mk577]
      refine m_losesAt l2 (by omega) (fun h1 f1 l1 => ?_)
      refine ih A' F (lost + 1) h1 _ hm l1 (by omega) Q (fun h' L' f' e2 l' => ?_)
      refine H h' L' (mfr_tr f1 f') (by rw [e2]; simp [q]) ?_
      have e3 : lost + (((A' ++ [x]).length : Nat) + F.length - L'.length : Int) = lost + 1 + (A'.length + F.length - L'.length) := by simp; omega
      rw [e3]
      exact l'
    · rw [if_pos (by rw [if_neg q])]
      refine ih A' (x :: F) lost h _ hm l2 (by omega) Q (fun h' L' f' e2 l' => ?_)
      refine H h' L' f' (by rw [e2]; simp [q]) ?_
      have e3 : lost + (((A' ++ [x]).length : Nat) + F.length - L'.length : Int) = lost + (A'.length + ((x :: F).length : Nat) - L'.length) := by simp; omega
      rw [e3]
      exact l'
theorem m_turns {L : List Int} {lost b : Int} (l : eR h L lost) (hlo : -1000 ≤ lost ∧ lost ≤ 1000) {KV KX} (H : ∀ h' L', mfr [584] [19, 20] h h' → L' = trn b L → L'.length ≤ L.length → eR h' L' (lost + (L.length - L'.length)) → KV eNT e ewP h') : eCv X m_X13_turns [vR 577, vI b] eNT e ewP h KV KX := by
  have l' := l
  obtain ⟨l1, l2, l3, l4⟩ := l
  refine bk_X13_turns_0 X 577 b eNT e ewP h _ ?_
  by_cases q1 : b = 1
  · rw [if_pos q1]
    subst q1
    refine lp_turns5 (n := L.length) (fun k => h 584 k) l2 (L.length / 2) 0 h _ (by omega) (by omega) l1 (fun k hk => by rw [if_neg (by omega)]) _ (fun h' f g => ?_)
    refine H h' L.reverse (mfr_le f (fun c q => q) (fun c q => absurd q List.not_mem_nil)) (by unfold trn; rw [if_pos rfl]) (by simp) ⟨?_, ?_, ?_, ?_⟩
    · rw [f.2 19 List.not_mem_nil, l1]; simp
    · simpa using l2
    · rw [f.2 20 List.not_mem_nil, l3]; simp
    · intro k hk
      simp at hk
      rw [List.getElem?_reverse hk, l4 _ (by omega), g k hk]
  · rw [if_neg q1]
    by_cases q2 : b = 2
    · rw [if_pos q2, if_pos mk577, l1, wrn (by omega) (by omega)]
      subst q2
      refine lp_turns50 L.length L [] lost h _ rfl (by simpa using l') (by omega) _ (fun h' L' f e1 g => ?_)
      rw [List.append_nil] at e1
      refine H h' L' f (by unfold trn; rw [if_neg q1, if_pos rfl]; exact e1) (by rw [e1]; exact List.length_filter_le _ _) ?_
      simpa using g
    · rw [if_neg q2]
      refine H h L mfr_rfl (by unfold trn; rw [if_neg q1, if_neg q2]) (Nat.le_refl _) ?_
      rw [show lost + ((L.length : Int) - L.length) = lost by omega]
      exact l'
/-- what is said -/
def sR (h : Nat → Nat → Int) (M : List Int) : Prop := h 577 17 = (M.length : Int) ∧ M.length ≤ 8 ∧ aR h 583 M
theorem lp_sU {i n : Nat} {f : Nat → Int} {l0 : Nat} (hi : i < 8) (ok : wOk f n) (hl : l0 ≤ 8) : ∀ (k : Nat) (L : List Int) (h : Nat → Nat → Int), k ≤ n → L.length ≤ l0 + n → wW (h 578) i = f → eR h L (l0 + frP f n n - L.length) → ∀ Q, (∀ h', mfr [584] [19, 20] h h' → eR h' (gU f n k L) (l0 + frP f n n - (gU f n k L).length) → Q (.inl none) (eNT, e, ewP, h')) → eP X m_X13_sounds 53 [vR 577, vI i, vI (n : Int), vI ((k : Int) - 1)] [] (eNT, e, ewP, h) Q := by
  have h5 := ok.1
  have bF := frP_b (f := f) (n := n) (p := n)
  intro k
  induction k with
  | zero =>
    intro L h hk hL wd l Q H
    refine bk_X13_sounds_53 X 577 i n _ eNT e ewP h Q ?_
    rw [if_pos (by omega)]
    exact H h mfr_rfl l
  | succ k ih =>
    intro L h hk hL wd l Q H
    refine bk_X13_sounds_53 X 577 i n _ eNT e ewP h Q ?_
    rw [show ((k + 1 : Nat) : Int) - 1 = (k : Int) by omega]
    obtain ⟨t, a1, -, a2⟩ := fAt_ok (f := f) (show k < n by omega)
    have hn : wW (h 578) i 2 = n := by rw [wd]; exact ok.2.1
    rw [if_neg (by omega), if_pos mk577, m_thingAt hi hn h5 (by rw [wd]; exact a2), if_pos mk577]
    refine m_passes (a := 0) hi wd ok a1 l (by omega) (by omega) (Or.inl rfl) (fun h1 L' u f1 hL' hu hl' q1 => ?_)
    rw [if_neg (by decide)] at hL' hu
    subst hu
    rw [show wr ((k : Int) + -1) = (k : Int) - 1 by rw [wrn (by omega) (by omega)]; omega]
    have hlu : L'.length ≤ L.length := by
      rw [hL']; unfold pU; split
      · rw [List.length_dropLast]; omega
      · split
        · exact List.length_eraseP_le
        · exact Nat.le_refl _
    refine ih L' h1 (by omega) (by omega) (by rw [f1.1 578 (by decide) (by decide)]; exact wd) ?_ Q (fun h' f' => ?_)
    · rw [show (l0 : Int) + frP f n n - L.length + (L.length + 0 - L'.length) = l0 + frP f n n - L'.length by omega] at q1
      exact q1
    · have e2 : gU f n (k + 1) L = gU f n k L' := by
        simp only [gU]; rw [a2, Int.toNat_natCast, hL']
      rw [← e2]
      exact H h' (mfr_tr f1 f')
theorem lp_sD {i n : Nat} {f : Nat → Int} {l0 : Nat} (hi : i < 8) (ok : wOk f n) (hl : l0 ≤ 8) : ∀ (k p : Nat) (L : List Int) (h : Nat → Nat → Int), p + k = n → L.length ≤ l0 + p → wW (h 578) i = f → eR h L (l0 + frP f n p - L.length) → ∀ Q, (∀ h' L', mfr [584] [19, 20] h h' → L' = gU f n n (trn (f 1) (gD f n p k L)) → eR h' L' (l0 + frP f n n - L'.length) → Q (.inl none) (eNT, e, ewP, h')) → eP X m_X13_sounds 30 [vR 577, vI i, vI (n : Int), vI (p : Int)] [] (eNT, e, ewP, h) Q := by
  have h5 := ok.1
  intro k
  induction k with
  | zero =>
    intro p L h hk hL wd l Q H
    have bF := frP_b (f := f) (n := n) (p := p)
    refine bk_X13_sounds_30 X 577 i n _ eNT e ewP h Q ?_
    have hp : p = n := by omega
    subst hp
    rw [if_neg (by omega), if_pos mk577, m_of hi (by decide), if_pos mk577, wd, show (1 : Int).toNat = 1 from rfl]
    refine m_turns l (by omega) (fun h1 L' f1 e1 e2 q1 => ?_)
    rw [wrn (by omega) (by omega)]
    refine lp_sU hi ok hl p L' h1 (Nat.le_refl _) (by omega) (by rw [f1.1 578 (by decide) (by decide)]; exact wd) ?_ Q (fun h' f' b2 => ?_)
    · rw [show (l0 : Int) + frP f p p - L.length + (L.length - L'.length) = l0 + frP f p p - L'.length by omega] at q1
      exact q1
    · subst e1
      exact H h' _ (mfr_tr f1 f') rfl b2
  | succ k ih =>
    intro p L h hk hL wd l Q H
    have bF := frP_b (f := f) (n := n) (p := p)
    refine bk_X13_sounds_30 X 577 i n _ eNT e ewP h Q ?_
    obtain ⟨t, a1, -, a2⟩ := fAt_ok (f := f) (show p < n by omega)
    have hn : wW (h 578) i 2 = n := by rw [wd]; exact ok.2.1
    rw [if_pos (by omega), if_pos mk577, m_thingAt hi hn h5 (by rw [wd]; exact a2), if_pos mk577]
    refine m_passes (a := 1) hi wd ok a1 l (by omega) (by omega) (Or.inr rfl) (fun h1 L' u f1 hL' hu hl' q1 => ?_)
    rw [if_pos rfl] at hL' hu
    rw [wi1 (by omega)]
    refine ih (p + 1) L' h1 (by omega) (by omega) (by rw [f1.1 578 (by decide) (by decide)]; exact wd) ?_ Q (fun h' L2 f' e2 => ?_)
    · have e2 := frP_s (f := f) (n := n) (p := p)
      rw [a2, Int.toNat_natCast] at e2
      rw [e2, show (l0 : Int) + (frP f n p + fr1 f t) - L'.length = l0 + frP f n p - L.length + (L.length + u - L'.length) by omega]
      exact q1
    · refine H h' L2 (mfr_tr f1 f') ?_
      rw [e2]
      simp only [gD]
      rw [a2, Int.toNat_natCast, hL']
theorem lp_sC {i n : Nat} {f : Nat → Int} {M : List Int} (hi : i < 8) (ok : wOk f n) : ∀ (B A : List Int) (h : Nat → Nat → Int) (j3 : eV), A ++ B = M → wW (h 578) i = f → sR h M → aR h 584 A → ∀ Q, (∀ h' L', mfr [584] [19, 20] h h' → L' = eEc f n M → eR h' L' (M.length + fFrg f 1 n - L'.length) → Q (.inl none) (eNT, e, ewP, h')) → eP X m_X13_sounds 2 [vR 577, vI i, vI (A.length : Int), j3] [] (eNT, e, ewP, h) Q := by
  intro B
  induction B with
  | nil =>
    intro A h j3 hM wd ls la Q H
    rw [List.append_nil] at hM
    subst hM
    refine bk_X13_sounds_2 X 577 i _ j3 eNT e ewP h Q ?_
    have h5 := ok.1
    simp only [mk577, mk578, mk579, mk580, mk581, mk582, mk583, mk584, mk585, mk586, mk587, mn578, mn579, mn580, mn581, mn582, mn583, mn584, mn585, mn586, mn587, mp578, mp579, mp580, mp581, mp582, mp583, mp584, mp585, mp586, mp587, ite_true, true_and, and_true, ls.1]
    have e0 : (578 : Nat) ≠ 577 := by decide
    rw [if_neg (by omega), m_of hi (by decide), up_ne e0, up_ne e0, wd, show (2 : Int).toNat = 2 from rfl, ok.2.1]
    have g : mfr [584] [19, 20] h (up (up h 577 19 (A.length : Int)) 577 20 0) := mfr_f (mfr_f mfr_rfl (by decide)) (by decide)
    refine lp_sD hi ok ls.2.1 n 0 A _ (by omega) (by omega) (by rw [up_ne e0, up_ne e0]; exact wd) ⟨?_, ?_, ?_, ?_⟩ Q (fun h' L' f' e1 b2 => ?_)
    · rw [up_nk (by omega), up_eq]
    · have := ls.2.1; omega
    · rw [up_eq, show frP f n 0 = 0 from rfl]; omega
    · exact aR_h (by rw [up_ne (by decide), up_ne (by decide)]) la
    · rw [frP_all] at b2
      exact H h' L' (mfr_tr g f') e1 b2
  | cons x B ih =>
    intro A h j3 hM wd ls la Q H
    refine bk_X13_sounds_2 X 577 i _ j3 eNT e ewP h Q ?_
    have hl : A.length + (B.length + 1) = M.length := by rw [← hM]; simp
    have hx : M[A.length]? = some x := by rw [← hM]; simp
    have h8 := ls.2.1
    simp only [mk577, mk578, mk579, mk580, mk581, mk582, mk583, mk584, mk585, mk586, mk587, mn578, mn579, mn580, mn581, mn582, mn583, mn584, mn585, mn586, mn587, mp578, mp579, mp580, mp581, mp582, mp583, mp584, mp585, mp586, mp587, ite_true, true_and, and_true, ls.1, Int.toNat_natCast]
    rw [if_pos (by omega), if_pos ⟨by omega, by omega⟩, if_pos ⟨by omega, by omega⟩, aR_g ls.2.2 hx]
    have e1 : wr ((A.length : Int) + 1) = (((A ++ [x]).length : Nat) : Int) := by rw [wrn (by omega) (by omega)]; simp
    rw [e1]
    refine ih (A ++ [x]) _ j3 (by simpa using hM) (by rw [up_ne (by decide)]; exact wd) ⟨by rw [up_ne (by decide)]; exact ls.1, h8, aR_h (up_ne (by decide)) ls.2.2⟩ (aR_app la) Q (fun h' L' f' => H h' L' (mfr_tr (mfr_c mfr_rfl (by decide) (by decide)) f'))
theorem m_sounds {i n : Nat} {f : Nat → Int} {M : List Int} (hi : i < 8) (hf : wW (h 578) i = f) (ok : wOk f n) (ls : sR h M) {KV KX} (H : ∀ h', mfr [584] [19, 20] h h' → eR h' (eEc f n M) (M.length + fFrg f 1 n - (eEc f n M).length) → KV eNT e ewP h') : eCv X m_X13_sounds [vR 577, vI i] eNT e ewP h KV KX := by
  refine bk_X13_sounds_0 X 577 i eNT e ewP h _ ?_
  refine lp_sC hi ok M [] h _ rfl hf ls (fun k hk => absurd hk (Nat.not_lt_zero _)) _ (fun h' L' f' e1 q => ?_)
  subst e1
  exact H h' f' q
theorem lp_saysWord {W : List Int} (h8 : W.length ≤ 8) : ∀ (B A : List Int) (h : Nat → Nat → Int), A ++ B = W → h 577 16 = (W.length : Int) → aR h 582 W → aR h 583 A → ∀ Q, (∀ h', mfr [583] [17] h h' → sR h' W → Q (.inl none) (eNT, e, ewP, h')) → eP X m_X13_saysWord 2 [vR 577, vI (A.length : Int)] [] (eNT, e, ewP, h) Q := by
  intro B
  induction B with
  | nil =>
    intro A h hW h1 h2 h3 Q H
    rw [List.append_nil] at hW
    subst hW
    refine bk_X13_saysWord_2 X 577 _ eNT e ewP h Q ?_
    simp only [mk577, mk578, mk579, mk580, mk581, mk582, mk583, mk584, mk585, mk586, mk587, mn578, mn579, mn580, mn581, mn582, mn583, mn584, mn585, mn586, mn587, mp578, mp579, mp580, mp581, mp582, mp583, mp584, mp585, mp586, mp587, ite_true, true_and, and_true, h1]
    rw [if_neg (by omega)]
    exact H _ (mfr_f mfr_rfl (by decide)) ⟨up_eq, h8, aR_h (up_ne (by decide)) h3⟩
  | cons x B ih =>
    intro A h hW h1 h2 h3 Q H
    refine bk_X13_saysWord_2 X 577 _ eNT e ewP h Q ?_
    have hl : A.length + (B.length + 1) = W.length := by rw [← hW]; simp
    have hx : W[A.length]? = some x := by rw [← hW]; simp
    simp only [mk577, mk578, mk579, mk580, mk581, mk582, mk583, mk584, mk585, mk586, mk587, mn578, mn579, mn580, mn581, mn582, mn583, mn584, mn585, mn586, mn587, mp578, mp579, mp580, mp581, mp582, mp583, mp584, mp585, mp586, mp587, ite_true, true_and, and_true, h1, Int.toNat_natCast]
    rw [if_pos (by omega), if_pos ⟨by omega, by omega⟩, if_pos ⟨by omega, by omega⟩, aR_g h2 hx]
    have e1 : wr ((A.length : Int) + 1) = (((A ++ [x]).length : Nat) : Int) := by rw [wrn (by omega) (by omega)]; simp
    rw [e1]
    exact ih (A ++ [x]) _ (by simpa using hW) (by rw [up_ne (by decide)]; exact h1) (aR_h (up_ne (by decide)) h2) (aR_app h3) Q (fun h' f' => H h' (mfr_tr (mfr_c mfr_rfl (by decide) (by decide)) f'))
theorem m_saysWord {W : List Int} (h8 : W.length ≤ 8) (h1 : h 577 16 = (W.length : Int)) (h2 : aR h 582 W) {KV KX} (H : ∀ h', mfr [583] [17] h h' → sR h' W → KV eNT e ewP h') : eCv X m_X13_saysWord [vR 577] eNT e ewP h KV KX := by
  refine bk_X13_saysWord_0 X 577 eNT e ewP h _ ?_
  exact lp_saysWord h8 W [] h rfl h1 h2 (fun k hk => absurd hk (Nat.not_lt_zero _)) _ H
theorem fTime_b {f : Nat → Int} {n : Nat} (ok : wOk f n) : 0 ≤ fTime f n ∧ fTime f n ≤ 1000 := by
  rw [fTime_at]
  have h5 := ok.1
  have bM := msP_b ok n (Nat.le_refl _)
  have bF := frP_b (f := f) (n := n) (p := n)
  have hd := ok.2.2.1
  omega
theorem m_gradeOf {i n : Nat} {f : Nat → Int} {a b : Nat} (hi : i < 8) (hf : wW (h 578) i = f) (ok : wOk f n) (h1 : h 577 17 = (a : Int)) (h2 : h 577 19 = (b : Int)) (ha : a ≤ 100) (hb : b ≤ 100) (KI KX) : eCi X m_X13_gradeOf [vR 577, vI i] eNT e ewP h KI KX = KI (grd a b (fTime f n)) eNT e ewP h := by
  refine eCi_eq X (fun Q H => ?_) KI KX
  refine bk_X13_gradeOf_0 X 577 i eNT e ewP h Q ?_
  have ok' : wOk (wW (h 578) i) n := by rw [hf]; exact ok
  have tb := fTime_b ok
  simp only [mk577, mk578, mk579, mk580, mk581, mk582, mk583, mk584, mk585, mk586, mk587, mn578, mn579, mn580, mn581, mn582, mn583, mn584, mn585, mn586, mn587, mp578, mp579, mp580, mp581, mp582, mp583, mp584, mp585, mp586, mp587, ite_true, true_and, and_true, h1, h2, m_timeOf hi ok', hf]
  rw [Int.tdiv_eq_ediv_of_nonneg tb.1, wrn (x := fTime f n / 20) (by omega) (by omega), wrn (x := (b : Int) - a) (by omega) (by omega), wrn (x := (a : Int) - b) (by omega) (by omega), wrn (x := 9 - ((b : Int) - a)) (by omega) (by omega), wrn (x := 9 - ((a : Int) - b)) (by omega) (by omega), wrn (x := 9 - ((a : Int) - b) - _) (by omega) (by omega), wrn (x := 9 - ((b : Int) - a) - _) (by omega) (by omega)]
  unfold grd at H
  by_cases q : (a : Int) ≤ b
  · rw [if_pos q, if_neg (by decide)]
    rw [if_neg (show ¬ (b : Int) < a by omega)] at H
    split
    next q2 => rw [if_pos q2] at H; exact H
    next q2 => rw [if_neg q2] at H; exact H
  · rw [if_neg q, if_neg (by decide)]
    rw [if_pos (show (b : Int) < a by omega)] at H
    split
    next q2 => rw [if_pos q2] at H; exact H
    next q2 => rw [if_neg q2] at H; exact H
end
