/-! what holds of a run with slots of which nothing is known holds of it with any values there -/
def jle (a b : List eV) : Prop := a.length = b.length ∧ ∀ (k : Nat) (v : eV), a[k]? = some v → v ≠ vJ → b[k]? = some v
theorem jSt_get (L : List eV) (k : Nat) (v : eV) (i : Nat) : (eSt L k v)[i]? = if i = k then (if k < L.length then some v else none) else if i + 1 = k ∧ eIsD (L.getD i vJ) = true then (if i < L.length then some vJ else none) else L[i]? := by
  unfold eSt
  split
  · rw [List.getElem?_set]
    by_cases hi : i = 0
    · subst hi; rw [if_pos rfl, if_pos rfl]
    · rw [if_neg (fun z => hi z.symm), if_neg hi, if_neg (by omega)]
  next j =>
    by_cases hd : eIsD (L.getD j vJ) = true
    · rw [if_pos hd, List.getElem?_set, List.length_set]
      by_cases hi : i = j + 1
      · subst hi; rw [if_pos rfl, if_pos rfl]
      · rw [if_neg (fun z => hi z.symm), if_neg hi, List.getElem?_set]
        by_cases hj : i = j
        · subst hj; rw [if_pos rfl, if_pos (show i + 1 = i + 1 ∧ eIsD (L.getD i vJ) = true from ⟨rfl, hd⟩)]
        · rw [if_neg (fun z => hj z.symm), if_neg (by omega)]
    · rw [if_neg hd, List.getElem?_set]
      by_cases hi : i = j + 1
      · subst hi; rw [if_pos rfl, if_pos rfl]
      · rw [if_neg (fun z => hi z.symm), if_neg hi, if_neg]
        rintro ⟨z1, z2⟩
        have : i = j := by omega
        subst this
        exact hd z2
theorem jSt_len (L : List eV) (k : Nat) (v : eV) : (eSt L k v).length = L.length := by
  unfold eSt
  split
  · simp
  · split <;> simp
theorem jle_refl (a : List eV) : jle a a := ⟨rfl, fun _ _ h _ => h⟩
theorem jle_st {a b : List eV} {k : Nat} {v : eV} (h : jle a b) : jle (eSt a k v) (eSt b k v) := by
  refine ⟨by rw [jSt_len, jSt_len, h.1], fun i w hw hn => ?_⟩
  rw [jSt_get] at hw ⊢
  by_cases hi : i = k
  · rw [if_pos hi] at hw ⊢; rw [← h.1]; exact hw
  · rw [if_neg hi] at hw ⊢
    by_cases hc : i + 1 = k ∧ eIsD (a.getD i vJ) = true
    · rw [if_pos hc] at hw
      split at hw
      · cases hw; exact absurd rfl hn
      · cases hw
    · rw [if_neg hc] at hw
      have hb := h.2 i w hw hn
      rw [if_neg, hb]
      rintro ⟨z1, z2⟩
      refine hc ⟨z1, ?_⟩
      rw [List.getD_eq_getElem?_getD, hb] at z2
      rw [List.getD_eq_getElem?_getD, hw]
      exact z2
theorem jle_sJ {a b : List eV} {k : Nat} (h : jle a b) : jle (a.set k vJ) (b.set k vJ) := by
  refine ⟨by rw [List.length_set, List.length_set, h.1], fun i w hw hn => ?_⟩
  rw [List.getElem?_set] at hw ⊢
  split at hw
  · split at hw
    · cases hw; exact absurd rfl hn
    · cases hw
  next hi => rw [if_neg hi]; exact h.2 i w hw hn
def sjR (y z : eA) : Prop := match y with
  | none => True
  | some (.inr w) => z = some (.inr w)
  | some (.inl (pc', a', st', μ')) => ∃ b', z = some (.inl (pc', b', st', μ')) ∧ jle a' b'
theorem sjR_lk {x : Int} {F G : Nat → eA} (h : ∀ t, sjR (F t) (G t)) : ∀ (n : Nat) (tg : List Nat) (d : Nat), tg.length ≤ n → sjR (eLk x F d tg) (eLk x G d tg) := by
  intro n
  induction n with
  | zero =>
    intro tg d hl
    have : tg = [] := List.eq_nil_of_length_eq_zero (by omega)
    subst this; exact h d
  | succ n ih =>
    intro tg d hl
    match tg, hl with
    | [], _ => exact h d
    | [_], _ => exact h d
    | k :: t :: r, hl =>
      simp only [eLk]
      split
      · exact h t
      · exact ih r d (by simp at hl; omega)
section
variable (X : eX)
theorem sl_95 {pc a b k : Nat} {v : Int} {tg : List Nat} {ls st : List eV} {μ : eM} : eSel ewK ewL ewT X pc (95, a, b, k, v, tg) ls st μ = (match st, (ls[0]? : Option eV), (ls[4]? : Option eV), (ls[17]? : Option eV), (ls[18]? : Option eV) with
    | [], some (.inr (.inl o)), some (.inl w), some (.inr (.inr (.inr (.inr (.inr (some t)))))), some (.inl j) => if t.length ≤ 20 ∧ 0 < μ.2.1 ∧ μ.1 = 576 then some (.inr (.inl (a, [vR o, vI w, vI j], [vT t]))) else none
    | _, _, _, _, _ => none) := rfl
theorem sl_97 {pc a b k : Nat} {v : Int} {tg : List Nat} {ls st : List eV} {μ : eM} : eSel ewK ewL ewT X pc (97, a, b, k, v, tg) ls st μ = (match (ls[17]? : Option eV), (ls[18]? : Option eV) with
    | some (.inr (.inr (.inr (.inr (.inr (some t)))))), some (.inl j) => if (st.map eWt).sum ≤ 8 then (if 0 ≤ j ∧ j < t.length then some (.inl (pc + 3, ls, vI (t.getD j.toNat 0) :: st, μ)) else none) else none
    | _, _ => none) := rfl
theorem sel_j95 {pc x1 x2 x3 : Nat} {v : Int} {tg : List Nat} {a b st : List eV} {μ : eM} (hj : jle a b) : sjR (eSel ewK ewL ewT X pc (95, x1, x2, x3, v, tg) a st μ) (eSel ewK ewL ewT X pc (95, x1, x2, x3, v, tg) b st μ) := by
  rw [sl_95, sl_95]
  split
  next o w t j h0 h4 h17 h18 =>
    simp only [hj.2 _ _ h0 (fun z => by cases z), hj.2 _ _ h4 (fun z => by cases z), hj.2 _ _ h17 (fun z => by cases z), hj.2 _ _ h18 (fun z => by cases z)]
    split
    · rfl
    · trivial
  · trivial
theorem sel_j97 {pc x1 x2 x3 : Nat} {v : Int} {tg : List Nat} {a b st : List eV} {μ : eM} (hj : jle a b) : sjR (eSel ewK ewL ewT X pc (97, x1, x2, x3, v, tg) a st μ) (eSel ewK ewL ewT X pc (97, x1, x2, x3, v, tg) b st μ) := by
  rw [sl_97, sl_97]
  split
  next t j h17 h18 =>
    simp only [hj.2 _ _ h17 (fun z => by cases z), hj.2 _ _ h18 (fun z => by cases z)]
    split
    · split
      · exact ⟨b, rfl, hj⟩
      · trivial
    · trivial
  · trivial
set_option maxHeartbeats 8000000 in
theorem sel_j {pc : Nat} {i : eI} {a b st : List eV} {μ : eM} (hj : jle a b) : sjR (eSel ewK ewL ewT X pc i a st μ) (eSel ewK ewL ewT X pc i b st μ) := by
  obtain ⟨op, x1, x2, x3, v, tg⟩ := i
  by_cases h95 : op = 95
  · subst h95; exact sel_j95 X hj
  by_cases h97 : op = 97
  · subst h97; exact sel_j97 X hj
  obtain ⟨n, e, p, hh⟩ := μ
  unfold eSel eSem
  simp only [← hj.1]
  split
  all_goals first
    | trivial
    | exact absurd rfl h95
    | exact absurd rfl h97
    | exact ⟨b, rfl, hj⟩
    | (repeat' split
       all_goals first
        | trivial
        | rfl
        | exact ⟨b, rfl, hj⟩
        | exact ⟨_, rfl, jle_st hj⟩
        | exact ⟨_, rfl, jle_sJ (jle_st hj)⟩
        | (refine sjR_lk ?_ _ _ _ (Nat.le_refl _); exact fun t => ⟨b, rfl, hj⟩)
        | (have h3 := (‹b[x1]? = some _›); have hb := hj.2 _ _ (‹a[x1]? = some _›) (fun z => by cases z); have h4 := hb.symm.trans h3; cases h4; first | exact ⟨b, rfl, hj⟩ | exact ⟨_, rfl, jle_st hj⟩)
        | (exfalso; have hb := hj.2 _ _ (‹a[x1]? = some _›) (fun z => by cases z); rename_i hx; exact hx _ hb)
        | skip)
    | skip
theorem run_j (f : Nat) : ∀ (m pc : Nat) (a b st : List eV) (μ : eM) (r : eO × eM), jle a b → eRun X f m pc a st μ = some r → eRun X f m pc b st μ = some r := by
  induction f with
  | zero => intro m pc a b st μ r _ h; simp [eRun] at h
  | succ f ih =>
    intro m pc a b st μ r hj h
    unfold eRun at h ⊢
    cases hc : ewCode m pc with
    | none => rw [hc] at h; simp at h
    | some i =>
      rw [hc] at h
      simp only at h ⊢
      rw [eSem_sel] at h ⊢
      have hs := sel_j X (pc := pc) (i := i) (st := st) (μ := μ) hj
      cases hy : eSel ewK ewL ewT X pc i a st μ with
      | none => rw [hy] at h; simp [eGo] at h
      | some y =>
        rw [hy] at h hs
        match y, h, hs with
        | .inl (pc', a', st', μ'), h, hs =>
          obtain ⟨b', h1, h2⟩ := hs
          rw [h1]
          exact ih _ _ _ _ _ _ _ h2 h
        | .inr (.inr (o, μ')), h, hs =>
          have h1 : eSel ewK ewL ewT X pc i b st μ = some (.inr (.inr (o, μ'))) := hs
          rw [h1]
          exact h
        | .inr (.inl (m2, as, rest)), h, hs =>
          have h1 : eSel ewK ewL ewT X pc i b st μ = some (.inr (.inl (m2, as, rest))) := hs
          rw [h1]
          simp only [eGo] at h ⊢
          cases h2 : eRun X f m2 0 (eEnt m2 as) [] μ with
          | none => rw [h2] at h; simp at h
          | some q =>
            rw [h2] at h
            match q, h with
            | (.inl v, μ'), h => exact ih _ _ _ _ _ _ _ hj h
            | (.inr E, μ'), h =>
              simp only at h ⊢
              cases h3 : ewHnd m pc E with
              | none => rw [h3] at h; exact h
              | some t =>
                rw [h3] at h
                exact ih _ _ _ _ _ _ _ (jle_st hj) h
/-- where a slot is not known, anything may stand -/
theorem eP_j {m pc : Nat} {a b st : List eV} {μ : eM} {Q : eO → eM → Prop} (hj : jle a b) (h : eP X m pc a st μ Q) : eP X m pc b st μ Q := by
  obtain ⟨f, o, μ', h1, h2⟩ := h
  exact ⟨f, o, μ', run_j X f _ _ _ _ _ _ _ hj h1, h2⟩
end
/-- the same lists but where the first has nothing -/
def jleB : List eV → List eV → Prop
  | [], [] => True
  | v :: a, w :: b => (v = vJ ∨ v = w) ∧ jleB a b
  | _, _ => False
theorem jle_of : ∀ {a b : List eV}, jleB a b → jle a b := by
  intro a
  induction a with
  | nil =>
    intro b h
    match b, h with
    | [], _ => exact jle_refl _
  | cons v a ih =>
    intro b h
    match b, h with
    | w :: b, h =>
      obtain ⟨h1, h2⟩ := h
      have h3 := ih h2
      refine ⟨by simp [h3.1], fun k u hk hn => ?_⟩
      cases k with
      | zero =>
        simp only [List.getElem?_cons_zero, Option.some.injEq] at hk ⊢
        rcases h1 with h1 | h1
        · exact absurd (hk.symm.trans h1) hn
        · rw [← h1]; exact hk
      | succ k =>
        rw [List.getElem?_cons_succ] at hk ⊢
        exact h3.2 k u hk hn
