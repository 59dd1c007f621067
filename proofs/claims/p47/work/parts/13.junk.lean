/-! what holds of a run with slots of which nothing is known holds of it with any values there -/
def jle (a b : List eV) : Prop := a.length = b.length ∧ ∀ (k : Nat) (v : eV), a[k]? = some v → v ≠ vJ → b[k]? = some v
theorem jSt_get (L : List eV) (k : Nat) (v : eV) (i : Nat) : (eSt L k v)[i]? = if i = k then (if k < L.length then some v else none) else if i + 1 = k ∧ eIsD (L.getD i vJ) = true then (if i < L.length then some vJ else none) else L[i]? := by
  unfold eSt
  split
  · rw [List.getElem?_set]
    by_cases hi : i = 0
    · subst hi; rw [if_pos rfl, if_pos rfl]
    · rw [if_neg (fun z => hi z.symm), if_neg hi, if_neg (by omega)]
  next j =>
    by_cases hd : eIsD (L.getD j vJ) = true
    · rw [if_pos hd, List.getElem?_set, List.length_set]
      by_cases hi : i = j + 1
      · subst hi; rw [if_pos rfl, if_pos rfl]
      · rw [if_neg (fun z => hi z.symm), if_neg hi, List.getElem?_set]
        by_cases hj : i = j
        · subst hj; rw [if_pos rfl, if_pos (show i + 1 = i + 1 ∧ eIsD (L.getD i vJ) = true from ⟨rfl, hd⟩)]
        · rw [if_neg (fun z => hj z.symm), if_neg (by omega)]
    · rw [if_neg hd, List.getElem?_set]
      by_cases hi : i = j + 1
      · subst hi; rw [if_pos rfl, if_pos rfl]
      · rw [if_neg (fun z => hi z.symm), if_neg hi, if_neg]
        rintro ⟨z1, z2⟩
        have : i = j := by omega
        subst this
        exact hd z2
theorem jSt_len (L : List eV) (k : Nat) (v : eV) : (eSt L k v).length = L.length := by
  unfold eSt
  split
  · simp
  · split <;> simp
theorem jle_refl (a : List eV) : jle a a := ⟨rfl, fun _ _ h _ => h⟩
theorem jle_st {a b : List eV} {k : Nat} {v : eV} (h : jle a b) : jle (eSt a k v) (eSt b k v) := by
  refine ⟨by rw [jSt_len, jSt_len, h.1], fun i w hw hn => ?_⟩
  rw [jSt_get] at hw ⊢
  by_cases hi : i = k
  · rw [if_pos hi] at hw ⊢; rw [← h.1]; exact hw
  · rw [if_neg hi] at hw ⊢
    by_cases hc : i + 1 = k ∧ eIsD (a.getD i vJ) = true
    · rw [if_pos hc] at hw
      split at hw
      · cases hw; exact absurd rfl hn
      · cases hw
    · rw [if_neg hc] at hw
      have hb := h.2 i w hw hn
      rw [if_neg, hb]
      rintro ⟨z1, z2⟩
      refine hc ⟨z1, ?_⟩
      rw [List.getD_eq_getElem?_getD, hb] at z2
      rw [List.getD_eq_getElem?_getD, hw]
      exact z2
theorem jle_sJ {a b : List eV} {k : Nat} (h : jle a b) : jle (a.set k vJ) (b.set k vJ) := by
  refine ⟨by rw [List.length_set, List.length_set, h.1], fun i w hw hn => ?_⟩
  rw [List.getElem?_set] at hw ⊢
  split at hw
  · split at hw
    · cases hw; exact absurd rfl hn
    · cases hw
  next hi => rw [if_neg hi]; exact h.2 i w hw hn
def sjR (y z : eA) : Prop := match y with
  | none => True
  | some (.inr w) => z = some (.inr w)
  | some (.inl (pc', a', st', μ')) => ∃ b', z = some (.inl (pc', b', st', μ')) ∧ jle a' b'
theorem sjR_lk {x : Int} {F G : Nat → eA} (h : ∀ t, sjR (F t) (G t)) : ∀ (n : Nat) (tg : List Nat) (d : Nat), tg.length ≤ n → sjR (eLk x F d tg) (eLk x G d tg) := by
  intro n
  induction n with
  | zero =>
    intro tg d hl
    have : tg = [] := List.eq_nil_of_length_eq_zero (by omega)
    subst this; exact h d
  | succ n ih =>
    intro tg d hl
    match tg, hl with
    | [], _ => exact h d
    | [_], _ => exact h d
    | k :: t :: r, hl =>
      simp only [eLk]
      split
      · exact h t
      · exact ih r d (by simp at hl; omega)
section
variable (X : eX)
set_option maxHeartbeats 8000000 in
theorem sel_j {pc : Nat} {i : eI} {a b st : List eV} {μ : eM} (hj : jle a b) : sjR (eSel ewK ewL ewT X pc i a st μ) (eSel ewK ewL ewT X pc i b st μ) := by
  obtain ⟨op, x1, x2, x3, v, tg⟩ := i
  obtain ⟨n, e, p, hh⟩ := μ
  unfold eSel eSem
  simp only [← hj.1]
  split
  all_goals first
    | trivial
    | exact ⟨b, rfl, hj⟩
    | exact sjR_lk (fun t => ⟨b, rfl, hj⟩) _ _ _ (Nat.le_refl _)
    | (repeat' split
       all_goals first
        | trivial
        | rfl
        | exact ⟨b, rfl, hj⟩
        | exact sjR_lk (fun t => ⟨b, rfl, hj⟩) _ _ _ (Nat.le_refl _)
        | exact ⟨_, rfl, jle_st hj⟩
        | exact ⟨_, rfl, jle_sJ (jle_st hj)⟩
        | (rename_i heq; rw [hj.2 _ _ heq (by intro z; cases z)]; first | exact ⟨b, rfl, hj⟩ | exact ⟨_, rfl, jle_st hj⟩)
        | skip)
    | skip

end
