/-! what an instruction does, as data; and that eSem is what it says -/
abbrev eA : Type := Option ((Nat × List eV × List eV × eM) ⊕ ((Nat × List eV × List eV) ⊕ (eO × eM)))
section
variable (kd : Nat → Nat) (ln : Nat → Nat) (tx : Nat → List Int) (X : eX)
def eSel (pc : Nat) (i : eI) (ls st : List eV) (μ : eM) : eA :=
  eSem kd ln tx X (fun a b c d => some (.inl (a, b, c, d))) (fun a b c => some (.inr (.inl (a, b, c)))) (fun a b => some (.inr (.inr (a, b)))) none pc i ls st μ
def eGo {β : Type} (K : Nat → List eV → List eV → eM → β) (C : Nat → List eV → List eV → β) (R : eO → eM → β) (z : β) (x : eA) : β :=
  match x with
  | none => z
  | some (.inl (a, b, c, d)) => K a b c d
  | some (.inr (.inl (a, b, c))) => C a b c
  | some (.inr (.inr (a, b))) => R a b
theorem eGo_ite {β : Type} {K : Nat → List eV → List eV → eM → β} {C : Nat → List eV → List eV → β} {R : eO → eM → β} {z : β} {q : Prop} [Decidable q] (x y : eA) : eGo K C R z (if q then x else y) = if q then eGo K C R z x else eGo K C R z y := by
  split <;> rfl
theorem eGo_lk {β : Type} {K : Nat → List eV → List eV → eM → β} {C : Nat → List eV → List eV → β} {R : eO → eM → β} {z : β} (x : Int) (F : Nat → eA) (d : Nat) : ∀ (n : Nat) (tg : List Nat), tg.length ≤ n → eGo K C R z (eLk x F d tg) = eLk x (fun t => eGo K C R z (F t)) d tg := by
  intro n
  induction n with
  | zero =>
    intro tg h
    have : tg = [] := List.eq_nil_of_length_eq_zero (by omega)
    subst this; rfl
  | succ n ih =>
    intro tg h
    match tg, h with
    | [], _ => rfl
    | [_], _ => rfl
    | k :: t :: r, h =>
      simp only [eLk]
      rw [eGo_ite, ih r (by simp at h; omega)]
set_option maxHeartbeats 4000000 in
theorem eSem_sel {β : Type} (K : Nat → List eV → List eV → eM → β) (C : Nat → List eV → List eV → β) (R : eO → eM → β) (z : β) (pc : Nat) (i : eI) (ls st : List eV) (μ : eM) :
    eSem kd ln tx X K C R z pc i ls st μ = eGo K C R z (eSel kd ln tx X pc i ls st μ) := by
  obtain ⟨op, a, b, c, v, tg⟩ := i
  obtain ⟨n, e, p, h⟩ := μ
  unfold eSel eSem
  dsimp only
  split <;> first
    | rfl
    | (split <;> first | rfl | (rw [eGo_ite]; rfl) | (rw [eGo_ite, eGo_ite]; rfl) | (rw [eGo_ite, eGo_ite, eGo_ite]; rfl) | (rw [eGo_lk _ _ _ _ _ (Nat.le_refl _)]; rfl) | (split <;> first | rfl | (rw [eGo_ite]; rfl)))
    | (rw [eGo_ite]; rfl)
    | (rw [eGo_ite]
       by_cases hb : b ≤ st.length ∧ ((st.drop b).map eWt).sum ≤ 8 ∧ (st.take b).all (fun v => !eIsD v) = true
       · rw [if_pos hb, if_pos hb]
         split
         · rfl
         · split
           · rw [eGo_ite]; rfl
           · rfl
       · rw [if_neg hb, if_neg hb]; rfl)
end
