/-! runs of the small machine, and what holds of them -/
/-- handlers: method, first and last instruction that it covers, exception, where it goes on (behind the store of what was caught), the slot -/
def ewHnd (m i E : Nat) : Option (Nat × Nat) := (hnTbl.find? (fun q => q.1 == m && decide (q.2.1 ≤ i) && decide (i < q.2.2.1) && q.2.2.2.1 == E)).map (fun q => q.2.2.2.2)
def eEnt (m : Nat) (as : List eV) : List eV := as ++ List.replicate (ewMax m - as.length) vJ
section
variable (X : eX)
def eRun : Nat → Nat → Nat → List eV → List eV → eM → Option (eO × eM)
  | 0, _, _, _, _, _ => none
  | f + 1, m, pc, ls, st, μ => match ewCode m pc with
    | none => none
    | some i => eSem ewK ewL ewT X (fun pc' ls' st' μ' => eRun f m pc' ls' st' μ')
        (fun m2 as rest => match eRun f m2 0 (eEnt m2 as) [] μ with
          | none => none
          | some (.inl v, μ') => eRun f m (pc + 1) ls (v.toList ++ rest) μ'
          | some (.inr E, μ') => match ewHnd m pc E with
            | some (t, k) => eRun f m t (eSt ls k vJ) [] μ'
            | none => some (.inr E, μ'))
        (fun o μ' => some (o, μ')) none pc i ls st μ
def eP (m pc : Nat) (ls st : List eV) (μ : eM) (Q : eO → eM → Prop) : Prop := ∃ f o μ', eRun X f m pc ls st μ = some (o, μ') ∧ Q o μ'
theorem eRun_mono (f : Nat) : ∀ m pc ls st μ r, eRun X f m pc ls st μ = some r → eRun X (f + 1) m pc ls st μ = some r := by
  induction f with
  | zero => intro m pc ls st μ r h; simp [eRun] at h
  | succ f ih =>
    intro m pc ls st μ r h
    unfold eRun at h ⊢
    cases hc : ewCode m pc with
    | none => rw [hc] at h; simp at h
    | some i =>
      rw [hc] at h
      simp only at h ⊢
      rw [eSem_sel] at h ⊢
      cases hs : eSel ewK ewL ewT X pc i ls st μ with
      | none => rw [hs] at h; simp [eGo] at h
      | some y =>
        rw [hs] at h
        match y, h with
        | .inl (a, b, c, d), h => exact ih _ _ _ _ _ _ h
        | .inr (.inr (a, b)), h => exact h
        | .inr (.inl (m2, as, rest)), h =>
          simp only [eGo] at h ⊢
          cases h1 : eRun X f m2 0 (eEnt m2 as) [] μ with
          | none => rw [h1] at h; simp at h
          | some q =>
            rw [h1] at h
            rw [ih _ _ _ _ _ _ h1]
            match q, h with
            | (.inl v, μ'), h => exact ih _ _ _ _ _ _ h
            | (.inr E, μ'), h =>
              simp only at h ⊢
              cases h2 : ewHnd m pc E with
              | none => rw [h2] at h; exact h
              | some t =>
                rw [h2] at h
                exact ih _ _ _ _ _ _ h
theorem eRun_le {f g : Nat} (hfg : f ≤ g) {m pc ls st μ r} (h : eRun X f m pc ls st μ = some r) : eRun X g m pc ls st μ = some r := by
  induction g with
  | zero =>
    have : f = 0 := by omega
    subst this; exact h
  | succ g ih =>
    rcases Nat.lt_or_ge g f with q | q
    · have : f = g + 1 := by omega
      subst this; exact h
    · exact eRun_mono X g _ _ _ _ _ _ (ih q)
/-- what a call's end means to the caller -/
def eBk (m pc : Nat) (ls rest : List eV) (Q : eO → eM → Prop) (o : eO) (μ : eM) : Prop :=
  match o with
  | .inl v => eP X m (pc + 1) ls (v.toList ++ rest) μ Q
  | .inr E => match ewHnd m pc E with
    | some (t, k) => eP X m t (eSt ls k vJ) [] μ Q
    | none => Q (.inr E) μ
theorem eP_step (m pc : Nat) (ls st : List eV) (μ : eM) (Q : eO → eM → Prop) {i : eI} (hc : ewCode m pc = some i) :
    eP X m pc ls st μ Q ↔ eSem ewK ewL ewT X (fun pc' ls' st' μ' => eP X m pc' ls' st' μ' Q) (fun m2 as rest => eP X m2 0 (eEnt m2 as) [] μ (eBk X m pc ls rest Q)) Q False pc i ls st μ := by
  rw [eSem_sel]
  have hu : ∀ f, eRun X (f + 1) m pc ls st μ = eGo (fun pc' ls' st' μ' => eRun X f m pc' ls' st' μ')
        (fun m2 as rest => match eRun X f m2 0 (eEnt m2 as) [] μ with
          | none => none
          | some (.inl v, μ') => eRun X f m (pc + 1) ls (v.toList ++ rest) μ'
          | some (.inr E, μ') => match ewHnd m pc E with
            | some (t, k) => eRun X f m t (eSt ls k vJ) [] μ'
            | none => some (.inr E, μ'))
        (fun o μ' => some (o, μ')) none (eSel ewK ewL ewT X pc i ls st μ) := by
    intro f
    rw [← eSem_sel, eRun, hc]
  cases hs : eSel ewK ewL ewT X pc i ls st μ with
  | none =>
    rw [hs] at hu
    constructor
    · rintro ⟨f, o, μ', h, hq⟩
      cases f with
      | zero => simp [eRun] at h
      | succ f => rw [hu] at h; simp [eGo] at h
    · intro h; exact h.elim
  | some y =>
    rw [hs] at hu
    match y, hu with
    | .inl (a, b, c, d), hu =>
      simp only [eGo] at hu ⊢
      constructor
      · rintro ⟨f, o, μ', h, hq⟩
        cases f with
        | zero => simp [eRun] at h
        | succ f => exact ⟨f, o, μ', by rw [hu] at h; exact h, hq⟩
      · rintro ⟨f, o, μ', h, hq⟩
        exact ⟨f + 1, o, μ', by rw [hu]; exact h, hq⟩
    | .inr (.inr (a, b)), hu =>
      simp only [eGo] at hu ⊢
      constructor
      · rintro ⟨f, o, μ', h, hq⟩
        cases f with
        | zero => simp [eRun] at h
        | succ f => rw [hu] at h; cases h; exact hq
      · intro hq
        exact ⟨1, a, b, hu 0, hq⟩
    | .inr (.inl (m2, as, rest)), hu =>
      simp only [eGo] at hu ⊢
      constructor
      · rintro ⟨f, o, μ', h, hq⟩
        cases f with
        | zero => simp [eRun] at h
        | succ f =>
          rw [hu] at h
          cases h1 : eRun X f m2 0 (eEnt m2 as) [] μ with
          | none => rw [h1] at h; simp at h
          | some q =>
            rw [h1] at h
            refine ⟨f, q.1, q.2, h1, ?_⟩
            match q, h with
            | (.inl v, μ2), h => exact ⟨f, o, μ', h, hq⟩
            | (.inr E, μ2), h =>
              simp only [eBk] at h ⊢
              cases h2 : ewHnd m pc E with
              | none => rw [h2] at h; simp only at h ⊢; cases h; exact hq
              | some t => rw [h2] at h; exact ⟨f, o, μ', h, hq⟩
      · rintro ⟨f, o, μ', h, hq⟩
        match o, h, hq with
        | .inl v, h, hq =>
          obtain ⟨g, o2, μ2, h2, hq2⟩ := hq
          refine ⟨max f g + 1, o2, μ2, ?_, hq2⟩
          rw [hu, eRun_le X (Nat.le_max_left f g) h]
          exact eRun_le X (Nat.le_max_right f g) h2
        | .inr E, h, hq =>
          simp only [eBk] at hq
          cases h3 : ewHnd m pc E with
          | none =>
            rw [h3] at hq
            refine ⟨f + 1, .inr E, μ', ?_, hq⟩
            rw [hu, h]; simp only; rw [h3]
          | some t =>
            rw [h3] at hq
            obtain ⟨g, o2, μ2, h2, hq2⟩ := hq
            refine ⟨max f g + 1, o2, μ2, ?_, hq2⟩
            rw [hu, eRun_le X (Nat.le_max_left f g) h]
            simp only; rw [h3]
            exact eRun_le X (Nat.le_max_right f g) h2
end
