/-! what the second layer owes -/
theorem max_law : ewMax m_L_law = 9 := by decide +kernel
theorem sum_all : eSum 589 ≤ 7000000 := by decide +kernel
theorem owed : eOwed := by
  intro X hX hin
  have G : eP X m_L_law 0 [vR 1000, vJ, vJ, vJ, vJ, vJ, vJ, vJ, vJ] [] (0, 0, fun _ _ => 0, fun _ _ => 0) (fun o μ => o = .inl (some (vI 1)) ∧ ∃ e h, e ≤ 512 ∧ μ = (eNT, e, ewP, h)) :=
    law_start (fun h l => lp_law runA hX (fun h' e' he => ⟨rfl, e', h', he, rfl⟩) 512 0 0 0 h vJ vJ vJ rfl (by omega) (by omega) (Or.inl rfl) l (Nat.le_refl _))
  obtain ⟨fu, o, μ', hr, ho, e, h, he, hm⟩ := G
  have e1 : eEnt m_L_law [vR 1000] = [vR 1000, vJ, vJ, vJ, vJ, vJ, vJ, vJ, vJ] := by
    unfold eEnt
    rw [max_law]
    rfl
  refine ⟨fu, μ', ?_, ?_, ?_⟩
  · rw [e1, ← ho]
    exact hr
  · subst hm
    show 589 + e ≤ 603072
    omega
  · subst hm
    have := sum_all
    show eSum 589 + 6 * e ≤ 7219306
    omega
