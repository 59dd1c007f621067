/-! what the second layer owes -/
theorem max_law : ewMax m_L_law = 12 := by decide +kernel
theorem sum_all : eSum 576 ≤ 5900000 := by decide +kernel
theorem owed : eOwed := by
  intro X hX hin
  have G : eP X m_L_law 0 [vR 1000, vJ, vJ, vJ, vJ, vJ, vJ, vJ, vJ, vJ, vJ, vJ] [] (0, 0, fun _ _ => 0, fun _ _ => 0) (fun o μ => o = .inl (some (vI 1)) ∧ ∃ e h, e ≤ 230000 ∧ μ = (eNT, e, ewP, h)) :=
    law_run (fun h' e' he => ⟨rfl, e', h', he, rfl⟩)
  obtain ⟨fu, o, μ', hr, ho, e, h, he, hm⟩ := G
  have e1 : eEnt m_L_law [vR 1000] = [vR 1000, vJ, vJ, vJ, vJ, vJ, vJ, vJ, vJ, vJ, vJ, vJ] := by
    unfold eEnt
    rw [max_law]
    rfl
  refine ⟨fu, μ', ?_, ?_, ?_⟩
  · rw [e1, ← ho]
    exact hr
  · subst hm
    show 576 + e ≤ 600390
    omega
  · subst hm
    have := sum_all
    show eSum 576 + 6 * e ≤ 7291720
    omega
