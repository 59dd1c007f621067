/-! the start: the law -/
section
variable {X : eX}
theorem wR_0 {h : Nat → Nat → Int} {b : Nat} (q : ∀ z, b ≤ z → z < b + 50 → h z = fun _ => 0) : wR h b (fun _ => 0) := by
  refine ⟨0, 0, fun _ => 0, ⟨rfl, by decide, rfl, by decide, fun i hi => absurd hi (Nat.not_lt_zero _), fun i hi => absurd hi (Nat.not_lt_zero _), by decide, by decide⟩, ?_⟩
  refine ⟨by rw [q b (by omega) (by omega)]; rfl, by rw [q b (by omega) (by omega)]; rfl, fun i hi => absurd hi (Nat.not_lt_zero _), fun i hi => absurd hi (Nat.not_lt_zero _), ⟨by rw [q _ (by omega) (by omega)], fun k _ => by rw [q _ (by omega) (by omega)], [], ?_, by decide, rfl, fun k hk => absurd hk (Nat.not_lt_zero _)⟩, ?_⟩
  · refine ⟨by rw [q _ (by omega) (by omega)]; rfl, by decide, fun k hk => absurd hk (Nat.not_lt_zero _), fun k => ?_⟩
    rw [q _ (by omega) (by omega)]
    exact ⟨Int.le_refl 0, (by decide : (0 : Int) < 65536)⟩
  · unfold scR
    rw [q b (by omega) (by omega)]
    exact ⟨rfl, rfl, rfl, rfl, rfl, rfl, rfl, rfl⟩
theorem lCh_0 {h : Nat → Nat → Int} {c : Nat} (q : h (c + 1) = fun _ => 0) : lCh h c := fun k => by
  rw [q]
  exact ⟨Int.le_refl 0, (by decide : (0 : Int) < 65536)⟩
theorem lR_0 {h : Nat → Nat → Int} {c : Nat} (q0 : h c = fun _ => 0) (q : h (c + 1) = fun _ => 0) : lR h c [] :=
  ⟨by rw [q0]; rfl, by decide, fun k hk => absurd hk (Nat.not_lt_zero _), lCh_0 q⟩
theorem CI_0 {h : Nat → Nat → Int} (q : ∀ z, z ≠ 1 → z ≠ 577 → h z = fun _ => 0) (q1 : ∀ k, k ≠ 11 → h 1 k = 0) (q2 : h 1 11 = -1) : CI h (fun _ => 0) 0 (fun _ _ => 0) false (fun _ => 0) (0, 0) (0, 0) [] [] [] (-1) := by
  refine ⟨wR_0 (fun z h1 h2 => q z (by omega) (by omega)), ⟨by decide, by rw [q _ (by omega) (by omega)]; rfl, ⟨0, by decide, by rw [q _ (by omega) (by omega)]; rfl, fun j hj => absurd hj (Nat.not_lt_zero _)⟩, fun j hj => lCh_0 (q _ (by omega) (by omega))⟩, ⟨by rw [q1 _ (by omega)]; rfl, lCh_0 (q _ (by omega) (by omega)), fun hb => absurd hb (by decide)⟩, ⟨by rw [q _ (by omega) (by omega)], fun hk => absurd rfl hk, by rw [q _ (by omega) (by omega)], fun hk => absurd rfl hk, lCh_0 (q _ (by omega) (by omega))⟩, ?_⟩
  exact ⟨lR_0 (q _ (by omega) (by omega)) (q _ (by omega) (by omega)), by decide, lR_0 (q _ (by omega) (by omega)) (q _ (by omega) (by omega)), lR_0 (q _ (by omega) (by omega)) (q _ (by omega) (by omega)), lR_0 (q _ (by omega) (by omega)) (q _ (by omega) (by omega)), q2, lCh_0 (q _ (by omega) (by omega)), lCh_0 (q _ (by omega) (by omega)), lCh_0 (q _ (by omega) (by omega))⟩
theorem cx7 : ptTbl.length ≤ 19 ∧ (ptTbl.getD 0 []).getD 0 [] = [] := by decide +kernel
theorem cx8 : ∀ a, a < 640 → 577 ≤ a → (ptTbl.getD (a / 32) []).getD (a % 32) [] = [] := by decide +kernel
theorem ewP_out {z : Nat} (q : z = 0 ∨ 577 ≤ z) : (fun _ => 0) = ewP z := by
  funext k
  refine (ewP_row z k ?_).symm
  have e : (ptTbl.getD (z / 32) []).getD (z % 32) [] = [] := by
    rcases q with q | q
    · subst q; exact cx7.2
    · by_cases q2 : z < 640
      · exact cx8 z q2 q
      · rw [show ptTbl.getD (z / 32) [] = [] by rw [List.getD_eq_getElem?_getD, List.getElem?_eq_none (by have := cx7.1; omega)]; rfl]
        rfl
  rw [e]
  exact Nat.zero_le _
end
