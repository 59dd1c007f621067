/-! accounts and times -/
theorem nt8 : ((8 : Nat) : Int) = 8 := rfl
theorem nt9 : ((9 : Nat) : Int) = 9 := rfl
theorem nt10 : ((10 : Nat) : Int) = 10 := rfl
theorem nt11 : ((11 : Nat) : Int) = 11 := rfl
theorem nt12 : ((12 : Nat) : Int) = 12 := rfl
theorem nt13 : ((13 : Nat) : Int) = 13 := rfl
theorem gAc_k {w : Nat → Int} {W I : List Int} {c : Nat} {x : Int} : (gAc w W I c x).1 = 0 ∨ (gAc w W I c x).1 = 1 := by
  unfold gAc
  by_cases y0 : x = 0
  · rw [if_pos y0]
    exact Or.inl rfl
  · rw [if_neg y0]
    by_cases y1 : x = 1
    · rw [if_pos y1]
      exact Or.inl rfl
    · rw [if_neg y1]
      by_cases y2 : x = 2
      · rw [if_pos y2]
        exact Or.inl rfl
      · rw [if_neg y2]
        by_cases y3 : x = 3
        · rw [if_pos y3]
          exact Or.inl rfl
        · rw [if_neg y3]
          by_cases y4 : x = 4
          · rw [if_pos y4]
            exact Or.inl rfl
          · rw [if_neg y4]
            by_cases y5 : x = 5
            · rw [if_pos y5]
              exact Or.inl rfl
            · rw [if_neg y5]
              by_cases y6 : x = 6
              · rw [if_pos y6]
                exact Or.inl rfl
              · rw [if_neg y6]
                by_cases y7 : x = 7
                · rw [if_pos y7]
                  exact Or.inl rfl
                · rw [if_neg y7]
                  by_cases y8 : x = 8
                  · rw [if_pos y8]
                    exact Or.inl rfl
                  · rw [if_neg y8]
                    by_cases y9 : x = 9
                    · rw [if_pos y9]
                      exact Or.inl rfl
                    · rw [if_neg y9]
                      by_cases y10 : x = 10
                      · rw [if_pos y10]
                        exact Or.inl rfl
                      · rw [if_neg y10]
                        by_cases y11 : x = 11
                        · rw [if_pos y11]
                          exact Or.inl rfl
                        · rw [if_neg y11]
                          by_cases y12 : x = 12
                          · rw [if_pos y12]
                            exact Or.inl rfl
                          · rw [if_neg y12]
                            by_cases y13 : x = 13
                            · rw [if_pos y13]
                              exact Or.inl rfl
                            · rw [if_neg y13]
                              exact Or.inr rfl
section
variable {X : eX} {e : Nat} {h : Nat → Nat → Int} {w : Nat → Int} {c : Nat} {U : Nat → Nat → Int} {b : Bool} {r : Nat → Int} {k1 k2 : Int × Int} {W I L : List Int} {f : Int} {N R : Nat} {T : Nat → Nat}
theorem tAll_T (o : rOk w N R T) : tAll w = sumF (fun i => (T i : Int)) 0 N := by
  unfold tAll
  rw [show (w 0).toNat = N by rw [o.1, Int.toNat_natCast]]
  exact sumF_congr N 0 (fun t _ ht => (o.2.2.2.2.1 t (by omega)).2.1)
theorem cg_account {x : Int} (l : CI h w c U b r k1 k2 W I L f) {KI KX} (H : ∀ h', (∀ z, 577 ≤ z → h' z = h z) → CI h' w c U b r k1 k2 W I L f → gC (gAc w W I c x) 2 5 e h' KI KX) : eCi X m_X12_account [vR 1, vI x] eNT e ewP h KI KX := by
  have H := H h (fun _ _ => rfl) l
  refine bk_X12_account_0 X 1 x eNT e ewP h _ ?_
  obtain ⟨N, R, T, o, rr⟩ := id l.1
  obtain ⟨s1, s2, s3, s4, s5, s6, s7, s8⟩ := rr.2.2.2.2.2
  have n2 := l.2.1.2.1
  unfold gC gAc at H
  simp only [nt0, nt1, nt2, nt3, nt4, nt5, nt6, nt7, nt8, nt9, nt10, nt11, nt12, nt13, ck1, ck2, ck52, ck102, ck554, ck560, ck566, ck569, ck571, ck573, ck575, ck567, cp0, cp1, cp2, cp3, cp4, cp5, cp6, cp7, cp8, cp9, cy566, ite_true, true_and, and_true, rr.1, rr.2.1, s1, s3, s4, s5, s6, s7, s8, n2, c_countOfThings kb2 rr o.2.1, c_countOfSleepers kb2 rr o.2.1, c_size1 cl569 l.2.2.2.2.1, c_size1 cl573 l.2.2.2.2.2.2.2.1, ← tAll_T o, ← slp_T o, ← o.1, ← o.2.2.1]
  by_cases y0 : x = 0
  · rw [if_pos y0] at H ⊢
    exact H
  · rw [if_neg y0] at H ⊢
    by_cases y1 : x = 1
    · rw [if_pos y1] at H ⊢
      exact H
    · rw [if_neg y1] at H ⊢
      by_cases y2 : x = 2
      · rw [if_pos y2] at H ⊢
        exact H
      · rw [if_neg y2] at H ⊢
        by_cases y3 : x = 3
        · rw [if_pos y3] at H ⊢
          exact H
        · rw [if_neg y3] at H ⊢
          by_cases y4 : x = 4
          · rw [if_pos y4] at H ⊢
            exact H
          · rw [if_neg y4] at H ⊢
            by_cases y5 : x = 5
            · rw [if_pos y5] at H ⊢
              exact H
            · rw [if_neg y5] at H ⊢
              by_cases y6 : x = 6
              · rw [if_pos y6] at H ⊢
                exact H
              · rw [if_neg y6] at H ⊢
                by_cases y7 : x = 7
                · rw [if_pos y7] at H ⊢
                  exact H
                · rw [if_neg y7] at H ⊢
                  by_cases y8 : x = 8
                  · rw [if_pos y8] at H ⊢
                    exact H
                  · rw [if_neg y8] at H ⊢
                    by_cases y9 : x = 9
                    · rw [if_pos y9] at H ⊢
                      exact H
                    · rw [if_neg y9] at H ⊢
                      by_cases y10 : x = 10
                      · rw [if_pos y10] at H ⊢
                        exact H
                      · rw [if_neg y10] at H ⊢
                        by_cases y11 : x = 11
                        · rw [if_pos y11] at H ⊢
                          exact H
                        · rw [if_neg y11] at H ⊢
                          by_cases y12 : x = 12
                          · rw [if_pos y12] at H ⊢
                            exact H
                          · rw [if_neg y12] at H ⊢
                            by_cases y13 : x = 13
                            · rw [if_pos y13] at H ⊢
                              exact H
                            · rw [if_neg y13] at H ⊢
                              exact H
theorem gTi_k2 {w : Nat → Int} {x : Int} : (gTi w x).1 = 0 ∨ (gTi w x).1 = 1 := by
  generalize hg : gTi w x = g
  unfold gTi at hg
  repeat' split at hg
  all_goals (subst hg; simp)
end
