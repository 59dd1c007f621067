/-! accounts and times -/
theorem nt8 : ((8 : Nat) : Int) = 8 := rfl
theorem nt9 : ((9 : Nat) : Int) = 9 := rfl
theorem nt10 : ((10 : Nat) : Int) = 10 := rfl
theorem nt11 : ((11 : Nat) : Int) = 11 := rfl
theorem nt12 : ((12 : Nat) : Int) = 12 := rfl
theorem nt13 : ((13 : Nat) : Int) = 13 := rfl
theorem gAc_k {w : Nat → Int} {W I : List Int} {c : Nat} {x : Int} : (gAc w W I c x).1 = 0 ∨ (gAc w W I c x).1 = 1 := by
  unfold gAc
  by_cases y0 : x = 0
  · rw [if_pos y0]
    exact Or.inl rfl
  · rw [if_neg y0]
    by_cases y1 : x = 1
    · rw [if_pos y1]
      exact Or.inl rfl
    · rw [if_neg y1]
      by_cases y2 : x = 2
      · rw [if_pos y2]
        exact Or.inl rfl
      · rw [if_neg y2]
        by_cases y3 : x = 3
        · rw [if_pos y3]
          exact Or.inl rfl
        · rw [if_neg y3]
          by_cases y4 : x = 4
          · rw [if_pos y4]
            exact Or.inl rfl
          · rw [if_neg y4]
            by_cases y5 : x = 5
            · rw [if_pos y5]
              exact Or.inl rfl
            · rw [if_neg y5]
              by_cases y6 : x = 6
              · rw [if_pos y6]
                exact Or.inl rfl
              · rw [if_neg y6]
                by_cases y7 : x = 7
                · rw [if_pos y7]
                  exact Or.inl rfl
                · rw [if_neg y7]
                  by_cases y8 : x = 8
                  · rw [if_pos y8]
                    exact Or.inl rfl
                  · rw [if_neg y8]
                    by_cases y9 : x = 9
                    · rw [if_pos y9]
                      exact Or.inl rfl
                    · rw [if_neg y9]
                      by_cases y10 : x = 10
                      · rw [if_pos y10]
                        exact Or.inl rfl
                      · rw [if_neg y10]
                        by_cases y11 : x = 11
                        · rw [if_pos y11]
                          exact Or.inl rfl
                        · rw [if_neg y11]
                          by_cases y12 : x = 12
                          · rw [if_pos y12]
                            exact Or.inl rfl
                          · rw [if_neg y12]
                            by_cases y13 : x = 13
                            · rw [if_pos y13]
                              exact Or.inl rfl
                            · rw [if_neg y13]
                              exact Or.inr rfl
section
variable {X : eX} {e : Nat} {h : Nat → Nat → Int} {w : Nat → Int} {c : Nat} {U : Nat → Nat → Int} {b : Bool} {r : Nat → Int} {k1 k2 : Int × Int} {W I L : List Int} {f : Int} {N R : Nat} {T : Nat → Nat}
theorem tAll_T (o : rOk w N R T) : tAll w = sumF (fun i => (T i : Int)) 0 N := by
  unfold tAll
  rw [show (w 0).toNat = N by rw [o.1, Int.toNat_natCast]]
  exact sumF_congr N 0 (fun t _ ht => (o.2.2.2.2.1 t (by omega)).2.1)
theorem cg_account {x : Int} (l : CI h w c U b r k1 k2 W I L f) {KI KX} (H : ∀ h', (∀ z, 577 ≤ z → h' z = h z) → CI h' w c U b r k1 k2 W I L f → gC (gAc w W I c x) 2 5 e h' KI KX) : eCi X m_X12_account [vR 1, vI x] eNT e ewP h KI KX := by
  have H := H h (fun _ _ => rfl) l
  refine bk_X12_account_0 X 1 x eNT e ewP h _ ?_
  obtain ⟨N, R, T, o, rr⟩ := id l.1
  obtain ⟨s1, s2, s3, s4, s5, s6, s7, s8⟩ := rr.2.2.2.2.2
  have n2 := l.2.1.2.1
  unfold gC gAc at H
  simp only [nt0, nt1, nt2, nt3, nt4, nt5, nt6, nt7, nt8, nt9, nt10, nt11, nt12, nt13, ck1, ck2, ck52, ck102, ck554, ck560, ck566, ck569, ck571, ck573, ck575, ck567, cp0, cp1, cp2, cp3, cp4, cp5, cp6, cp7, cp8, cp9, cy566, ite_true, true_and, and_true, rr.1, rr.2.1, s1, s3, s4, s5, s6, s7, s8, n2, c_countOfThings kb2 rr o.2.1, c_countOfSleepers kb2 rr o.2.1, c_size1 cl569 l.2.2.2.2.1, c_size1 cl573 l.2.2.2.2.2.2.2.1, ← tAll_T o, ← slp_T o, ← o.1, ← o.2.2.1]
  by_cases y0 : x = 0
  · rw [if_pos y0] at H ⊢
    exact H
  · rw [if_neg y0] at H ⊢
    by_cases y1 : x = 1
    · rw [if_pos y1] at H ⊢
      exact H
    · rw [if_neg y1] at H ⊢
      by_cases y2 : x = 2
      · rw [if_pos y2] at H ⊢
        exact H
      · rw [if_neg y2] at H ⊢
        by_cases y3 : x = 3
        · rw [if_pos y3] at H ⊢
          exact H
        · rw [if_neg y3] at H ⊢
          by_cases y4 : x = 4
          · rw [if_pos y4] at H ⊢
            exact H
          · rw [if_neg y4] at H ⊢
            by_cases y5 : x = 5
            · rw [if_pos y5] at H ⊢
              exact H
            · rw [if_neg y5] at H ⊢
              by_cases y6 : x = 6
              · rw [if_pos y6] at H ⊢
                exact H
              · rw [if_neg y6] at H ⊢
                by_cases y7 : x = 7
                · rw [if_pos y7] at H ⊢
                  exact H
                · rw [if_neg y7] at H ⊢
                  by_cases y8 : x = 8
                  · rw [if_pos y8] at H ⊢
                    exact H
                  · rw [if_neg y8] at H ⊢
                    by_cases y9 : x = 9
                    · rw [if_pos y9] at H ⊢
                      exact H
                    · rw [if_neg y9] at H ⊢
                      by_cases y10 : x = 10
                      · rw [if_pos y10] at H ⊢
                        exact H
                      · rw [if_neg y10] at H ⊢
                        by_cases y11 : x = 11
                        · rw [if_pos y11] at H ⊢
                          exact H
                        · rw [if_neg y11] at H ⊢
                          by_cases y12 : x = 12
                          · rw [if_pos y12] at H ⊢
                            exact H
                          · rw [if_neg y12] at H ⊢
                            by_cases y13 : x = 13
                            · rw [if_pos y13] at H ⊢
                              exact H
                            · rw [if_neg y13] at H ⊢
                              exact H
theorem lp_mall (o : rOk w N R T) (hw : h 578 = w) : ∀ (j i : Nat) (acc : Int), i + j = N → 0 ≤ acc → acc ≤ 5 * i → ∀ Q, Q (.inl (some (vI (acc + sumF (fun i => (T i : Int)) i j)))) (eNT, e, ewP, h) → eP X m_X13_thingsAll 4 [vR 577, vI acc, vI (i : Int)] [] (eNT, e, ewP, h) Q := by
  have h8 := o.2.1
  have o1 := o.1
  intro j
  induction j with
  | zero =>
    intro i acc hi h0 h1 Q H
    refine bk_X13_thingsAll_4 X 577 acc i eNT e ewP h Q ?_
    rw [if_pos mk577, mp578, if_pos ⟨mk578, by decide, by rw [mn578]; decide⟩, show (0 : Int).toNat = 0 from rfl, hw, if_neg (by omega)]
    simpa [sumF] using H
  | succ j ih =>
    intro i acc hi h0 h1 Q H
    refine bk_X13_thingsAll_4 X 577 acc i eNT e ewP h Q ?_
    have wo := o.2.2.2.2.1 i (by omega)
    have f1 := wo.1
    rw [if_pos mk577, mp578, if_pos ⟨mk578, by decide, by rw [mn578]; decide⟩, show (0 : Int).toNat = 0 from rfl, hw, if_pos (by omega), if_pos mk577, m_of (by omega) (by decide), hw, show (2 : Int).toNat = 2 from rfl, wo.2.1, wi1 (by omega), wrn (by omega) (by omega)]
    simp only [sumF] at H
    refine ih (i + 1) _ (by omega) (by omega) (by omega) Q ?_
    rw [Int.add_assoc]
    exact H
theorem m_thingsAll (o : rOk w N R T) (hw : h 578 = w) (KI KX) : eCi X m_X13_thingsAll [vR 577] eNT e ewP h KI KX = KI (tAll w) eNT e ewP h := by
  refine eCi_eq X (fun Q H => ?_) KI KX
  refine bk_X13_thingsAll_0 X 577 eNT e ewP h Q ?_
  rw [tAll_T o] at H
  refine lp_mall o hw N 0 0 (by omega) (by omega) (by omega) Q ?_
  rw [Int.zero_add]
  exact H
theorem mg_account {x : Int} (o : rOk w N R T) (l : MI h w c U b r k1 k2 W I L f) {KI KX} (H : ∀ h', mB h h' → MI h' w c U b r k1 k2 W I L f → h' 577 0 = (gAc w W I c x).1 → KI (if (gAc w W I c x).1 = 0 then (gAc w W I c x).2 else 0) eNT e ewP h') : eCi X m_X13_account [vR 577, vI x] eNT e ewP h KI KX := by
  have H : KI (if (gAc w W I c x).1 = 0 then (gAc w W I c x).2 else 0) eNT e ewP (up h 577 0 (gAc w W I c x).1) := H _ (mB_up (fun _ _ => rfl) (by omega)) (MI_0 l) up_eq
  refine bk_X13_account_0 X 577 x eNT e ewP h _ ?_
  have w1 := h0w l.1
  have l5 := l.2.2.2.2
  have n1 := l.2.1.1
  have ma := fun KI KX => @m_asleep X e (up h 577 0 0) N T o.2.1 (by rw [w1]; exact o.1) (by rw [w1]; exact o.2.2.2.2.1) KI KX
  rw [w1, ← slp_T o] at ma
  unfold gAc at H
  simp only [nt0, nt1, nt2, nt3, nt4, nt5, nt6, nt7, nt8, nt9, nt10, nt11, nt12, nt13, mk577, mk578, mk579, mk580, mk581, mk582, mk583, mk584, mk585, mk586, mk587, mn578, mn579, mn580, mn581, mn582, mn583, mn584, mn585, mn586, mn587, mp578, mp579, mp580, mp581, mp582, mp583, mp584, mp585, mp586, mp587, ite_true, true_and, and_true, w1, ma, m_thingsAll o w1, m_fails, upup, up_nk (show 16 ≠ 0 by decide), up_nk (show 24 ≠ 0 by decide), up_nk (show 11 ≠ 0 by decide), l5.1, l5.2.2.2.1, n1, show (0 : Int).toNat = 0 from rfl, show (1 : Int).toNat = 1 from rfl, show (2 : Int).toNat = 2 from rfl, show (3 : Int).toNat = 3 from rfl, show (4 : Int).toNat = 4 from rfl, show (5 : Int).toNat = 5 from rfl, show (6 : Int).toNat = 6 from rfl, show (7 : Int).toNat = 7 from rfl, show (8 : Int).toNat = 8 from rfl]
  by_cases y0 : x = 0
  · rw [if_pos y0] at H ⊢
    first | exact H | (rw [if_pos (by decide)]; exact H)
  · rw [if_neg y0] at H ⊢
    by_cases y1 : x = 1
    · rw [if_pos y1] at H ⊢
      first | exact H | (rw [if_pos (by decide)]; exact H)
    · rw [if_neg y1] at H ⊢
      by_cases y2 : x = 2
      · rw [if_pos y2] at H ⊢
        first | exact H | (rw [if_pos (by decide)]; exact H)
      · rw [if_neg y2] at H ⊢
        by_cases y3 : x = 3
        · rw [if_pos y3] at H ⊢
          first | exact H | (rw [if_pos (by decide)]; exact H)
        · rw [if_neg y3] at H ⊢
          by_cases y4 : x = 4
          · rw [if_pos y4] at H ⊢
            first | exact H | (rw [if_pos (by decide)]; exact H)
          · rw [if_neg y4] at H ⊢
            by_cases y5 : x = 5
            · rw [if_pos y5] at H ⊢
              first | exact H | (rw [if_pos (by decide)]; exact H)
            · rw [if_neg y5] at H ⊢
              by_cases y6 : x = 6
              · rw [if_pos y6] at H ⊢
                first | exact H | (rw [if_pos (by decide)]; exact H)
              · rw [if_neg y6] at H ⊢
                by_cases y7 : x = 7
                · rw [if_pos y7] at H ⊢
                  first | exact H | (rw [if_pos (by decide)]; exact H)
                · rw [if_neg y7] at H ⊢
                  by_cases y8 : x = 8
                  · rw [if_pos y8] at H ⊢
                    first | exact H | (rw [if_pos (by decide)]; exact H)
                  · rw [if_neg y8] at H ⊢
                    by_cases y9 : x = 9
                    · rw [if_pos y9] at H ⊢
                      first | exact H | (rw [if_pos (by decide)]; exact H)
                    · rw [if_neg y9] at H ⊢
                      by_cases y10 : x = 10
                      · rw [if_pos y10] at H ⊢
                        first | exact H | (rw [if_pos (by decide)]; exact H)
                      · rw [if_neg y10] at H ⊢
                        by_cases y11 : x = 11
                        · rw [if_pos y11] at H ⊢
                          first | exact H | (rw [if_pos (by decide)]; exact H)
                        · rw [if_neg y11] at H ⊢
                          by_cases y12 : x = 12
                          · rw [if_pos y12] at H ⊢
                            first | exact H | (rw [if_pos (by decide)]; exact H)
                          · rw [if_neg y12] at H ⊢
                            by_cases y13 : x = 13
                            · rw [if_pos y13] at H ⊢
                              first | exact H | (rw [if_pos (by decide)]; exact H)
                            · rw [if_neg y13] at H ⊢
                              exact H
theorem mg_time2 {x : Int} (o : rOk w N R T) (l : MI h w c U b r k1 k2 W I L f) {KI KX} (H : ∀ h', mB h h' → MI h' w c U b r k1 k2 W I L f → h' 577 0 = (gTi w x).1 → KI (if (gTi w x).1 = 0 then (gTi w x).2 else 0) eNT e ewP h') : eCi X m_X13_time [vR 577, vI x] eNT e ewP h KI KX := by
  refine mg_time l.1 o ?_
  unfold gM
  exact H _ (mB_up (fun _ _ => rfl) (by omega)) (MI_0 l) up_eq
theorem gTi_k2 {w : Nat → Int} {x : Int} : (gTi w x).1 = 0 ∨ (gTi w x).1 = 1 := by
  generalize hg : gTi w x = g
  unfold gTi at hg
  repeat' split at hg
  all_goals (subst hg; simp)
end
