/-! arms: meanGrade, lostShare -/
def mgQ (w : Nat → Int) : UInt64 := Jvm.FP.ddiv (Jvm.FP.i2d (Int32.ofInt (w 9))) (Jvm.FP.i2d (Int32.ofInt (w 2)))
def lsQ (w : Nat → Int) : UInt32 := Jvm.FP.fdiv (Jvm.FP.i2f (Int32.ofInt (w 4))) (Jvm.FP.i2f (Int32.ofInt (wr (w 3 + w 5))))
theorem mgQ_n {N : Nat} {w : Nat → Int} (z : ctB N w) (hN : N ≤ 100000) (q : w 2 ≠ 0) : fpN _root_.Jvm.FP.Core.b64 (mgQ w).toNat := by
  unfold ctB at z
  exact fp_ddiv (by omega) (by omega)
theorem lsQ_n {N : Nat} {w : Nat → Int} (z : ctB N w) (hN : N ≤ 100000) (q : w 2 ≠ 0) : wr (w 3 + w 5) ≠ 0 ∧ fpN _root_.Jvm.FP.Core.b32 (lsQ w).toNat := by
  unfold ctB at z
  have e : wr (w 3 + w 5) = w 3 + w 5 := wrn (by omega) (by omega)
  refine ⟨by omega, ?_⟩
  unfold lsQ
  rw [e]
  exact fp_fdiv (by omega) (by omega)
theorem mgQ_g {N : Nat} {w : Nat → Int} (z : ctB N w) (hN : N ≤ 100000) (q : w 2 ≠ 0) : Jvm.FP.ddiv (Jvm.FP.i2d (Int32.ofInt (w 9))) (Jvm.FP.i2d (Int32.ofInt (w 2))) &&& 0x7fffffffffffffff ≤ 0x7ff0000000000000 := fp_g64 (mgQ_n z hN q)
theorem lsQ_g {N : Nat} {w : Nat → Int} (z : ctB N w) (hN : N ≤ 100000) (q : w 2 ≠ 0) : Jvm.FP.fdiv (Jvm.FP.i2f (Int32.ofInt (w 4))) (Jvm.FP.i2f (Int32.ofInt (wr (w 3 + w 5)))) &&& 0x7fffffff ≤ 0x7f800000 := fp_g32 (lsQ_n z hN q).2
section
variable {X : eX} {e : Nat} {h : Nat → Nat → Int} {w : Nat → Int} {c : Nat} {U : Nat → Nat → Int} {b : Bool} {r : Nat → Int} {k1 k2 : Int × Int} {W I L : List Int} {f : Int} {M : Nat}
theorem c_mean (l : CI h w c U b r k1 k2 W I L f) (z : ctB M w) (hM : M ≤ 100000) {KD KX} (H1 : w 2 = 0 → KX 6 eNT (e + 1) ewP h) (H : w 2 ≠ 0 → KD (mgQ w) eNT e ewP h) : eCd X m_X12_meanGrade [vR 1] eNT e ewP h KD KX := by
  refine bk_X12_meanGrade_0 X 1 eNT e ewP h _ ?_
  obtain ⟨N, R, T, o, rr⟩ := id l.1
  obtain ⟨s1, s2, s3, s4, s5, s6, s7, s8⟩ := rr.2.2.2.2.2
  simp only [ck1, ck2, ck52, ck102, ck554, ck560, ck566, ck569, ck571, ck573, ck575, ck567, cp0, cp1, cp2, cp3, cp4, cp5, cp6, cp7, cp8, cp9, cy566, ite_true, true_and, and_true]
  rw [s1, s2]
  by_cases q : w 2 = 0
  · rw [if_pos q]
    exact H1 q
  · rw [if_neg q, if_pos (mgQ_g z hM q)]
    exact H q
theorem c_lost (l : CI h w c U b r k1 k2 W I L f) (z : ctB M w) (hM : M ≤ 100000) {KD KX} (H1 : w 2 = 0 → KX 6 eNT (e + 1) ewP h) (H : w 2 ≠ 0 → KD (lsQ w) eNT e ewP h) : eCf X m_X12_lostShare [vR 1] eNT e ewP h KD KX := by
  refine bk_X12_lostShare_0 X 1 eNT e ewP h _ ?_
  obtain ⟨N, R, T, o, rr⟩ := id l.1
  obtain ⟨s1, s2, s3, s4, s5, s6, s7, s8⟩ := rr.2.2.2.2.2
  simp only [ck1, ck2, ck52, ck102, ck554, ck560, ck566, ck569, ck571, ck573, ck575, ck567, cp0, cp1, cp2, cp3, cp4, cp5, cp6, cp7, cp8, cp9, cy566, ite_true, true_and, and_true]
  rw [s1, s3, s4, s5]
  by_cases q : w 2 = 0
  · rw [if_pos q]
    exact H1 q
  · obtain ⟨q1, q2⟩ := lsQ_n z hM q
    rw [if_neg q, if_neg q1, if_pos (lsQ_g z hM q)]
    exact H q
theorem m_mean (l : MI h w c U b r k1 k2 W I L f) (z : ctB M w) (hM : M ≤ 100000) {KD KX} (H1 : w 2 = 0 → ∀ x, KD x eNT e ewP (up h 577 0 1)) (H : w 2 ≠ 0 → KD (mgQ w) eNT e ewP (up h 577 0 0)) : eCd X m_X13_meanGrade [vR 577] eNT e ewP h KD KX := by
  refine bk_X13_meanGrade_0 X 577 eNT e ewP h _ ?_
  have w1 : up h 577 0 0 578 = w := by rw [up_ne (by decide)]; exact l.1
  rw [if_pos mk577, if_pos mk577, mp578, if_pos ⟨mk578, by decide, by rw [mn578]; decide⟩, w1, show (2 : Int).toNat = 2 from rfl, show (9 : Int).toNat = 9 from rfl]
  by_cases q : w 2 = 0
  · rw [if_pos q, if_pos mk577, m_fails, upup]
    exact H1 q _
  · rw [if_neg q, if_pos mk577, if_pos ⟨mk578, by decide, by rw [mn578]; decide⟩, if_pos mk577, if_pos ⟨mk578, by decide, by rw [mn578]; decide⟩, if_pos (mgQ_g z hM q)]
    exact H q
theorem m_lost (l : MI h w c U b r k1 k2 W I L f) (z : ctB M w) (hM : M ≤ 100000) {KD KX} (H1 : w 2 = 0 → ∀ x, KD x eNT e ewP (up h 577 0 1)) (H : w 2 ≠ 0 → KD (lsQ w) eNT e ewP (up h 577 0 0)) : eCf X m_X13_lostShare [vR 577] eNT e ewP h KD KX := by
  refine bk_X13_lostShare_0 X 577 eNT e ewP h _ ?_
  have w1 : up h 577 0 0 578 = w := by rw [up_ne (by decide)]; exact l.1
  rw [if_pos mk577, if_pos mk577, mp578, if_pos ⟨mk578, by decide, by rw [mn578]; decide⟩, w1, show (2 : Int).toNat = 2 from rfl, show (4 : Int).toNat = 4 from rfl, show (3 : Int).toNat = 3 from rfl, show (5 : Int).toNat = 5 from rfl]
  by_cases q : w 2 = 0
  · rw [if_pos q, if_pos mk577, m_fails, upup]
    exact H1 q _
  · obtain ⟨q1, q2⟩ := lsQ_n z hM q
    rw [if_neg q, if_pos mk577, if_pos ⟨mk578, by decide, by rw [mn578]; decide⟩, if_pos mk577, if_pos ⟨mk578, by decide, by rw [mn578]; decide⟩, if_pos mk577, if_pos ⟨mk578, by decide, by rw [mn578]; decide⟩, if_pos (lsQ_g z hM q)]
    exact H q
end
section
variable {X : eX} {e i t : Nat} {h : Nat → Nat → Int} {Q : eO → eM → Prop}
theorem MI_d {h h' : Nat → Nat → Int} {w : Nat → Int} {c : Nat} {U : Nat → Nat → Int} {b : Bool} {r : Nat → Int} {k1 k2 : Int × Int} {W I L : List Int} {f : Int} (q : ∀ z, 577 ≤ z → z < 588 → h' z = h z) (l : MI h w c U b r k1 k2 W I L f) : MI h' w c U b r k1 k2 W I L f := by
  obtain ⟨l1, l2, l3, l4, l5⟩ := l
  exact ⟨by rw [q _ (by omega) (by omega)]; exact l1, mH_f (by rw [q _ (by omega) (by omega)]) (by rw [q _ (by omega) (by omega)]) (q _ (by omega) (by omega)) l2, mV_f (by rw [q _ (by omega) (by omega)]) (q _ (by omega) (by omega)) l3, mK_f (fun k h1 h2 => by rw [q _ (by omega) (by omega)]) l4, mL_f (by rw [q _ (by omega) (by omega)]) (by rw [q _ (by omega) (by omega)]) (by rw [q _ (by omega) (by omega)]) (by rw [q _ (by omega) (by omega)]) (q _ (by omega) (by omega)) (q _ (by omega) (by omega)) (q _ (by omega) (by omega)) l5⟩
theorem o589 {h : Nat → Nat → Int} {v : Int} : up h 589 (0 : Int).toNat v 589 0 = v := up_eq
theorem ar_meanGrade (ht : t ≤ 1000) (l : SI h t) (H : NX X Q i t e) (j7 j8 : eV) : eP X m_L_law 1415 [vR 1000, vR 1, vR 577, vR 588, vR 589, vI (i : Int), vJ, j7, j8] [] (eNT, e, ewP, h) Q := by
  obtain ⟨w, c, U, b, r, k1, k2, W, I, L, f, lc, lm, z1, z2, z3, z4, z5⟩ := l
  refine bk_L_law_1415 X 1000 1 577 588 589 i j7 j8 eNT e ewP h Q ?_
  refine bk_L_meanGrade_0 X 1 589 eNT e ewP h _ ?_
  rw [if_pos ck1]
  refine c_mean lc z1 (by omega) (fun q => ?_) (fun q => ?_)
  · refine eBk_h (t := 7) (k := 2) (by decide +kernel) ?_
    refine bk_L_meanGrade_7 X 1 589 _ eNT (e + 1) ewP h _ ?_
    show if kn ewK eNT 577 = 13 then _ else _
    rw [if_pos mk577]
    refine m_mean lm z1 (by omega) (fun _ x => ?_) (fun q' => absurd q q')
    rw [if_pos mk577, m_thrown, up_eq, if_pos rfl, if_neg (by decide)]
    exact H _ (e + 1) _ _ _ (Or.inr ⟨_, rfl⟩) ⟨w, c, U, b, r, k1, k2, W, I, L, f, CI_f (fun z hz => by rw [up_ne (by omega)]) lc, MI_0 lm, ctB_le (by omega) z1, fun j hj => ctB_le (by omega) (z2 j hj), fun hb => ctB_le (by omega) (z3 hb), z4, z5⟩ (by omega)
  · rw [if_pos ⟨ok589, by decide, by rw [on589]; decide⟩]
    show if kn ewK eNT 577 = 13 then _ else _
    rw [if_pos mk577]
    have l1 := fun v : Int => MI_d (h' := up h 589 (0 : Int).toNat v) (fun z h2 h3 => up_ne (by omega)) lm
    refine m_mean (l1 _) z1 (by omega) (fun q' => absurd q' q) (fun _ => ?_)
    rw [if_pos mk577, m_thrown, up_eq, if_pos rfl, if_pos rfl, if_pos ⟨ok589, by decide, by rw [on589]; decide⟩, show (0 : Int).toNat = 0 from rfl, up_ne (show 589 ≠ 577 by decide), up_eq, if_pos (fp_cmp (mgQ_n z1 (by omega) q))]
    exact H _ e _ _ _ (Or.inr ⟨_, rfl⟩) ⟨w, c, U, b, r, k1, k2, W, I, L, f, CI_f (fun z hz => by rw [up_ne (by omega), up_ne (by omega)]) lc, MI_0 (l1 _), ctB_le (by omega) z1, fun j hj => ctB_le (by omega) (z2 j hj), fun hb => ctB_le (by omega) (z3 hb), z4, z5⟩ (by omega)
theorem ar_meanGradeb (ht : t ≤ 1000) (l : SI h t) (H : NX X Q i t e) (j6 : Int) (j7 j8 : eV) : eP X m_L_law 1415 [vR 1000, vR 1, vR 577, vR 588, vR 589, vI (i : Int), vI j6, j7, j8] [] (eNT, e, ewP, h) Q := by
  obtain ⟨w, c, U, b, r, k1, k2, W, I, L, f, lc, lm, z1, z2, z3, z4, z5⟩ := l
  refine bk_L_law_1415b X 1000 1 577 588 589 i j6 j7 j8 eNT e ewP h Q ?_
  refine bk_L_meanGrade_0 X 1 589 eNT e ewP h _ ?_
  rw [if_pos ck1]
  refine c_mean lc z1 (by omega) (fun q => ?_) (fun q => ?_)
  · refine eBk_h (t := 7) (k := 2) (by decide +kernel) ?_
    refine bk_L_meanGrade_7 X 1 589 _ eNT (e + 1) ewP h _ ?_
    show if kn ewK eNT 577 = 13 then _ else _
    rw [if_pos mk577]
    refine m_mean lm z1 (by omega) (fun _ x => ?_) (fun q' => absurd q q')
    rw [if_pos mk577, m_thrown, up_eq, if_pos rfl, if_neg (by decide)]
    exact H _ (e + 1) _ _ _ (Or.inr ⟨_, rfl⟩) ⟨w, c, U, b, r, k1, k2, W, I, L, f, CI_f (fun z hz => by rw [up_ne (by omega)]) lc, MI_0 lm, ctB_le (by omega) z1, fun j hj => ctB_le (by omega) (z2 j hj), fun hb => ctB_le (by omega) (z3 hb), z4, z5⟩ (by omega)
  · rw [if_pos ⟨ok589, by decide, by rw [on589]; decide⟩]
    show if kn ewK eNT 577 = 13 then _ else _
    rw [if_pos mk577]
    have l1 := fun v : Int => MI_d (h' := up h 589 (0 : Int).toNat v) (fun z h2 h3 => up_ne (by omega)) lm
    refine m_mean (l1 _) z1 (by omega) (fun q' => absurd q' q) (fun _ => ?_)
    rw [if_pos mk577, m_thrown, up_eq, if_pos rfl, if_pos rfl, if_pos ⟨ok589, by decide, by rw [on589]; decide⟩, show (0 : Int).toNat = 0 from rfl, up_ne (show 589 ≠ 577 by decide), up_eq, if_pos (fp_cmp (mgQ_n z1 (by omega) q))]
    exact H _ e _ _ _ (Or.inr ⟨_, rfl⟩) ⟨w, c, U, b, r, k1, k2, W, I, L, f, CI_f (fun z hz => by rw [up_ne (by omega), up_ne (by omega)]) lc, MI_0 (l1 _), ctB_le (by omega) z1, fun j hj => ctB_le (by omega) (z2 j hj), fun hb => ctB_le (by omega) (z3 hb), z4, z5⟩ (by omega)
theorem ar_lostShare (ht : t ≤ 1000) (l : SI h t) (H : NX X Q i t e) (j7 j8 : eV) : eP X m_L_law 1451 [vR 1000, vR 1, vR 577, vR 588, vR 589, vI (i : Int), vJ, j7, j8] [] (eNT, e, ewP, h) Q := by
  obtain ⟨w, c, U, b, r, k1, k2, W, I, L, f, lc, lm, z1, z2, z3, z4, z5⟩ := l
  refine bk_L_law_1451 X 1000 1 577 588 589 i j7 j8 eNT e ewP h Q ?_
  refine bk_L_lostShare_0 X 1 589 eNT e ewP h _ ?_
  rw [if_pos ck1]
  refine c_lost lc z1 (by omega) (fun q => ?_) (fun q => ?_)
  · refine eBk_h (t := 8) (k := 2) (by decide +kernel) ?_
    refine bk_L_lostShare_8 X 1 589 _ eNT (e + 1) ewP h _ ?_
    show if kn ewK eNT 577 = 13 then _ else _
    rw [if_pos mk577]
    refine m_lost lm z1 (by omega) (fun _ x => ?_) (fun q' => absurd q q')
    rw [if_pos mk577, m_thrown, up_eq, if_pos rfl, if_neg (by decide)]
    exact H _ (e + 1) _ _ _ (Or.inr ⟨_, rfl⟩) ⟨w, c, U, b, r, k1, k2, W, I, L, f, CI_f (fun z hz => by rw [up_ne (by omega)]) lc, MI_0 lm, ctB_le (by omega) z1, fun j hj => ctB_le (by omega) (z2 j hj), fun hb => ctB_le (by omega) (z3 hb), z4, z5⟩ (by omega)
  · rw [if_pos (fp_g64 (fp_f2d (lsQ_n z1 (by omega) q).2)), if_pos ⟨ok589, by decide, by rw [on589]; decide⟩]
    show if kn ewK eNT 577 = 13 then _ else _
    rw [if_pos mk577]
    have l1 := fun v : Int => MI_d (h' := up h 589 (0 : Int).toNat v) (fun z h2 h3 => up_ne (by omega)) lm
    refine m_lost (l1 _) z1 (by omega) (fun q' => absurd q' q) (fun _ => ?_)
    rw [if_pos mk577, m_thrown, up_eq, if_pos rfl, if_pos rfl, if_pos ⟨ok589, by decide, by rw [on589]; decide⟩, show (0 : Int).toNat = 0 from rfl, up_ne (show 589 ≠ 577 by decide), if_pos (fp_g64 (fp_f2d (lsQ_n z1 (by omega) q).2)), up_eq, if_pos (fp_cmp (fp_f2d (lsQ_n z1 (by omega) q).2))]
    exact H _ e _ _ _ (Or.inr ⟨_, rfl⟩) ⟨w, c, U, b, r, k1, k2, W, I, L, f, CI_f (fun z hz => by rw [up_ne (by omega), up_ne (by omega)]) lc, MI_0 (l1 _), ctB_le (by omega) z1, fun j hj => ctB_le (by omega) (z2 j hj), fun hb => ctB_le (by omega) (z3 hb), z4, z5⟩ (by omega)
theorem ar_lostShareb (ht : t ≤ 1000) (l : SI h t) (H : NX X Q i t e) (j6 : Int) (j7 j8 : eV) : eP X m_L_law 1451 [vR 1000, vR 1, vR 577, vR 588, vR 589, vI (i : Int), vI j6, j7, j8] [] (eNT, e, ewP, h) Q := by
  obtain ⟨w, c, U, b, r, k1, k2, W, I, L, f, lc, lm, z1, z2, z3, z4, z5⟩ := l
  refine bk_L_law_1451b X 1000 1 577 588 589 i j6 j7 j8 eNT e ewP h Q ?_
  refine bk_L_lostShare_0 X 1 589 eNT e ewP h _ ?_
  rw [if_pos ck1]
  refine c_lost lc z1 (by omega) (fun q => ?_) (fun q => ?_)
  · refine eBk_h (t := 8) (k := 2) (by decide +kernel) ?_
    refine bk_L_lostShare_8 X 1 589 _ eNT (e + 1) ewP h _ ?_
    show if kn ewK eNT 577 = 13 then _ else _
    rw [if_pos mk577]
    refine m_lost lm z1 (by omega) (fun _ x => ?_) (fun q' => absurd q q')
    rw [if_pos mk577, m_thrown, up_eq, if_pos rfl, if_neg (by decide)]
    exact H _ (e + 1) _ _ _ (Or.inr ⟨_, rfl⟩) ⟨w, c, U, b, r, k1, k2, W, I, L, f, CI_f (fun z hz => by rw [up_ne (by omega)]) lc, MI_0 lm, ctB_le (by omega) z1, fun j hj => ctB_le (by omega) (z2 j hj), fun hb => ctB_le (by omega) (z3 hb), z4, z5⟩ (by omega)
  · rw [if_pos (fp_g64 (fp_f2d (lsQ_n z1 (by omega) q).2)), if_pos ⟨ok589, by decide, by rw [on589]; decide⟩]
    show if kn ewK eNT 577 = 13 then _ else _
    rw [if_pos mk577]
    have l1 := fun v : Int => MI_d (h' := up h 589 (0 : Int).toNat v) (fun z h2 h3 => up_ne (by omega)) lm
    refine m_lost (l1 _) z1 (by omega) (fun q' => absurd q' q) (fun _ => ?_)
    rw [if_pos mk577, m_thrown, up_eq, if_pos rfl, if_pos rfl, if_pos ⟨ok589, by decide, by rw [on589]; decide⟩, show (0 : Int).toNat = 0 from rfl, up_ne (show 589 ≠ 577 by decide), if_pos (fp_g64 (fp_f2d (lsQ_n z1 (by omega) q).2)), up_eq, if_pos (fp_cmp (fp_f2d (lsQ_n z1 (by omega) q).2))]
    exact H _ e _ _ _ (Or.inr ⟨_, rfl⟩) ⟨w, c, U, b, r, k1, k2, W, I, L, f, CI_f (fun z hz => by rw [up_ne (by omega), up_ne (by omega)]) lc, MI_0 (l1 _), ctB_le (by omega) z1, fun j hj => ctB_le (by omega) (z2 j hj), fun hb => ctB_le (by omega) (z3 hb), z4, z5⟩ (by omega)
end
