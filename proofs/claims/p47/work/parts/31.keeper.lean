/-! the class's keeper, on -/
theorem wRel_rop {h h' : Nat → Nat → Int} {b N R : Nat} {w w' : Nat → Int} {T : Nat → Nat} (l : wRel h b w N R T) (h8 : N ≤ 8) (h3 : R ≤ 3) (f : frm (b + 43) (b + 46) h h') (q : ∀ k, (k < 55 ∨ 64 ≤ k) → w' k = w k) (hr : ∀ r, r < R → rpR h' (b + 43 + r) w' r) : wRel h' b w' N R T := by
  obtain ⟨a1, a2, a3, a4, a5, a6⟩ := l
  have hb : h' b = h b := f b (by omega)
  refine ⟨by rw [hb]; exact a1, by rw [hb]; exact a2, ?_, hr, ?_, ?_⟩
  · exact fun s hs => wlR_congr (fun j hj => (q _ (by omega)).symm) (wlR_frm f (by omega) (a3 s hs))
  · exact bkR_congr (fun k h1 h2 => q k (by omega)) (bkR_frm f (by omega) a5)
  · refine scR_congr (fun k h1 h2 => q k (by omega)) ?_
    unfold scR
    rw [hb]
    exact a6
theorem rOk_rop {N R : Nat} {w w' : Nat → Int} {T : Nat → Nat} (l : rOk w N R T) (q : ∀ k, (k < 55 ∨ 64 ≤ k) → w' k = w k) (hr : ∀ r, r < R → (1 ≤ w' (55 + 3 * r) ∧ w' (55 + 3 * r) ≤ 30) ∧ (0 ≤ w' (56 + 3 * r) ∧ w' (56 + 3 * r) ≤ N)) : rOk w' N R T := by
  obtain ⟨a1, a2, a3, a4, a5, a6, a7, a8⟩ := l
  exact ⟨by rw [q _ (by omega)]; exact a1, a2, by rw [q _ (by omega)]; exact a3, a4, fun s hs => wOk_congr (fun j hj => (q _ (by omega)).symm) (a5 s hs), hr, by rw [q _ (by omega)]; exact a7, by rw [q _ (by omega)]; exact a8⟩
theorem wRel_fished {h : Nat → Nat → Int} {b N R : Nat} {w : Nat → Int} {T : Nat → Nat} {v : Int} (l : wRel h b w N R T) : wRel (up h b 11 v) b (rSet w 7 v) N R T := by
  obtain ⟨a1, a2, a3, a4, a5, s1, s2, s3, s4, s5, s6, s7, s8⟩ := l
  have f : frm b (b + 1) h (up h b 11 v) := frm_up frm_rfl (by omega)
  have lo : ∀ k, k ≠ 7 → rSet w 7 v k = w k := fun k hk => by unfold rSet; rw [if_neg hk]
  refine ⟨by rw [up_nk (by omega)]; exact a1, by rw [up_nk (by omega)]; exact a2, ?_, ?_, ?_, ?_⟩
  · exact fun s hs => wlR_congr (fun j hj => (lo _ (by omega)).symm) (wlR_frm f (by omega) (a3 s hs))
  · exact fun r hr => by
      have := rpR_frm f (by omega) (a4 r hr)
      unfold rpR at this ⊢
      rw [lo _ (by omega), lo _ (by omega), lo _ (by omega)]
      exact this
  · exact bkR_congr (fun k h1 h2 => lo k (by omega)) (bkR_frm f (by omega) a5)
  · unfold scR
    rw [lo 2 (by omega), lo 9 (by omega), lo 3 (by omega), lo 4 (by omega), lo 5 (by omega), lo 6 (by omega), lo 8 (by omega)]
    rw [up_nk (by omega), up_nk (by omega), up_nk (by omega), up_nk (by omega), up_nk (by omega), up_nk (by omega), up_eq, up_nk (by omega)]
    exact ⟨s1, s2, s3, s4, s5, s6, by unfold rSet; rw [if_pos rfl], s8⟩
theorem rOk_lo {N R : Nat} {w w' : Nat → Int} {T : Nat → Nat} (l : rOk w N R T) (q : ∀ k, (k < 2 ∨ 10 ≤ k) → w' k = w k) : rOk w' N R T := by
  obtain ⟨a1, a2, a3, a4, a5, a6, a7, a8⟩ := l
  exact ⟨by rw [q _ (by omega)]; exact a1, a2, by rw [q _ (by omega)]; exact a3, a4, fun s hs => wOk_congr (fun j hj => (q _ (by omega)).symm) (a5 s hs), fun r hr => by rw [q _ (by omega), q _ (by omega)]; exact a6 r hr, by rw [q _ (by omega)]; exact a7, by rw [q _ (by omega)]; exact a8⟩
theorem rTake_o {f : Nat → Int} {n t j : Nat} (ht : t < n) (h : j < 5 + 4 * t) (h2 : j ≠ 2) : rTake f n t j = f j := by
  unfold rTake
  rw [if_neg (by omega), if_neg (by omega), if_neg h2]
theorem rTake_s {f : Nat → Int} {n t j : Nat} (h : 5 + 4 * t ≤ j) (h2 : j < 1 + 4 * n) : rTake f n t j = f (j + 4) := by
  unfold rTake
  rw [if_pos ⟨h, h2⟩]
theorem wOk_take {f : Nat → Int} {n t : Nat} (o : wOk f n) (ht : t < n) : wOk (rTake f n t) (n - 1) := by
  obtain ⟨h0, h1, h2, h3, h4⟩ := o
  refine ⟨by omega, ?_, by rw [rTake_o ht (by omega) (by omega)]; exact h2, by rw [rTake_o ht (by omega) (by omega)]; exact h3, fun s hs => ?_⟩
  · unfold rTake; rw [if_neg (by omega), if_neg (by omega), if_pos rfl]; omega
  · rw [rTake_o (j := 0) ht (by omega) (by omega)]
    by_cases q : s < t
    · rw [rTake_o ht (by omega) (by omega), rTake_o ht (by omega) (by omega), rTake_o ht (by omega) (by omega), rTake_o ht (by omega) (by omega)]
      exact h4 s (by omega)
    · rw [rTake_s (by omega) (by omega), rTake_s (by omega) (by omega), rTake_s (by omega) (by omega), rTake_s (by omega) (by omega)]
      have := h4 (s + 1) (by omega)
      rw [show 5 + 4 * (s + 1) = 5 + 4 * s + 4 by omega, show 6 + 4 * (s + 1) = 6 + 4 * s + 4 by omega, show 7 + 4 * (s + 1) = 7 + 4 * s + 4 by omega, show 8 + 4 * (s + 1) = 8 + 4 * s + 4 by omega] at this
      exact this
theorem rFrg_o {f : Nat → Int} {n j : Nat} {a : Int} (h : j < 8 ∨ j % 4 ≠ 0) : rFrg f n a j = f j := by
  unfold rFrg
  rw [if_neg (by omega)]
theorem rFrg_s {f : Nat → Int} {n t : Nat} {a : Int} (h : t < n) : rFrg f n a (8 + 4 * t) = if a = 0 then 0 else if f (5 + 4 * t) = 1 then 1 else 0 := by
  unfold rFrg
  rw [if_pos (by omega), show 8 + 4 * t - 3 = 5 + 4 * t by omega]
theorem wOk_frg {f : Nat → Int} {n : Nat} {a : Int} (o : wOk f n) : wOk (rFrg f n a) n := by
  obtain ⟨h0, h1, h2, h3, h4⟩ := o
  refine ⟨h0, by rw [rFrg_o (by omega)]; exact h1, by rw [rFrg_o (by omega)]; exact h2, by rw [rFrg_o (by omega)]; exact h3, fun t ht => ?_⟩
  obtain ⟨c1, c2, c3, c4, c5, c6⟩ := h4 t ht
  rw [rFrg_o (j := 0) (by omega), rFrg_o (j := 5 + 4 * t) (by omega), rFrg_o (j := 6 + 4 * t) (by omega), rFrg_o (j := 7 + 4 * t) (by omega), rFrg_s ht]
  refine ⟨c1, c2, c3, c4, ?_, fun q => ?_⟩
  · split
    · exact Or.inl rfl
    · split
      · exact Or.inr rfl
      · exact Or.inl rfl
  · rw [if_neg q]; split <;> rfl
theorem fSh_o {f : Nat → Int} {n j : Nat} {g : Int} (h : j ≠ 3) (h2 : j ≠ 4) : fSh f n g j = rFrg f n 0 j := by
  unfold fSh
  rw [if_neg h, if_neg h2]
theorem wOk_sh {f : Nat → Int} {n : Nat} {g : Int} (o : wOk f n) : wOk (fSh f n g) n := by
  obtain ⟨h0, h1, h2, h3, h4⟩ := wOk_frg (a := 0) o
  refine ⟨h0, by rw [fSh_o (by omega) (by omega)]; exact h1, by rw [fSh_o (by omega) (by omega)]; exact h2, by rw [fSh_o (by omega) (by omega)]; exact h3, fun t ht => ?_⟩
  rw [fSh_o (j := 0) (by omega) (by omega), fSh_o (by omega) (by omega), fSh_o (by omega) (by omega), fSh_o (by omega) (by omega), fSh_o (by omega) (by omega)]
  exact h4 t ht
def kfr (h h' : Nat → Nat → Int) : Prop := ∀ c, (c < 2 ∨ 52 ≤ c) → (c < 554 ∨ 560 ≤ c) → h' c = h c
theorem kfr_w {h h' : Nat → Nat → Int} (f : frm 2 52 h h') : kfr h h' := fun c h1 _ => f c h1
theorem rfz_k {h : Nat → Nat → Int} {r d : Int} : kfr h (rfz h r d) := fun c _ h2 => by
  unfold rfz
  rw [up_ne (by omega), up_ne (by omega), up_ne (by omega), up_ne (by omega)]
def slp (w : Nat → Int) : Int := sumF (fun i => fFrg (wW w i) 0 (wW w i 2).toNat) 0 (w 0).toNat
def dWake (w : Nat → Int) : Nat → Int := rWake w (w 0).toNat (fun i => (wW w i 2).toNat) (slp w)
theorem slp_T {w : Nat → Int} {N R : Nat} {T : Nat → Nat} (o : rOk w N R T) : slp w = sumF (fun i => fFrg (wW w i) 0 (T i)) 0 N := by
  unfold slp
  rw [show (w 0).toNat = N by rw [o.1, Int.toNat_natCast]]
  exact sumF_congr N 0 (fun t _ ht => by rw [rOk_T o (by omega)])
theorem dWake_T {w : Nat → Int} {N R : Nat} {T : Nat → Nat} (o : rOk w N R T) : dWake w = rWake w N T (sumF (fun i => fFrg (wW w i) 0 (T i)) 0 N) := by
  unfold dWake
  rw [slp_T o, show (w 0).toNat = N by rw [o.1, Int.toNat_natCast]]
  funext k
  unfold rWake
  by_cases q : 64 ≤ k ∧ k < 64 + 25 * N
  · rw [if_pos q, if_pos q]
    show rFrg (wW w ((k - 64) / 25)) ((wW w ((k - 64) / 25) 2).toNat) 1 ((k - 64) % 25) = _
    rw [rOk_T o (by omega)]
  · rw [if_neg q, if_neg q]
theorem slp_nn {w : Nat → Int} {N R : Nat} {T : Nat → Nat} (o : rOk w N R T) : 0 ≤ slp w := by
  rw [slp_T o]
  have : sumF (fun _ => 0) 0 N ≤ sumF (fun i => fFrg (wW w i) 0 (T i)) 0 N := sumF_mono N 0 (fun t _ _ => (sumF_le (fun t => (sFrg01 t).1) (fun t => (sFrg01 t).2) (T t) 0).1)
  rw [sumF_zero N 0 (fun _ _ _ => rfl)] at this
  exact this
section
variable {X : eX} {e : Nat} {h : Nat → Nat → Int}
theorem k_removeThing {w : Nat → Int} {x t : Int} (l : wR h 2 w) {KI KX} (HR : ∀ r y, nTake w x t = (r, y) → r ≠ 0 → KI (-1) eNT e ewP (rfz h r y)) (HD : nTake w x t = (0, 0) → ∀ h', frm 2 52 h h' → wR h' 2 (dTake w x.toNat t.toNat) → 0 ≤ wW w x.toNat 2 - 1 → KI (wW w x.toNat 2 - 1) eNT e ewP h') : eCi X m_X3_removeThing [vR 554, vR 2, vI x, vI t] eNT e ewP h KI KX := by
  obtain ⟨N, R, T, o, r⟩ := l
  refine bk_X3_removeThing_0 X 554 2 x t eNT e ewP h _ ?_
  rw [if_pos (b11 kb2).1, c_wellQ o r]
  by_cases q1 : 0 ≤ x ∧ x < w 0
  · have hxN : x.toNat < N := by have := o.1; omega
    have h8 := o.2.1
    have hkk := wlK (show x.toNat < 8 by omega)
    have wl := r.2.2.1 x.toNat hxN
    rw [show 2 + 2 + 5 * x.toNat = 4 + 5 * x.toNat by omega] at wl
    have wo := o.2.2.2.2.1 x.toNat hxN
    have eT := rOk_T o hxN
    rw [if_pos q1, if_neg (by omega), if_pos (w10 hkk).1, c_hasThing hkk, wl.2.2.1]
    have s2 := wl.2.1
    by_cases q2 : 0 ≤ t ∧ t < (T x.toNat : Int)
    · rw [if_pos q2, if_neg (by decide), if_pos (w10 hkk).1]
      have w1 := @w_remove X e h (4 + 5 * x.toNat) (T x.toNat) t.toNat (wW w x.toNat) hkk wl (by omega)
      rw [show ((t.toNat : Nat) : Int) = t by omega] at w1
      refine w1 (fun h' f g => ?_)
      simp only [(w10 hkk).1, ite_true, g.2.2.1]
      have f' : frm (2 + 2 + 5 * x.toNat) (2 + 2 + 5 * x.toNat + 5) h h' := by
        rw [show 2 + 2 + 5 * x.toNat = 4 + 5 * x.toNat by omega]; exact f
      have := HD (by unfold nTake; rw [if_pos q1, if_pos (by omega)]) h' (frm_le f (by omega)) ⟨N, R, _, rOk_well o hxN (show wOk (rTake (wW w x.toNat) (wW w x.toNat 2).toNat t.toNat) (T x.toNat - 1) by rw [eT]; exact wOk_take wo (by omega)), wRel_well r hxN o.2.1 o.2.2.2.1 f' (by rw [show 2 + 2 + 5 * x.toNat = 4 + 5 * x.toNat by omega, eT]; exact g)⟩ (by omega)
      rw [show ((T x.toNat - 1 : Nat) : Int) = wW w x.toNat 2 - 1 by omega]
      exact this
    · rw [if_neg q2, if_pos rfl, if_pos kk554, c_refuse]
      exact HR 2 t (by unfold nTake; rw [if_pos q1, if_neg (by omega)]) (by decide)
  · rw [if_neg q1, if_pos rfl, if_pos kk554, c_refuse]
    exact HR 2 x (by unfold nTake; rw [if_neg q1]) (by decide)
theorem k_bringRope {w : Nat → Int} {x : Int} (l : wR h 2 w) {KI KX} (HR : ∀ r y, nRope w x = (r, y) → r ≠ 0 → KI (-1) eNT e ewP (rfz h r y)) (HD : nRope w x = (0, 0) → ∀ h', frm 2 52 h h' → wR h' 2 (rRope w (w 1).toNat x) → 0 ≤ w 1 → KI (w 1) eNT e ewP h') : eCi X m_X3_bringRope [vR 554, vR 2, vI x] eNT e ewP h KI KX := by
  obtain ⟨N, R, T, o, r⟩ := l
  refine bk_X3_bringRope_0 X 554 2 x eNT e ewP h _ ?_
  rw [c_isIn]
  by_cases q1 : 1 ≤ x ∧ x ≤ 30
  · rw [if_pos q1, if_neg (by decide), if_pos (b11 kb2).1, r.2.1]
    by_cases q2 : (R : Int) < 3
    · rw [if_pos q2, if_pos (b11 kb2).1]
      refine w_addRope kb2 r o.2.1 (by omega) (fun h' f g => ?_)
      have e1 : (w 1).toNat = R := by rw [o.2.2.1, Int.toNat_natCast]
      have := HD (by unfold nRope; rw [if_pos q1, o.2.2.1, if_pos q2]) h' f ⟨N, R + 1, T, ?_, by rw [e1]; exact g⟩ (by have := o.2.2.1; omega)
      · rw [o.2.2.1] at this; exact this
      · obtain ⟨o1, o2, o3, o4, o5, o6, o7, o8⟩ := o
        have lo : ∀ k, k ≠ 1 → (k < 55 + 3 * R ∨ 58 + 3 * R ≤ k) → rRope w R x k = w k := by
          intro k h1 h2
          unfold rRope
          rw [if_neg (by omega), if_neg (by omega), if_neg (by omega), if_neg h1]
        rw [e1]
        refine ⟨by rw [lo _ (by omega) (by omega)]; exact o1, o2, by unfold rRope; rw [if_neg (by omega), if_neg (by omega), if_neg (by omega), if_pos rfl]; omega, by omega, ?_, ?_, by rw [lo _ (by omega) (by omega)]; exact o7, by rw [lo _ (by omega) (by omega)]; exact o8⟩
        · intro s hs
          refine wOk_congr (fun j hj => ?_) (o5 s hs)
          unfold wW
          rw [lo _ (by omega) (by omega)]
        · intro k hk
          by_cases e2 : k = R
          · subst e2
            have v0 : rRope w k x (55 + 3 * k) = x := by unfold rRope; rw [if_pos rfl]
            have v1 : rRope w k x (56 + 3 * k) = 0 := by unfold rRope; rw [if_neg (by omega), if_pos rfl]
            rw [v0, v1]
            exact ⟨q1, by omega⟩
          · rw [lo _ (by omega) (by omega), lo _ (by omega) (by omega)]
            exact o6 k (by omega)
    · rw [if_neg q2, if_pos kk554, c_refuse]
      exact HR 1 3 (by unfold nRope; rw [if_pos q1, o.2.2.1, if_neg q2]) (by decide)
  · rw [if_neg q1, if_pos rfl, if_pos kk554, c_refuse]
    exact HR 3 x (by unfold nRope; rw [if_neg q1]) (by decide)
def nRp (w : Nat → Int) (x : Int) : Int := sumF (fun r => if w (56 + 3 * r) - 1 = x then 1 else 0) 0 (w 1).toNat
theorem nRp_nn {w : Nat → Int} {x : Int} : 0 ≤ nRp w x := (sumF_le (f := fun r => if w (56 + 3 * r) - 1 = x then (1 : Int) else 0) (M := 1) (fun r => by split <;> omega) (fun r => by split <;> omega) _ 0).1
theorem k_tieRope {w : Nat → Int} {y x : Int} (l : wR h 2 w) {KI KX} (HR : ∀ r z, nBind w y x = (r, z) → r ≠ 0 → KI (-1) eNT e ewP (rfz h r z)) (HD : nBind w y x = (0, 0) → ∀ h', frm 2 52 h h' → wR h' 2 (dBind w y.toNat x) → 0 ≤ nRp (dBind w y.toNat x) x → KI (nRp (dBind w y.toNat x) x) eNT e ewP h') : eCi X m_X3_tieRope [vR 554, vR 2, vI y, vI x] eNT e ewP h KI KX := by
  obtain ⟨N, R, T, o, r⟩ := l
  refine bk_X3_tieRope_0 X 554 2 y x eNT e ewP h _ ?_
  rw [if_pos (b11 kb2).1, c_ropeQ o r]
  by_cases q1 : 0 ≤ y ∧ y < w 1
  · have hyR : y.toNat < R := by have := o.2.2.1; omega
    have h3 := o.2.2.2.1
    have k0 := k8 (rpK (show y.toNat < 3 by omega))
    have rp := r.2.2.2.1 y.toNat hyR
    rw [show 2 + 43 + y.toNat = 45 + y.toNat by omega] at rp
    rw [if_pos q1, if_neg (by omega), if_pos (b11 kb2).1, c_wellQ o r]
    by_cases q2 : 0 ≤ x ∧ x < w 0
    · rw [if_pos q2, if_neg (by omega), if_pos k0, rp.2.1]
      by_cases q3 : w (56 + 3 * y.toNat) - 1 = x
      · rw [if_pos q3, if_pos kk554, c_refuse]
        exact HR 6 x (by unfold nBind; rw [if_pos q1, if_pos q2, if_pos q3]) (by decide)
      · rw [if_neg q3, if_pos k0, if_pos (b11 kb2).1]
        have lo : ∀ k, k ≠ 56 + 3 * y.toNat → dBind w y.toNat x k = w k := fun k hk => by unfold dBind rSet; rw [if_neg hk]
        have l1 : dBind w y.toNat x (56 + 3 * y.toNat) = x + 1 := by unfold dBind rSet; rw [if_pos rfl]
        have f : frm (2 + 43) (2 + 46) h (up h (45 + y.toNat) 1 x) := frm_up frm_rfl (by omega)
        have r' : wRel (up h (45 + y.toNat) 1 x) 2 (dBind w y.toNat x) N R T := by
          refine wRel_rop r o.2.1 h3 f (fun k hk => lo k (by omega)) (fun s hs => ?_)
          have rs := r.2.2.2.1 s hs
          unfold rpR at rs ⊢
          by_cases e2 : s = y.toNat
          · subst e2
            rw [show 2 + 43 + y.toNat = 45 + y.toNat by omega] at rs ⊢
            rw [l1, lo _ (by omega), lo _ (by omega), up_nk (by omega), up_eq, up_nk (by omega)]
            exact ⟨rs.1, by omega, rs.2.2⟩
          · rw [up_ne (by omega), lo _ (by omega), lo _ (by omega), lo _ (by omega)]
            exact rs
        have o' : rOk (dBind w y.toNat x) N R T := by
          refine rOk_rop o (fun k hk => lo k (by omega)) (fun s hs => ?_)
          have os := o.2.2.2.2.2.1 s hs
          rw [lo _ (by omega)]
          by_cases e2 : s = y.toNat
          · subst e2
            rw [l1]
            exact ⟨os.1, by have := o.1; omega⟩
          · rw [lo _ (by omega)]
            exact os
        rw [c_ropesAt kb2 r' h3]
        have e3 : sumF (fun r => if dBind w y.toNat x (56 + 3 * r) - 1 = x then (1 : Int) else 0) 0 R = nRp (dBind w y.toNat x) x := by
          unfold nRp
          rw [show (dBind w y.toNat x 1).toNat = R by rw [o'.2.2.1, Int.toNat_natCast]]
        rw [e3]
        exact HD (by unfold nBind; rw [if_pos q1, if_pos q2, if_neg q3]) _ (frm_le f (by omega)) ⟨N, R, T, o', r'⟩ nRp_nn
    · rw [if_neg q2, if_pos rfl, if_pos kk554, c_refuse]
      exact HR 2 x (by unfold nBind; rw [if_pos q1, if_neg q2]) (by decide)
  · rw [if_neg q1, if_pos rfl, if_pos kk554, c_refuse]
    exact HR 2 y (by unfold nBind; rw [if_neg q1]) (by decide)
theorem c_countOfF {c n : Nat} {k : Int} {f : Nat → Int} (hc : ewK c = 10) (wc : wlR h c f n) (KI KX) : eCi X m_X10_countOf [vR c, vI k] eNT e ewP h KI KX = KI (fCnt f k n) eNT e ewP h := by
  rw [c_countOf hc wc.2.2.1 wc.1]
  have : wCnt h c k n = fCnt f k n := by
    unfold wCnt fCnt
    refine sumF_congr n 0 (fun t _ ht => ?_)
    obtain ⟨t1, t2, t3, t4, t5⟩ := wc.2.2.2.2.2.2.2 t (by omega)
    rw [t1]
  rw [this]
theorem k_pullCoin {w : Nat → Int} {y : Int} (l : wR h 2 w) {KI KX} (HR : ∀ r z, nFish w y = (r, z) → r ≠ 0 → KI (-1) eNT e ewP (rfz h r z)) (HD : nFish w y = (0, 0) → ∀ h', frm 2 52 h h' → wR h' 2 (dFish w y.toNat) → 0 ≤ wW w (w (56 + 3 * y.toNat) - 1).toNat (7 + 4 * (wRch w y.toNat).toNat) → KI (wW w (w (56 + 3 * y.toNat) - 1).toNat (7 + 4 * (wRch w y.toNat).toNat)) eNT e ewP h') : eCi X m_X3_pullCoin [vR 554, vR 2, vI y] eNT e ewP h KI KX := by
  obtain ⟨N, R, T, o, r⟩ := l
  refine bk_X3_pullCoin_0 X 554 2 y eNT e ewP h _ ?_
  rw [if_pos (b11 kb2).1, c_ropeQ o r]
  by_cases q1 : 0 ≤ y ∧ y < w 1
  · have hyR : y.toNat < R := by have := o.2.2.1; omega
    have h3 := o.2.2.2.1
    have h8 := o.2.1
    have k0 := k8 (rpK (show y.toNat < 3 by omega))
    have rp := r.2.2.2.1 y.toNat hyR
    rw [show 2 + 43 + y.toNat = 45 + y.toNat by omega] at rp
    have oy := o.2.2.2.2.2.1 y.toNat hyR
    rw [if_pos q1, if_neg (by omega), if_pos k0, if_pos (b11 kb2).1, rp.2.1, c_wellQ o r]
    by_cases q2 : w (56 + 3 * y.toNat) - 1 < 0
    · rw [if_neg (show ¬ (0 ≤ w (56 + 3 * y.toNat) - 1 ∧ w (56 + 3 * y.toNat) - 1 < w 0) by omega), if_pos rfl, if_pos k0, if_pos kk554, rp.1, c_refuse]
      exact HR 7 _ (by unfold nFish; rw [if_pos q1, if_pos q2]) (by decide)
    · have hxN : (w (56 + 3 * y.toNat) - 1).toNat < N := by omega
      have hx8 : (w (56 + 3 * y.toNat) - 1).toNat < 8 := by omega
      have hkk := wlK hx8
      have wl := r.2.2.1 _ hxN
      rw [show 2 + 2 + 5 * (w (56 + 3 * y.toNat) - 1).toNat = 4 + 5 * (w (56 + 3 * y.toNat) - 1).toNat by omega] at wl
      have wo := o.2.2.2.2.1 _ hxN
      have eT := rOk_T o hxN
      have eR : rchF (wW w (w (56 + 3 * y.toNat) - 1).toNat) (T (w (56 + 3 * y.toNat) - 1).toNat) (w (55 + 3 * y.toNat)) 0 (T (w (56 + 3 * y.toNat) - 1).toNat) = wRch w y.toNat := by
        unfold wRch; rw [eT]
      rw [if_pos (show 0 ≤ w (56 + 3 * y.toNat) - 1 ∧ w (56 + 3 * y.toNat) - 1 < w 0 by have := o.1; omega), if_neg (by omega), if_pos k0, if_pos (w10 hkk).1, rp.1, c_uppermostCoin hkk wl, eR]
      by_cases q3 : wRch w y.toNat = -1
      · rw [if_pos q3, if_pos (w10 hkk).1, c_countOfF hkk wl, if_pos kk554, c_refuse]
        exact HR 8 _ (by unfold nFish; rw [if_pos q1, if_neg q2, if_pos q3, eT]) (by decide)
      · rcases rch_rng (f := wW w (w (56 + 3 * y.toNat) - 1).toNat) (n := T (w (56 + 3 * y.toNat) - 1).toNat) (len := w (55 + 3 * y.toNat)) with q4 | ⟨t, ht, q4, q5⟩
        · rw [eR] at q4; exact absurd q4 q3
        · rw [eR] at q4
          have et : (wRch w y.toNat).toNat = t := by rw [q4, Int.toNat_natCast]
          have ht5 : t < 5 := by have := wl.1; omega
          have ov := (wo.2.2.2.2 t ht).2.2.2.1 (by omega)
          rw [if_neg q3, if_pos (w10 hkk).1, q4, c_valueOf hkk ht5, (wl.2.2.2.2.2.2.2 t ht).2.2.1, if_pos (w10 hkk).1]
          refine w_remove hkk wl ht (fun h' f g => ?_)
          simp only [k0, (b11 kb2).1, ite_true]
          have f' : frm (2 + 2 + 5 * (w (56 + 3 * y.toNat) - 1).toNat) (2 + 2 + 5 * (w (56 + 3 * y.toNat) - 1).toNat + 5) h h' := by
            rw [show 2 + 2 + 5 * (w (56 + 3 * y.toNat) - 1).toNat = 4 + 5 * (w (56 + 3 * y.toNat) - 1).toNat by omega]; exact f
          rw [up_ne (by omega), f 2 (by omega), f _ (by omega), rp.2.2, r.2.2.2.2.2.2.2.2.2.2.2.1]
          have o1 := rOk_well o hxN (show wOk (rTake (wW w (w (56 + 3 * y.toNat) - 1).toNat) (wW w (w (56 + 3 * y.toNat) - 1).toNat 2).toNat t) (T (w (56 + 3 * y.toNat) - 1).toNat - 1) by rw [eT]; exact wOk_take wo ht)
          have r1 := wRel_well (g := rTake (wW w (w (56 + 3 * y.toNat) - 1).toNat) (wW w (w (56 + 3 * y.toNat) - 1).toNat 2).toNat t) r hxN o.2.1 o.2.2.2.1 f' (by rw [show 2 + 2 + 5 * (w (56 + 3 * y.toNat) - 1).toNat = 4 + 5 * (w (56 + 3 * y.toNat) - 1).toNat by omega, eT]; exact g)
          have e1 : rWell w (w (56 + 3 * y.toNat) - 1).toNat (rTake (wW w (w (56 + 3 * y.toNat) - 1).toNat) (wW w (w (56 + 3 * y.toNat) - 1).toNat 2).toNat t) = dTake w (w (56 + 3 * y.toNat) - 1).toNat t := rfl
          rw [e1] at o1 r1
          have lo : ∀ k, k ≠ 57 + 3 * y.toNat → rSet (dTake w (w (56 + 3 * y.toNat) - 1).toNat t) (57 + 3 * y.toNat) (wr (w (57 + 3 * y.toNat) + 1)) k = dTake w (w (56 + 3 * y.toNat) - 1).toNat t k := fun k hk => by unfold rSet; rw [if_neg hk]
          have f2 : frm (2 + 43) (2 + 46) h' (up h' (45 + y.toNat) 2 (wr (w (57 + 3 * y.toNat) + 1))) := frm_up frm_rfl (by omega)
          have r2 := wRel_rop (w' := rSet (dTake w (w (56 + 3 * y.toNat) - 1).toNat t) (57 + 3 * y.toNat) (wr (w (57 + 3 * y.toNat) + 1))) r1 h8 h3 f2 (fun k hk => lo k (by omega)) (fun s hs => by
            have rs := r1.2.2.2.1 s hs
            unfold rpR at rs ⊢
            by_cases e2 : s = y.toNat
            · subst e2
              rw [show 2 + 43 + y.toNat = 45 + y.toNat by omega] at rs ⊢
              rw [lo _ (by omega), lo _ (by omega), up_nk (by omega), up_nk (by omega), up_eq]
              exact ⟨rs.1, rs.2.1, by unfold rSet; rw [if_pos rfl]⟩
            · rw [up_ne (by omega), lo _ (by omega), lo _ (by omega), lo _ (by omega)]
              exact rs)
          have o2 := rOk_rop (w' := rSet (dTake w (w (56 + 3 * y.toNat) - 1).toNat t) (57 + 3 * y.toNat) (wr (w (57 + 3 * y.toNat) + 1))) o1 (fun k hk => lo k (by omega)) (fun s hs => by
            rw [lo _ (by omega), lo _ (by omega)]
            exact o1.2.2.2.2.2.1 s hs)
          have r3 := wRel_fished (v := wr (w 7 + wW w (w (56 + 3 * y.toNat) - 1).toNat (7 + 4 * t))) r2
          have o3 := rOk_lo (w' := rSet (rSet (dTake w (w (56 + 3 * y.toNat) - 1).toNat t) (57 + 3 * y.toNat) (wr (w (57 + 3 * y.toNat) + 1))) 7 (wr (w 7 + wW w (w (56 + 3 * y.toNat) - 1).toNat (7 + 4 * t)))) o2 (fun k hk => by unfold rSet; rw [if_neg (by omega)])
          rw [et] at HD
          have e4 : dFish w y.toNat = rSet (rSet (dTake w (w (56 + 3 * y.toNat) - 1).toNat t) (57 + 3 * y.toNat) (wr (w (57 + 3 * y.toNat) + 1))) 7 (wr (w 7 + wW w (w (56 + 3 * y.toNat) - 1).toNat (7 + 4 * t))) := by
            unfold dFish; rw [et]
          refine HD (by unfold nFish; rw [if_pos q1, if_neg q2, if_neg q3]) _ (frm_up (frm_tr f f2 (by omega : 2 ≤ _ ∧ _ ≤ 52 ∧ 2 ≤ 2 + 43 ∧ 2 + 46 ≤ 52)) (by omega)) ⟨N, R, _, by rw [e4]; exact o3, by rw [e4]; exact r3⟩ (by omega)
  · rw [if_neg q1, if_pos rfl, if_pos kk554, c_refuse]
    exact HR 2 y (by unfold nFish; rw [if_neg q1]) (by decide)
theorem k_sendDown {w : Nat → Int} {x : Int} {m : Nat} {M : List Int} (l : wR h 2 w) (hm : ewK m = 4) (hm2 : 560 ≤ m) (lm : lR h m M) (h8M : M.length ≤ 8) (hch : lCh h 558) {KI KX} (HR : ∀ r y, nShout w x M.length = (r, y) → r ≠ 0 → KI (-1) eNT e ewP (rfz h r y)) (HD : nShout w x M.length = (0, 0) → ∀ h', kfr h h' → h' 555 = h 555 → h' 556 = h 556 → lCh h' 558 → wR h' 2 (dShout w x.toNat M) → 0 ≤ gSh w x.toNat M → KI (gSh w x.toNat M) eNT e ewP h') : eCi X m_X3_sendDown [vR 554, vR 2, vI x, vR m] eNT e ewP h KI KX := by
  obtain ⟨N, R, T, o, r⟩ := l
  refine bk_X3_sendDown_0 X 554 2 x m eNT e ewP h _ ?_
  rw [if_pos (b11 kb2).1, c_wellQ o r]
  by_cases q1 : 0 ≤ x ∧ x < w 0
  · have hxN : x.toNat < N := by have := o.1; omega
    have h8 := o.2.1
    have h3 := o.2.2.2.1
    have hkk := wlK (show x.toNat < 8 by omega)
    have wl := r.2.2.1 x.toNat hxN
    rw [show 2 + 2 + 5 * x.toNat = 4 + 5 * x.toNat by omega] at wl
    have wo := o.2.2.2.2.1 x.toNat hxN
    have eT := rOk_T o hxN
    rw [if_pos q1, if_neg (by omega), if_pos (l4 hm).1, c_size1 hm lm]
    by_cases q2 : M.length = 0
    · rw [if_pos (by omega), if_pos (b11 kb2).1, if_pos kk554, r.2.2.2.2.2.1, c_refuse]
      exact HR 9 _ (by unfold nShout; rw [if_pos q1, if_pos q2]) (by decide)
    · rw [if_neg (by omega)]
      simp only [kk554, kp2, kk557, ite_true]
      refine w_go kl557 hkk hm (by omega) (by omega) wo wl lm (by omega) hch (fun h1 f1 b1 y1 => ?_)
      simp only [kk554, kp2, kk557, ite_true]
      have tb := fTime_b wo
      rw [c_gradeFor kl557 hm y1 (lR_frm f1 (by omega) lm) (by omega), if_pos (w10 hkk).1]
      have eg : grd M.length (eEc (wW w x.toNat) (T x.toNat) M).length (fTime (wW w x.toNat) (T x.toNat)) = gSh w x.toNat M := by unfold gSh; rw [eT]
      rw [eg]
      refine w_setFrogs hkk (wlR_frm f1 (by omega) wl) (fun h2 f2 q3 => ?_)
      simp only [(w10 hkk).1, kk554, (b11 kb2).1, kp2, ite_true]
      obtain ⟨c0, c1, c2, c3, c4, c5, c6, c7⟩ := q3
      rw [up_nk (show 8 ≠ 7 by decide), c5, c6, rFrg_o (by omega), rFrg_o (by omega)]
      have f3 : frm (4 + 5 * x.toNat) (4 + 5 * x.toNat + 5) h2 (up (up h2 (4 + 5 * x.toNat) 7 (wr (wW w x.toNat 3 + 1))) (4 + 5 * x.toNat) 8 (wr (wW w x.toNat 4 + gSh w x.toNat M))) := frm_up (frm_up frm_rfl (by omega)) (by omega)
      have f23 := frm_tr f2 f3 (show 4 + 5 * x.toNat ≤ 4 + 5 * x.toNat ∧ 4 + 5 * x.toNat + 5 ≤ 4 + 5 * x.toNat + 5 ∧ 4 + 5 * x.toNat ≤ 4 + 5 * x.toNat ∧ 4 + 5 * x.toNat + 5 ≤ 4 + 5 * x.toNat + 5 by omega)
      have w3 : wlR (up (up h2 (4 + 5 * x.toNat) 7 (wr (wW w x.toNat 3 + 1))) (4 + 5 * x.toNat) 8 (wr (wW w x.toNat 4 + gSh w x.toNat M))) (4 + 5 * x.toNat) (fSh (wW w x.toNat) (T x.toNat) (gSh w x.toNat M)) (T x.toNat) := by
        refine ⟨c0, by rw [fSh_o (by omega) (by omega)]; exact c1, by rw [up_nk (by omega), up_nk (by omega)]; exact c2, by rw [up_nk (by omega), up_nk (by omega), fSh_o (by omega) (by omega)]; exact c3, by rw [up_nk (by omega), up_nk (by omega), fSh_o (by omega) (by omega)]; exact c4, ?_, ?_, fun t ht => ?_⟩
        · rw [up_nk (by omega), up_eq]; unfold fSh; rw [if_pos rfl]
        · rw [up_eq]; unfold fSh; rw [if_neg (by omega), if_pos rfl]
        · have := c7 t ht
          unfold thR at this ⊢
          rw [up_ne (by omega), up_ne (by omega), up_ne (by omega), up_ne (by omega), up_ne (by omega), up_ne (by omega), up_ne (by omega), up_ne (by omega), fSh_o (by omega) (by omega), fSh_o (by omega) (by omega), fSh_o (by omega) (by omega), fSh_o (by omega) (by omega)]
          exact this
      have f23' : frm (2 + 2 + 5 * x.toNat) (2 + 2 + 5 * x.toNat + 5) h1 (up (up h2 (4 + 5 * x.toNat) 7 (wr (wW w x.toNat 3 + 1))) (4 + 5 * x.toNat) 8 (wr (wW w x.toNat 4 + gSh w x.toNat M))) := by
        rw [show 2 + 2 + 5 * x.toNat = 4 + 5 * x.toNat by omega]; exact f23
      have r1 := wRel_well (g := fSh (wW w x.toNat) (T x.toNat) (gSh w x.toNat M)) (wRel_frm f1 h8 h3 (by omega) r) hxN h8 h3 f23' (by rw [show 2 + 2 + 5 * x.toNat = 4 + 5 * x.toNat by omega]; exact w3)
      have o1 := rOk_well o hxN (wOk_sh (g := gSh w x.toNat M) wo)
      have lm3 := lR_frm f23 (by omega) (lR_frm f1 (by omega) lm)
      have we := @w_enter X e (up (up h2 (4 + 5 * x.toNat) 7 (wr (wW w x.toNat 3 + 1))) (4 + 5 * x.toNat) 8 (wr (wW w x.toNat 4 + gSh w x.toNat M))) 2 m 557 N R _ _ x.toNat (gSh w x.toNat M) M _ _ _ _ kb2 hm kl557 (by omega) (by omega) h8 h3 r1 ?_ ?_ lm3 (yR_frm f23 (by omega) y1)
      · rw [show ((x.toNat : Nat) : Int) = x by omega] at we
        refine we (fun h' f4 r4 => ?_)
        have e5 : dShout w x.toNat M = rEnt (rWell w x.toNat (fSh (wW w x.toNat) (T x.toNat) (gSh w x.toNat M))) x.toNat M.length (eEc (wW w x.toNat) (T x.toNat) M) (M.length + fFrg (wW w x.toNat) 1 (T x.toNat) - (eEc (wW w x.toNat) (T x.toNat) M).length) (fFrg (wW w x.toNat) 1 (T x.toNat)) (fTime (wW w x.toNat) (T x.toNat)) (gSh w x.toNat M) := by
          unfold dShout; rw [eT]
        have f14 : ∀ c, (c < 2 ∨ 52 ≤ c) → (c < 557 ∨ 560 ≤ c) → h' c = h c := by
          intro c h5 h6
          rw [f4 c (by omega), f23 c (by omega), f1 c (by omega)]
        refine HD (by unfold nShout; rw [if_pos q1, if_neg q2]) h' (fun c h5 h6 => f14 c h5 (by omega)) (f14 _ (by omega) (by omega)) (f14 _ (by omega) (by omega)) ?_ ⟨N, R, _, ?_, by rw [e5]; exact r4⟩ ?_
        · unfold lCh
          rw [f4 _ (by omega), f23 _ (by omega)]
          exact y1.1.2.2.2
        · rw [e5]
          obtain ⟨p1, p2, p3, p4, p5, p6, p7, p8⟩ := o1
          have hi : ∀ k, 55 ≤ k → rEnt (rWell w x.toNat (fSh (wW w x.toNat) (T x.toNat) (gSh w x.toNat M))) x.toNat M.length (eEc (wW w x.toNat) (T x.toNat) M) (M.length + fFrg (wW w x.toNat) 1 (T x.toNat) - (eEc (wW w x.toNat) (T x.toNat) M).length) (fFrg (wW w x.toNat) 1 (T x.toNat)) (fTime (wW w x.toNat) (T x.toNat)) (gSh w x.toNat M) k = rWell w x.toNat (fSh (wW w x.toNat) (T x.toNat) (gSh w x.toNat M)) k := fun k hk => by unfold rEnt; rw [if_pos hk]
          refine ⟨?_, p2, ?_, p4, fun s hs => wOk_congr (fun j hj => (hi _ (by omega)).symm) (p5 s hs), fun s hs => by rw [hi _ (by omega), hi _ (by omega)]; exact p6 s hs, ?_, ?_⟩
          · exact p1
          · exact p3
          · show 0 ≤ (if _ < 6 then _ + 1 else _) ∧ (if _ < 6 then _ + 1 else _) ≤ 6
            split <;> omega
          · show (0 : Int) ≤ ((eEc (wW w x.toNat) (T x.toNat) M).length : Nat) ∧ ((eEc (wW w x.toNat) (T x.toNat) M).length : Int) ≤ 13
            have := eEc_len wo (M := M)
            omega
        · unfold gSh
          rw [eT]
          exact (grd_b tb.1).1
      · have := eEc_len wo (M := M)
        omega
      · rw [rWell_o (by omega)]
        exact o.2.2.2.2.2.2.1
  · rw [if_neg q1, if_pos rfl, if_pos kk554, c_refuse]
    exact HR 2 x (by unfold nShout; rw [if_neg q1]) (by decide)
end
