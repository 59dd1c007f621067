/-! a well is told -/
def ktr (k : Int) : Int := if k = 0 then 99 else if k = 1 then 102 else 109
/-- a thing's signs after those of L -/
def thA (f : Nat → Int) (t : Nat) (L : List Int) : List Int := ((((L ++ [32]) ++ [ktr (f (5 + 4 * t))]) ++ (if f (5 + 4 * t) = 1 then [if f (8 + 4 * t) = 0 then f (7 + 4 * t) else f (7 + 4 * t) - 32] else dgt (f (7 + 4 * t)))) ++ [64]) ++ dgt (f (6 + 4 * t))
theorem dgt_le (v : Int) : (dgt v).length ≤ 2 := by
  unfold dgt
  split <;> simp
theorem thA_le (f : Nat → Int) (t : Nat) (L : List Int) : (thA f t L).length ≤ L.length + 7 := by
  have d1 := dgt_le (f (6 + 4 * t))
  have d2 := dgt_le (f (7 + 4 * t))
  unfold thA
  simp only [List.length_append, List.length_cons, List.length_nil]
  split
  · simp only [List.length_cons, List.length_nil]; omega
  · omega
def tlF (f : Nat → Int) : Nat → Nat → List Int → List Int
  | _, 0, L => L
  | t, k + 1, L => tlF f (t + 1) k (thA f t L)
theorem tlF_le (f : Nat → Int) : ∀ (k t : Nat) (L : List Int), (tlF f t k L).length ≤ L.length + 7 * k := by
  intro k
  induction k with
  | zero => intro t L; exact Nat.le_refl _
  | succ k ih =>
    intro t L
    have := ih (t + 1) (thA f t L)
    have := thA_le f t L
    simp only [tlF]
    omega
def btS (f : Nat → Int) : Int := if f 1 = 0 then 115 else if f 1 = 1 then 119 else 109
def tWl (f : Nat → Int) : List Int := tlF f 0 (f 2).toNat (dgt (f 0) ++ [btS f])
section
variable {X : eX} {e : Nat} {h : Nat → Nat → Int} {w : Nat → Int} {c : Nat} {U : Nat → Nat → Int} {b : Bool} {r : Nat → Int} {k1 k2 : Int × Int} {W I L : List Int} {f : Int} {N R : Nat} {T : Nat → Nat}
theorem c_tellThing {d t n : Nat} {g : Nat → Int} (hd : ewK d = 10) (wl : wlR h d g n) (wo : wOk g n) (ht : t < n) (d5 : d + 5 ≤ 575) (l : lR h 575 L) (hL : L.length ≤ 50) {KV KX} (H : ∀ h', frm 575 577 h h' → lR h' 575 (thA g t L) → KV eNT e ewP h') : eCv X m_X12_tellThing [vR 1, vR d, vI (t : Int)] eNT e ewP h KV KX := by
  refine bk_X12_tellThing_0 X 1 d t eNT e ewP h _ ?_
  have kd := (w10 hd).1
  have t5 : t < 5 := by have := wo.1; omega
  obtain ⟨t1, t2, t3, t4, t6⟩ := wl.2.2.2.2.2.2.2 t ht
  obtain ⟨o1, o2, o3, o4, o5, o6⟩ := wo.2.2.2.2 t ht
  have oD := wo.2.2.1
  have dl := dgt_le (g (7 + 4 * t))
  simp only [ck1, ck2, ck52, ck102, ck554, ck560, ck566, ck569, ck571, ck573, ck575, ck567, cp0, cp1, cp2, cp3, cp4, cp5, cp6, cp7, cp8, cp9, cy566, ite_true, true_and, and_true, kd]
  rw [c_kindOf hd t5, t1, if_pos kd, c_valueOf hd t5, t3, if_pos ck1, cp9, if_pos ck575]
  refine w_put cl575 l (by omega) (by decide) (fun h1 f1 l1 => ?_)
  rw [if_pos ck1, cp9]
  by_cases a0 : g (5 + 4 * t) = 0
  · have a1 : ¬ g (5 + 4 * t) = 1 := by omega
    rw [if_pos a0]
    rw [if_pos ck575]
    refine w_put cl575 l1 (by simp only [List.length_append, List.length_cons, List.length_nil]; omega) (by decide) (fun h2 f2 l2 => ?_)
    rw [if_neg a1, if_pos ck1, cp9, if_pos ck575]
    refine w_putNumber cl575 l2 (by simp only [List.length_append, List.length_cons, List.length_nil]; omega) (by have := o4 a1; omega) (fun h3 f3 l3 => ?_)
    rw [if_pos ck1, cp9, if_pos ck575]
    refine w_put cl575 l3 (by simp only [List.length_append, List.length_cons, List.length_nil]; omega) (by decide) (fun h4 f4 l4 => ?_)
    rw [if_pos ck1, if_pos kd, c_depthOf hd t5, show h4 (d + 2) t = g (6 + 4 * t) by rw [f4 (d + 2) (by omega), f3 (d + 2) (by omega), f2 (d + 2) (by omega), f1 (d + 2) (by omega)]; exact t2, cp9, if_pos ck575]
    refine w_putNumber cl575 l4 (by simp only [List.length_append, List.length_cons, List.length_nil]; omega) (by omega) (fun h5 f5 l5 => ?_)
    exact H h5 (frm_tr (a := 575) (b := 577) f1 (frm_tr (a := 575) (b := 577) f2 (frm_tr (a := 575) (b := 577) f3 (frm_tr (a := 575) (b := 577) f4 f5 (by omega)) (by omega)) (by omega)) (by omega)) (by unfold thA ktr; rw [if_pos a0, if_neg a1]; exact l5)
  · rw [if_neg a0]
    by_cases a1 : g (5 + 4 * t) = 1
    · rw [if_pos a1]
      rw [if_pos ck575]
      refine w_put cl575 l1 (by simp only [List.length_append, List.length_cons, List.length_nil]; omega) (by decide) (fun h2 f2 l2 => ?_)
      rw [if_pos a1, if_pos ck1, if_pos kd, c_isAwake hd t5, show h2 (d + 4) t = g (8 + 4 * t) by rw [f2 (d + 4) (by omega), f1 (d + 4) (by omega)]; exact t4]
      have ov := o3 a1
      by_cases z : g (8 + 4 * t) = 0
      · rw [if_pos z, if_pos rfl, cp9, if_pos ck575, Int.emod_eq_of_lt (by omega) (by omega)]
        refine w_put cl575 l2 (by simp only [List.length_append, List.length_cons, List.length_nil]; omega) (by omega) (fun h3 f3 l3 => ?_)
        rw [if_pos ck1, cp9, if_pos ck575]
        refine w_put cl575 l3 (by simp only [List.length_append, List.length_cons, List.length_nil]; omega) (by decide) (fun h4 f4 l4 => ?_)
        rw [if_pos ck1, if_pos kd, c_depthOf hd t5, show h4 (d + 2) t = g (6 + 4 * t) by rw [f4 (d + 2) (by omega), f3 (d + 2) (by omega), f2 (d + 2) (by omega), f1 (d + 2) (by omega)]; exact t2, cp9, if_pos ck575]
        refine w_putNumber cl575 l4 (by simp only [List.length_append, List.length_cons, List.length_nil]; omega) (by omega) (fun h5 f5 l5 => ?_)
        exact H h5 (frm_tr (a := 575) (b := 577) f1 (frm_tr (a := 575) (b := 577) f2 (frm_tr (a := 575) (b := 577) f3 (frm_tr (a := 575) (b := 577) f4 f5 (by omega)) (by omega)) (by omega)) (by omega)) (by unfold thA ktr; rw [if_neg a0, if_pos a1, if_pos a1, if_pos z]; exact l5)
      · rw [if_neg z, if_neg (by decide), cp9, if_pos ck575, wrn (x := g (7 + 4 * t) - 97) (by omega) (by omega), wrn (by omega) (by omega), show g (7 + 4 * t) - 97 + 65 = g (7 + 4 * t) - 32 by omega, Int.emod_eq_of_lt (by omega) (by omega)]
        refine w_put cl575 l2 (by simp only [List.length_append, List.length_cons, List.length_nil]; omega) (by omega) (fun h3 f3 l3 => ?_)
        rw [if_pos ck1, cp9, if_pos ck575]
        refine w_put cl575 l3 (by simp only [List.length_append, List.length_cons, List.length_nil]; omega) (by decide) (fun h4 f4 l4 => ?_)
        rw [if_pos ck1, if_pos kd, c_depthOf hd t5, show h4 (d + 2) t = g (6 + 4 * t) by rw [f4 (d + 2) (by omega), f3 (d + 2) (by omega), f2 (d + 2) (by omega), f1 (d + 2) (by omega)]; exact t2, cp9, if_pos ck575]
        refine w_putNumber cl575 l4 (by simp only [List.length_append, List.length_cons, List.length_nil]; omega) (by omega) (fun h5 f5 l5 => ?_)
        exact H h5 (frm_tr (a := 575) (b := 577) f1 (frm_tr (a := 575) (b := 577) f2 (frm_tr (a := 575) (b := 577) f3 (frm_tr (a := 575) (b := 577) f4 f5 (by omega)) (by omega)) (by omega)) (by omega)) (by unfold thA ktr; rw [if_neg a0, if_pos a1, if_pos a1, if_neg z]; exact l5)
    · rw [if_neg a1]
      rw [if_pos ck575]
      refine w_put cl575 l1 (by simp only [List.length_append, List.length_cons, List.length_nil]; omega) (by decide) (fun h2 f2 l2 => ?_)
      rw [if_neg a1, if_pos ck1, cp9, if_pos ck575]
      refine w_putNumber cl575 l2 (by simp only [List.length_append, List.length_cons, List.length_nil]; omega) (by have := o4 a1; omega) (fun h3 f3 l3 => ?_)
      rw [if_pos ck1, cp9, if_pos ck575]
      refine w_put cl575 l3 (by simp only [List.length_append, List.length_cons, List.length_nil]; omega) (by decide) (fun h4 f4 l4 => ?_)
      rw [if_pos ck1, if_pos kd, c_depthOf hd t5, show h4 (d + 2) t = g (6 + 4 * t) by rw [f4 (d + 2) (by omega), f3 (d + 2) (by omega), f2 (d + 2) (by omega), f1 (d + 2) (by omega)]; exact t2, cp9, if_pos ck575]
      refine w_putNumber cl575 l4 (by simp only [List.length_append, List.length_cons, List.length_nil]; omega) (by omega) (fun h5 f5 l5 => ?_)
      exact H h5 (frm_tr (a := 575) (b := 577) f1 (frm_tr (a := 575) (b := 577) f2 (frm_tr (a := 575) (b := 577) f3 (frm_tr (a := 575) (b := 577) f4 f5 (by omega)) (by omega)) (by omega)) (by omega)) (by unfold thA ktr; rw [if_neg a0, if_neg a1, if_neg a1]; exact l5)
theorem m_writesNumber {v : Int} (l : lnR h L) (hL : L.length < 59) (hv : 0 ≤ v ∧ v < 100) {KV KX} (H : ∀ h', mfr [585] [22] h h' → lnR h' (L ++ dgt v) → KV eNT e ewP h') : eCv X m_X13_writesNumber [vR 577, vI v] eNT e ewP h KV KX := by
  refine bk_X13_writesNumber_0 X 577 v eNT e ewP h _ ?_
  have e1 : v.tmod 10 = v % 10 := Int.tmod_eq_emod_of_nonneg hv.1
  have e2 : v.tdiv 10 = v / 10 := Int.tdiv_eq_ediv_of_nonneg hv.1
  rw [e1, e2, wrn (x := v / 10) (by omega) (by omega), wrn (x := 48 + v % 10) (by omega) (by omega), wrn (x := 48 + v / 10) (by omega) (by omega)]
  unfold dgt at H
  by_cases q : v < 10
  · rw [if_pos (show v ≤ 9 by omega), if_neg (by decide), if_pos mk577]
    rw [if_pos q] at H
    refine m_writes l (by omega) (by omega) (fun h' f l' => ?_)
    rw [show v % 10 = v from by omega] at l'
    exact H h' f l'
  · rw [if_neg (show ¬ v ≤ 9 by omega), if_neg (by decide), if_pos mk577]
    rw [if_neg q] at H
    refine m_writes l (by omega) (by omega) (fun h1 f1 l1 => ?_)
    rw [if_neg (by decide), if_pos mk577]
    refine m_writes l1 (by simp; omega) (by omega) (fun h' f l' => ?_)
    rw [List.append_assoc] at l'
    exact H h' (mfr_tr f1 f) l'
theorem m_writesThing {i t n : Nat} (hw : h 578 = w) (hi : i < 8) (wo : wOk (wW w i) n) (ht : t < n) (l : lnR h L) (hL : L.length ≤ 50) {KV KX} (H : ∀ h', mfr [585] [22] h h' → lnR h' (thA (wW w i) t L) → KV eNT e ewP h') : eCv X m_X13_writesThing [vR 577, vI (i : Int), vI (t : Int)] eNT e ewP h KV KX := by
  refine bk_X13_writesThing_0 X 577 i t eNT e ewP h _ ?_
  have t5 : t < 5 := by have := wo.1; omega
  obtain ⟨o1, o2, o3, o4, o5, o6⟩ := wo.2.2.2.2 t ht
  have oD := wo.2.2.1
  have dl := dgt_le (wW w i (7 + 4 * t))
  rw [if_pos mk577, m_is0 hi t5, if_pos mk577, m_is2 hi t5, if_pos mk577, hw]
  generalize hg : wW w i = g at *
  refine m_writes l (by omega) (by decide) (fun h1 f1 l1 => ?_)
  have g1 : h1 578 = w := by rw [f1.1 578 (by decide) (by decide)]; exact hw
  by_cases a0 : g (5 + 4 * t) = 0
  · have a1 : ¬ g (5 + 4 * t) = 1 := by omega
    rw [if_pos a0]
    rw [if_pos mk577]
    refine m_writes l1 (by simp only [List.length_append, List.length_cons, List.length_nil]; omega) (by decide) (fun h2 f2 l2 => ?_)
    have g2 : h2 578 = w := by rw [f2.1 578 (by decide) (by decide)]; exact g1
    have ov := o4 a1
    have dv : dgt (g (7 + 4 * t)) = [48 + g (7 + 4 * t)] := by unfold dgt; rw [if_pos (by omega)]
    rw [if_neg a1, if_pos mk577, wrn (x := 48 + g (7 + 4 * t)) (by omega) (by omega)]
    refine m_writes l2 (by simp only [List.length_append, List.length_cons, List.length_nil]; omega) (by omega) (fun h3 f3 l3 => ?_)
    rw [← dv] at l3
    have g3 : h3 578 = w := by rw [f3.1 578 (by decide) (by decide)]; exact g2
    rw [if_pos mk577]
    refine m_writes l3 (by simp only [List.length_append, List.length_cons, List.length_nil]; omega) (by decide) (fun h4 f4 l4 => ?_)
    have g4 : h4 578 = w := by rw [f4.1 578 (by decide) (by decide)]; exact g3
    rw [if_pos mk577, m_is1 hi t5, g4, hg, if_pos mk577]
    refine m_writesNumber l4 (by simp only [List.length_append, List.length_cons, List.length_nil]; omega) (by omega) (fun h5 f5 l5 => ?_)
    exact H h5 (mfr_tr f1 (mfr_tr f2 (mfr_tr f3 (mfr_tr f4 f5)))) (by unfold thA ktr; rw [if_pos a0, if_neg a1]; exact l5)
  · rw [if_neg a0]
    by_cases a1 : g (5 + 4 * t) = 1
    · rw [if_pos a1]
      rw [if_pos mk577]
      refine m_writes l1 (by simp only [List.length_append, List.length_cons, List.length_nil]; omega) (by decide) (fun h2 f2 l2 => ?_)
      have g2 : h2 578 = w := by rw [f2.1 578 (by decide) (by decide)]; exact g1
      have ov := o3 a1
      rw [if_pos a1, if_pos mk577, m_is3 hi t5, g2, hg]
      by_cases z : g (8 + 4 * t) = 0
      · rw [if_neg (show ¬ g (8 + 4 * t) = 1 by omega), if_pos mk577, Int.sub_zero, wrn (x := g (7 + 4 * t)) (by omega) (by omega)]
        refine m_writes l2 (by simp only [List.length_append, List.length_cons, List.length_nil]; omega) (by omega) (fun h3 f3 l3 => ?_)
        have g3 : h3 578 = w := by rw [f3.1 578 (by decide) (by decide)]; exact g2
        rw [if_pos mk577]
        refine m_writes l3 (by simp only [List.length_append, List.length_cons, List.length_nil]; omega) (by decide) (fun h4 f4 l4 => ?_)
        have g4 : h4 578 = w := by rw [f4.1 578 (by decide) (by decide)]; exact g3
        rw [if_pos mk577, m_is1 hi t5, g4, hg, if_pos mk577]
        refine m_writesNumber l4 (by simp only [List.length_append, List.length_cons, List.length_nil]; omega) (by omega) (fun h5 f5 l5 => ?_)
        exact H h5 (mfr_tr f1 (mfr_tr f2 (mfr_tr f3 (mfr_tr f4 f5)))) (by unfold thA ktr; rw [if_neg a0, if_pos a1, if_pos a1, if_pos z]; exact l5)
      · rw [if_pos (show g (8 + 4 * t) = 1 by omega), if_pos mk577, wrn (x := g (7 + 4 * t) - 32) (by omega) (by omega)]
        refine m_writes l2 (by simp only [List.length_append, List.length_cons, List.length_nil]; omega) (by omega) (fun h3 f3 l3 => ?_)
        have g3 : h3 578 = w := by rw [f3.1 578 (by decide) (by decide)]; exact g2
        rw [if_pos mk577]
        refine m_writes l3 (by simp only [List.length_append, List.length_cons, List.length_nil]; omega) (by decide) (fun h4 f4 l4 => ?_)
        have g4 : h4 578 = w := by rw [f4.1 578 (by decide) (by decide)]; exact g3
        rw [if_pos mk577, m_is1 hi t5, g4, hg, if_pos mk577]
        refine m_writesNumber l4 (by simp only [List.length_append, List.length_cons, List.length_nil]; omega) (by omega) (fun h5 f5 l5 => ?_)
        exact H h5 (mfr_tr f1 (mfr_tr f2 (mfr_tr f3 (mfr_tr f4 f5)))) (by unfold thA ktr; rw [if_neg a0, if_pos a1, if_pos a1, if_neg z]; exact l5)
    · rw [if_neg a1]
      rw [if_pos mk577]
      refine m_writes l1 (by simp only [List.length_append, List.length_cons, List.length_nil]; omega) (by decide) (fun h2 f2 l2 => ?_)
      have g2 : h2 578 = w := by rw [f2.1 578 (by decide) (by decide)]; exact g1
      have ov := o4 a1
      have dv : dgt (g (7 + 4 * t)) = [48 + g (7 + 4 * t)] := by unfold dgt; rw [if_pos (by omega)]
      rw [if_neg a1, if_pos mk577, wrn (x := 48 + g (7 + 4 * t)) (by omega) (by omega)]
      refine m_writes l2 (by simp only [List.length_append, List.length_cons, List.length_nil]; omega) (by omega) (fun h3 f3 l3 => ?_)
      rw [← dv] at l3
      have g3 : h3 578 = w := by rw [f3.1 578 (by decide) (by decide)]; exact g2
      rw [if_pos mk577]
      refine m_writes l3 (by simp only [List.length_append, List.length_cons, List.length_nil]; omega) (by decide) (fun h4 f4 l4 => ?_)
      have g4 : h4 578 = w := by rw [f4.1 578 (by decide) (by decide)]; exact g3
      rw [if_pos mk577, m_is1 hi t5, g4, hg, if_pos mk577]
      refine m_writesNumber l4 (by simp only [List.length_append, List.length_cons, List.length_nil]; omega) (by omega) (fun h5 f5 l5 => ?_)
      exact H h5 (mfr_tr f1 (mfr_tr f2 (mfr_tr f3 (mfr_tr f4 f5)))) (by unfold thA ktr; rw [if_neg a0, if_neg a1, if_neg a1]; exact l5)
end
