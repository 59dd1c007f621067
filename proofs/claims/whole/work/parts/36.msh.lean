/-! the reference: a shout, its whole -/
section
variable {X : eX} {e : Nat} {h : Nat → Nat → Int} {N R : Nat} {T : Nat → Nat}
theorem rPg_w {w : Nat → Int} {i m s : Nat} {E : List Int} {time g : Int} : wW (rPg w i m E time g) s = wW w s := by
  funext z
  unfold wW rPg
  rw [if_pos (by omega)]
theorem rPg_l {w : Nat → Int} {i m z : Nat} {E : List Int} {time g : Int} (hz : z < 10) : rPg w i m E time g z = w z := by
  unfold rPg
  rw [if_neg (by omega), if_pos (by omega)]
def W6 (P : Nat → Int) (a2 a3 a4 a5 a6 a9 : Int) : Nat → Int := rSet (rSet (rSet (rSet (rSet (rSet P 2 a2) 3 a3) 4 a4) 5 a5) 6 a6) 9 a9
theorem W6_o {P : Nat → Int} {a2 a3 a4 a5 a6 a9 : Int} {z : Nat} (hz : 10 ≤ z) : W6 P a2 a3 a4 a5 a6 a9 z = P z := by
  unfold W6
  rw [rSet_ne (by omega), rSet_ne (by omega), rSet_ne (by omega), rSet_ne (by omega), rSet_ne (by omega), rSet_ne (by omega)]
set_option maxRecDepth 8000 in
theorem m_shouts {i n : Nat} {M : List Int} (hi : i < 8) (ok : wOk (wW (h 578) i) n) (h10 : 0 ≤ h 578 10 ∧ h 578 10 ≤ 6) (ls : sR h M) {KI KX} (H : ∀ h', mfr [578, 584] [19, 20] h h' → h' 578 = dShout (h 578) i M → KI (gSh (h 578) i M) eNT e ewP h') : eCi X m_X13_shouts [vR 577, vI (i : Int)] eNT e ewP h KI KX := by
  have h5 := ok.1
  have f2 := ok.2.1
  have hM := ls.2.1
  have en : (wW (h 578) i 2).toNat = n := by rw [f2, Int.toNat_natCast]
  have eg : grd M.length (eEc (wW (h 578) i) n M).length (fTime (wW (h 578) i) n) = gSh (h 578) i M := by unfold gSh; rw [en]
  have el := eEc_len ok (M := M)
  refine bk_X13_shouts_0 X 577 i eNT e ewP h _ ?_
  rw [if_pos mk577]
  refine m_sounds hi rfl ok ls (fun h1 f1 e1 => ?_)
  have e578 : h1 578 = h 578 := f1.1 578 (by decide) (by decide)
  obtain ⟨c1, c2, c3, c4⟩ := e1
  have h17 : h1 577 17 = (M.length : Int) := by rw [f1.2 17 (by decide)]; exact ls.1
  rw [if_pos mk577, m_gradeOf (n := n) hi (by rw [e578]) ok h17 c1 (by omega) (by omega), eg, if_pos mk577, m_writesPage (n := n) hi (by omega) (by rw [e578]; exact ok) h17 c1 c4 (by rw [e578]; exact h10)]
  rw [e578]
  generalize hP : rPg (h 578) i M.length (eEc (wW (h 578) i) n M) (fTime (wW (h 578) i) n) (gSh (h 578) i M) = P
  have Pw : wW P i = wW (h 578) i := by rw [← hP]; exact rPg_w
  have Pl : ∀ z, z < 10 → P z = h 578 z := fun z hz => by rw [← hP]; exact rPg_l hz
  have mc : ∀ a b c KI KX, eCi X m_X13_countThings [vR 577, vI (i : Int), vI 1, vI 1] eNT e ewP (rw8 h1 (rSet (rSet (rSet P 2 a) 3 b) 4 c)) KI KX = KI (fFrg (wW (h 578) i) 1 n) eNT e ewP (rw8 h1 (rSet (rSet (rSet P 2 a) 3 b) 4 c)) := by
    intro a b c KI KX
    have w3 : wW (rSet (rSet (rSet P 2 a) 3 b) 4 c) i = wW (h 578) i := by
      rw [← Pw]
      funext z
      unfold wW
      rw [rSet_ne (by omega), rSet_ne (by omega), rSet_ne (by omega)]
    rw [m_countThings (n := n) hi (by rw [rw8_s, w3]; exact f2) h5, rw8_s, w3, mCt_a ok]
  have w6 : ∀ a2 a3 a4 a5 a6 a9, wW (rSet (rSet (rSet (rSet (rSet (rSet P 2 a2) 3 a3) 4 a4) 5 a5) 6 a6) 9 a9) i = wW (h 578) i := by
    intro a2 a3 a4 a5 a6 a9
    rw [← Pw]
    funext z
    exact W6_o (by omega)
  have mo3 : ∀ a2 a3 a4 a5 a6 a9 KI KX, eCi X m_X13_of [vR 577, vI (i : Int), vI 3] eNT e ewP (rw8 h1 (rSet (rSet (rSet (rSet (rSet (rSet P 2 a2) 3 a3) 4 a4) 5 a5) 6 a6) 9 a9)) KI KX = KI (wW (h 578) i 3) eNT e ewP (rw8 h1 (rSet (rSet (rSet (rSet (rSet (rSet P 2 a2) 3 a3) 4 a4) 5 a5) 6 a6) 9 a9)) := by
    intro a2 a3 a4 a5 a6 a9 KI KX
    rw [m_of hi (by decide), rw8_s, w6]
    rfl
  have mo4 : ∀ a2 a3 a4 a5 a6 a9 v KI KX, eCi X m_X13_of [vR 577, vI (i : Int), vI 4] eNT e ewP (rw8 h1 (rSet (rSet (rSet (rSet (rSet (rSet (rSet P 2 a2) 3 a3) 4 a4) 5 a5) 6 a6) 9 a9) (64 + 25 * i + 3) v)) KI KX = KI (wW (h 578) i 4) eNT e ewP (rw8 h1 (rSet (rSet (rSet (rSet (rSet (rSet (rSet P 2 a2) 3 a3) 4 a4) 5 a5) 6 a6) 9 a9) (64 + 25 * i + 3) v)) := by
    intro a2 a3 a4 a5 a6 a9 v KI KX
    rw [m_of hi (by decide), rw8_s]
    have : wW (rSet (rSet (rSet (rSet (rSet (rSet (rSet P 2 a2) 3 a3) 4 a4) 5 a5) 6 a6) 9 a9) (64 + 25 * i + 3) v) i (4 : Int).toNat = wW (h 578) i 4 := by
      rw [← w6 a2 a3 a4 a5 a6 a9]
      unfold wW
      rw [rSet_ne (by show 64 + 25 * i + 4 ≠ 64 + 25 * i + 3; omega)]
      rfl
    rw [this]
  have e0 : (577 : Nat) ≠ 578 := by decide
  have t2 : (2 : Int).toNat = 2 := rfl
  have t3 : (3 : Int).toNat = 3 := rfl
  have t4 : (4 : Int).toNat = 4 := rfl
  have t5 : (5 : Int).toNat = 5 := rfl
  have t6 : (6 : Int).toNat = 6 := rfl
  have t9 : (9 : Int).toNat = 9 := rfl
  have n32 : ∀ (w : Nat → Int) v, rSet w 2 v 3 = w 3 := fun w v => rSet_ne (by decide)
  have n42 : ∀ (w : Nat → Int) v, rSet w 2 v 4 = w 4 := fun w v => rSet_ne (by decide)
  have n43 : ∀ (w : Nat → Int) v, rSet w 3 v 4 = w 4 := fun w v => rSet_ne (by decide)
  have n52 : ∀ (w : Nat → Int) v, rSet w 2 v 5 = w 5 := fun w v => rSet_ne (by decide)
  have n53 : ∀ (w : Nat → Int) v, rSet w 3 v 5 = w 5 := fun w v => rSet_ne (by decide)
  have n54 : ∀ (w : Nat → Int) v, rSet w 4 v 5 = w 5 := fun w v => rSet_ne (by decide)
  have n62 : ∀ (w : Nat → Int) v, rSet w 2 v 6 = w 6 := fun w v => rSet_ne (by decide)
  have n63 : ∀ (w : Nat → Int) v, rSet w 3 v 6 = w 6 := fun w v => rSet_ne (by decide)
  have n64 : ∀ (w : Nat → Int) v, rSet w 4 v 6 = w 6 := fun w v => rSet_ne (by decide)
  have n65 : ∀ (w : Nat → Int) v, rSet w 5 v 6 = w 6 := fun w v => rSet_ne (by decide)
  have n92 : ∀ (w : Nat → Int) v, rSet w 2 v 9 = w 9 := fun w v => rSet_ne (by decide)
  have n93 : ∀ (w : Nat → Int) v, rSet w 3 v 9 = w 9 := fun w v => rSet_ne (by decide)
  have n94 : ∀ (w : Nat → Int) v, rSet w 4 v 9 = w 9 := fun w v => rSet_ne (by decide)
  have n95 : ∀ (w : Nat → Int) v, rSet w 5 v 9 = w 9 := fun w v => rSet_ne (by decide)
  have n96 : ∀ (w : Nat → Int) v, rSet w 6 v 9 = w 9 := fun w v => rSet_ne (by decide)
  simp only [mk577, mk578, mk579, mk580, mk581, mk582, mk583, mk584, mk585, mk586, mk587, mn578, mn579, mn580, mn581, mn582, mn583, mn584, mn585, mn586, mn587, mp578, mp579, mp580, mp581, mp582, mp583, mp584, mp585, mp586, mp587, ite_true, true_and, and_true, rw8_up8, rw8_s, rw8_o e0, n32, n42, n43, n52, n53, n54, n62, n63, n64, n65, n92, n93, n94, n95, n96, h17, c1, c3, Pl 2 (by decide), Pl 3 (by decide), Pl 4 (by decide), Pl 5 (by decide), Pl 6 (by decide), Pl 9 (by decide), t2, t3, t4, t5, t6, t9, mc, mo3, mo4, m_sets hi (show (0 : Int) ≤ 3 ∧ (3 : Int) < 25 by decide), m_sets hi (show (0 : Int) ≤ 4 ∧ (4 : Int) < 25 by decide)]
  rw [if_pos (by decide), if_pos (by decide), if_pos (by decide), if_pos (by decide), if_pos (by decide), if_pos (by decide), if_pos (by decide), if_pos (by decide), if_pos (by decide), if_pos (by decide), if_pos (by decide), if_pos (by decide)]
  generalize hW : rSet (rSet (rSet (rSet (rSet (rSet (rSet (rSet P 2 (wr (h 578 2 + 1))) 3 (wr (h 578 3 + M.length))) 4 (wr (h 578 4 + (M.length + fFrg (wW (h 578) i) 1 n - (eEc (wW (h 578) i) n M).length)))) 5 (wr (h 578 5 + fFrg (wW (h 578) i) 1 n))) 6 (wr (h 578 6 + (eEc (wW (h 578) i) n M).length))) 9 (wr (h 578 9 + gSh (h 578) i M))) (64 + 25 * i + 3) (wr (wW (h 578) i 3 + 1))) (64 + 25 * i + 4) (wr (wW (h 578) i 4 + gSh (h 578) i M)) = W
  have Wl : ∀ z, z < 64 → W z = (if z = 9 then wr (h 578 9 + gSh (h 578) i M) else if z = 6 then wr (h 578 6 + (eEc (wW (h 578) i) n M).length) else if z = 5 then wr (h 578 5 + fFrg (wW (h 578) i) 1 n) else if z = 4 then wr (h 578 4 + (M.length + fFrg (wW (h 578) i) 1 n - (eEc (wW (h 578) i) n M).length)) else if z = 3 then wr (h 578 3 + M.length) else if z = 2 then wr (h 578 2 + 1) else P z) := by
    intro z hz
    rw [← hW, rSet_ne (by omega), rSet_ne (by omega)]
    rfl
  have Wh : ∀ z, 64 ≤ z → W z = (if z = 64 + 25 * i + 4 then wr (wW (h 578) i 4 + gSh (h 578) i M) else if z = 64 + 25 * i + 3 then wr (wW (h 578) i 3 + 1) else h 578 z) := by
    intro z hz
    have e9 : rSet (rSet (rSet (rSet (rSet (rSet P 2 (wr (h 578 2 + 1))) 3 (wr (h 578 3 + M.length))) 4 (wr (h 578 4 + (M.length + fFrg (wW (h 578) i) 1 n - (eEc (wW (h 578) i) n M).length)))) 5 (wr (h 578 5 + fFrg (wW (h 578) i) 1 n))) 6 (wr (h 578 6 + (eEc (wW (h 578) i) n M).length))) 9 (wr (h 578 9 + gSh (h 578) i M)) z = h 578 z := by
      have := W6_o (P := P) (a2 := wr (h 578 2 + 1)) (a3 := wr (h 578 3 + M.length)) (a4 := wr (h 578 4 + (M.length + fFrg (wW (h 578) i) 1 n - (eEc (wW (h 578) i) n M).length))) (a5 := wr (h 578 5 + fFrg (wW (h 578) i) 1 n)) (a6 := wr (h 578 6 + (eEc (wW (h 578) i) n M).length)) (a9 := wr (h 578 9 + gSh (h 578) i M)) (z := z) (by omega)
      refine this.trans ?_
      rw [← hP]
      unfold rPg
      rw [if_pos (by omega)]
    rw [← hW]
    unfold rSet at e9 ⊢
    by_cases a1 : z = 64 + 25 * i + 4
    · rw [if_pos a1, if_pos a1]
    · rw [if_neg a1, if_neg a1]
      by_cases a2 : z = 64 + 25 * i + 3
      · rw [if_pos a2, if_pos a2]
      · rw [if_neg a2, if_neg a2]
        exact e9
  have W2 : wW W i 2 = (n : Int) := by
    unfold wW
    rw [Wh _ (by omega), if_neg (by omega), if_neg (by omega)]
    exact f2
  have r0 : rFl W i 0 = W := by
    funext z
    unfold rFl
    rw [if_neg (by omega)]
  have key := lp_fl (X := X) (e := e) (h := h1) (g := gSh (h 578) i M) hi h5 n 0 W (by omega) W2
  rw [r0] at key
  refine key _ ?_
  refine H _ ⟨fun c h2 h3 => ?_, fun k hk => ?_⟩ ?_
  · rw [rw8_o (fun q => h2 (by rw [q]; decide))]
    exact f1.1 c (fun q => h2 (by simp at q ⊢; exact Or.inr q)) h3
  · rw [rw8_o e0]
    exact f1.2 k hk
  · rw [rw8_s]
    unfold dShout
    rw [en]
    funext z
    by_cases z64 : z < 64
    · have l1 : rFl W i n z = W z := by unfold rFl; rw [if_neg (by omega)]
      have l2 : ∀ k, k < 64 → rWell (h 578) i (fSh (wW (h 578) i) n (gSh (h 578) i M)) k = h 578 k := fun k hk => rWell_o (by omega)
      rw [l1, Wl z z64]
      unfold rEnt
      rw [l2 2 (by omega), l2 3 (by omega), l2 4 (by omega), l2 5 (by omega), l2 6 (by omega), l2 9 (by omega), l2 10 (by omega), l2 z z64, l2 (z - 5) (by omega)]
      rw [← hP]
      unfold rPg
      repeat' split
      all_goals first | rfl | omega
    · have l3 : rEnt (rWell (h 578) i (fSh (wW (h 578) i) n (gSh (h 578) i M))) i M.length (eEc (wW (h 578) i) n M) (M.length + fFrg (wW (h 578) i) 1 n - (eEc (wW (h 578) i) n M).length) (fFrg (wW (h 578) i) 1 n) (fTime (wW (h 578) i) n) (gSh (h 578) i M) z = rWell (h 578) i (fSh (wW (h 578) i) n (gSh (h 578) i M)) z := by
        unfold rEnt
        rw [if_pos (by omega)]
      rw [l3]
      by_cases a0 : 64 + 25 * i ≤ z ∧ z < 89 + 25 * i
      · obtain ⟨j, hj⟩ : ∃ j, z = 64 + 25 * i + j := ⟨z - (64 + 25 * i), by omega⟩
        have l4 : rWell (h 578) i (fSh (wW (h 578) i) n (gSh (h 578) i M)) z = fSh (wW (h 578) i) n (gSh (h 578) i M) j := by
          rw [hj]
          exact rWell_s (by omega)
        rw [l4]
        unfold rFl
        rw [Wh z (by omega)]
        unfold fSh rFrg
        by_cases a1 : j = 3
        · rw [if_neg (by omega), if_neg (by omega), if_pos (by omega), if_pos a1]
        · rw [if_neg a1]
          by_cases a2 : j = 4
          · rw [if_neg (by omega), if_pos (by omega), if_pos a2]
          · rw [if_neg a2]
            by_cases a3 : 8 ≤ j ∧ j < 5 + 4 * n ∧ j % 4 = 0
            · rw [if_pos (by omega), if_pos a3, if_pos rfl]
            · rw [if_neg (by omega), if_neg a3, if_neg (by omega), if_neg (by omega), hj]
              rfl
      · rw [rWell_o (by omega)]
        unfold rFl
        rw [if_neg (by omega), Wh z (by omega), if_neg (by omega), if_neg (by omega)]
end
