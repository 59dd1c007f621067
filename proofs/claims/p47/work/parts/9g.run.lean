/-! a text run: both sides -/
theorem rdAll_b {T : List Int} : ∀ (k q n : Nat), rdAll T k q = .inr n → 1 ≤ n ∧ n ≤ k := by
  intro k
  induction k with
  | zero => intro q n h; rw [rdAll] at h; cases h
  | succ k ih =>
    intro q n h
    rw [rdAll] at h
    cases ho : rdOrd T q with
    | inl f => rw [ho] at h; cases h
    | inr r =>
      obtain ⟨o, q1, ns, W⟩ := r
      rw [ho] at h
      dsimp only at h
      by_cases a : T.length ≤ q1
      · rw [if_pos a] at h; cases h; omega
      · rw [if_neg a] at h
        by_cases b : sg T q1 = 59
        · rw [if_pos b] at h
          cases hr : rdAll T k (q1 + 1) with
          | inl f => rw [hr] at h; cases h
          | inr m => rw [hr] at h; cases h; have := ih _ _ hr; omega
        · rw [if_neg b] at h; cases h
theorem ok_ct {T : List Int} : ∀ (n q i N : Nat) (w w' : Nat → Int), N + n < 100000 → rl T n q → okF T n q w → obF T n q i w = .inr w' → ctB N w → ctB (N + n) w' := by
  intro n
  induction n with
  | zero => intro q i N w w' _ _ _ h l; rw [obF] at h; cases h; exact l
  | succ n ih =>
    intro q i N w w' hN hrl hok h l
    obtain ⟨hq, o, q1, ns, W, ho, hn⟩ := rl_s hrl
    obtain ⟨in1, in2, in3, -, in5⟩ := (rdOrd_in hq).2 o q1 ns W ho
    obtain ⟨⟨N', R, S, ok⟩, hok2⟩ := hok
    rw [obF, ho] at h
    dsimp only at h
    by_cases hz : nO o ns W w = (0, 0)
    · rw [if_pos hz] at h
      have c1 : ctB (N + 1) (dO o ns W w) := ct_ord in1 ok in5 hz (by omega) l
      rw [show N + (n + 1) = N + 1 + n by omega]
      rcases hn with ⟨n0, -⟩ | ⟨-, -, hrl2⟩
      · subst n0
        rw [obF] at h
        cases h
        exact c1
      · exact ih (q1 + 1) (i + 1) (N + 1) _ w' (by omega) hrl2 (hok2 o q1 ns W ho hz) h c1
    · rw [if_neg hz] at h
      cases h
theorem cL_g {h h' : Nat → Nat → Int} {W I L : List Int} {f : Int} (q1 : h' 1 11 = h 1 11) (q : ∀ z, 566 ≤ z → z < 577 → h' z = h z) (k1 : lCh h' 561) (k3 : lCh h' 563) (l : cL h W I L f) : cL h' W I L f := by
  obtain ⟨l1, l2, l3, l4, l5, l6, l7, l8, l9⟩ := l
  exact ⟨lR_f (q _ (by omega) (by omega)) (q _ (by omega) (by omega)) l1, l2, lR_f (q _ (by omega) (by omega)) (q _ (by omega) (by omega)) l3, lR_f (q _ (by omega) (by omega)) (q _ (by omega) (by omega)) l4, lR_f (q _ (by omega) (by omega)) (q _ (by omega) (by omega)) l5, by rw [q1]; exact l6, k1, k3, lCh_f (q _ (by omega) (by omega)) l9⟩
theorem CI_run {h h' : Nat → Nat → Int} {w : Nat → Int} {c : Nat} {U : Nat → Nat → Int} {b : Bool} {r : Nat → Int} {k1 k2 : Int × Int} {W I L : List Int} {f f' : Int} (q : ∀ z, z ≠ 1 → z < 577 → (z < 560 ∨ 566 ≤ z) → z ≠ 573 → z ≠ 574 → h' z = h z) (q10 : h' 1 10 = h 1 10) (q11 : h' 1 11 = f') (l73 : lR h' 573 []) (l61 : lCh h' 561) (l63 : lCh h' 563) (l : CI h w c U b r k1 k2 W I L f) : CI h' w c U b r k1 k2 W [] L f' := by
  obtain ⟨p1, p2, p3, p4, l1, l2, l3, l4, l5, l6, l7, l8, l9⟩ := l
  exact ⟨wR_f (fun z _ _ => q z (by omega) (by omega) (by omega) (by omega) (by omega)) p1, cH_f (fun z _ _ => q z (by omega) (by omega) (by omega) (by omega) (by omega)) p2, cV_f q10 (fun z _ _ => q z (by omega) (by omega) (by omega) (by omega) (by omega)) p3, cK_f (fun z _ _ => q z (by omega) (by omega) (by omega) (by omega) (by omega)) p4, lR_f (q _ (by omega) (by omega) (by omega) (by omega) (by omega)) (q _ (by omega) (by omega) (by omega) (by omega) (by omega)) l1, l2, lR_f (q _ (by omega) (by omega) (by omega) (by omega) (by omega)) (q _ (by omega) (by omega) (by omega) (by omega) (by omega)) l3, l73, lR_f (q _ (by omega) (by omega) (by omega) (by omega) (by omega)) (q _ (by omega) (by omega) (by omega) (by omega) (by omega)) l5, q11, l61, l63, lCh_f (q _ (by omega) (by omega) (by omega) (by omega) (by omega)) l9⟩
section
variable {X : eX} {e : Nat} {h : Nat → Nat → Int} {w : Nat → Int} {c : Nat} {U : Nat → Nat → Int} {b : Bool} {r : Nat → Int} {k1 k2 : Int × Int} {W I L : List Int} {f : Int}
theorem c_run (l : CI h w c U b r k1 k2 W I L f) {KI KX} (HF : ∀ f', rdAll I 60 0 = .inl f' → ∀ h', (∀ z, 577 ≤ z → h' z = h z) → CI h' w c U b r k1 k2 W [] L ((f' : Nat) : Int) → KX 2 eNT (e + 1) ewP h') (HR : ∀ n j x y, rdAll I 60 0 = .inr n → obF I n 0 0 w = .inl (j, x, y) → okF I n 0 w → x ≠ 0 → ∀ h', (∀ z, 577 ≤ z → h' z = h z) → CI h' w c U b r (10, ((j : Nat) : Int)) (x, y) W [] L (-1) → KX 1 eNT (e + 1) ewP h') (HD : ∀ n w', rdAll I 60 0 = .inr n → obF I n 0 0 w = .inr w' → okF I n 0 w → ∀ h', (∀ z, 577 ≤ z → h' z = h z) → CI h' w' (pC c) (pU2 c U w) b r k1 k2 W [] L (-1) → KI ((n : Nat) : Int) eNT e ewP h') : eCi X m_X12_run [vR 1] eNT e ewP h KI KX := by
  refine bk_X12_run_0 X 1 eNT e ewP h _ ?_
  have l5 := l.2.2.2.2
  rw [if_pos ck1, if_pos ck1, cp4, cp8, if_pos ck560]
  refine c_countOrders l5.2.2.2.1 l5.2.2.2.2.2.2.1 l5.2.2.2.2.2.2.2.1 (fun f' hf h1 f1 s1 lW1 => ?_) (fun n hn h1 f1 lT1 lW1 => ?_)
  · rw [if_pos ck1, cp8, if_pos ck573]
    refine w_clear cl573 (lCh_f (f1 _ (by omega)) l5.2.2.2.1.2.2.2) (fun h2 f2 g2 => ?_)
    rw [if_pos rfl, if_pos ck1, cp4, if_pos ck560, if_pos ck1, if_pos rfl]
    have e4 : h2 560 4 = (f' : Int) := by rw [f2 560 (by omega)]; exact s1.2
    rw [e4]
    refine HF f' hf _ (fun z hz => by rw [up_ne (by omega), f2 z (by omega), f1 z (by omega)]) (CI_run (fun z z1 z2 z3 z4 z5 => by rw [up_ne z1, f2 z (by omega), f1 z (by omega)]) (by rw [up_nk (by omega), f2 1 (by omega), f1 1 (by omega)]) up_eq (lR_f (up_ne (by omega)) (up_ne (by omega)) g2) (lCh_f (by rw [up_ne (by omega), f2 _ (by omega)]) s1.1.2.2.2) (lCh_f (by rw [up_ne (by omega), f2 _ (by omega)]) lW1) l)
  · have nb := rdAll_b _ _ _ hn
    have i60 := l5.2.2.2.1.2.1
    rw [if_pos ck1, cp8, if_pos ck573]
    refine w_clear cl573 (lCh_f (f1 _ (by omega)) l5.2.2.2.1.2.2.2) (fun h2 f2 g2 => ?_)
    rw [if_neg (by omega), if_pos ck1, if_neg (by omega), if_pos ck1, if_pos ck1, cp2, if_pos ck102, cp0]
    have l3 : CI (up h2 1 11 (-1)) w c U b r k1 k2 W [] L (-1) := CI_run (fun z z1 z2 z3 z4 z5 => by rw [up_ne z1, f2 z (by omega), f1 z (by omega)]) (by rw [up_nk (by omega), f2 1 (by omega), f1 1 (by omega)]) up_eq (lR_f (up_ne (by omega)) (up_ne (by omega)) g2) (lCh_f (by rw [up_ne (by omega), f2 _ (by omega)]) lT1.2.2.2) (lCh_f (by rw [up_ne (by omega), f2 _ (by omega)]) lW1) l
    have lT3 : lR (up h2 1 11 (-1)) 561 I := lR_f (by rw [up_ne (by omega), f2 _ (by omega)]) (by rw [up_ne (by omega), f2 _ (by omega)]) lT1
    have o3 : ∀ z, 577 ≤ z → (up h2 1 11 (-1)) z = h z := fun z hz => by rw [up_ne (by omega), f2 z (by omega), f1 z (by omega)]
    generalize (up h2 1 11 (-1)) = h3 at l3 lT3 o3 ⊢
    refine w_lookI l3 (fun h4 s hs n1 hh f4 g4 l4 => ?_)
    rw [if_pos ck1]
    obtain ⟨m1, m2, m3, m4, m5⟩ := l4
    have lT4 : lR h4 561 I := lR_f (f4 _ (by omega)) (f4 _ (by omega)) lT3
    have n14 : h4 102 1 = (s : Int) := by rw [f4 _ (by omega)]; exact n1
    refine c_areObeyed i60 hn (by omega) lT4 m5.2.2.2.2.2.2.2.1 m4.2.2.2.2 m1 (fun j x y hb hok hx0 h5 w5 f5 g5 b1 b2 b3 b4 q1 q2 q3 => ?_) (fun w' hb hok h5 f5 g5 e4 e5 q1 q2 q3 => ?_)
    · rw [if_pos rfl, if_pos ck1, if_pos ck1, cp2, if_pos ck102, cp0]
      refine w_takeBack hs (by rw [f5 102 (by omega) (by omega)]; exact n14) (wR_f (fun z z1 z2 => f5 z (by omega) (by omega)) g4) g5 (fun h6 f6 g6 => ?_)
      refine HR n j x y hn hb hok hx0 h6 (fun z hz => by rw [f6 z (by omega), f5 z (by omega) (by omega), f4 z (by omega), o3 z hz]) ⟨g6, cH_f (fun z z1 z2 => by rw [f6 z (by omega), f5 z (by omega) (by omega)]) m2, cV_f (by rw [f6 1 (by omega), f5 1 (by omega) (by omega)]) (fun z z1 z2 => by rw [f6 z (by omega), f5 z (by omega) (by omega)]) m3, ⟨by rw [f6 _ (by omega)]; exact b1, fun _ => by rw [f6 _ (by omega)]; exact b2, by rw [f6 _ (by omega)]; exact b3, fun _ => by rw [f6 _ (by omega)]; exact b4, lCh_f (f6 _ (by omega)) q1⟩, cL_g (by rw [f6 1 (by omega), f5 1 (by omega) (by omega)]) (fun z z1 z2 => by rw [f6 z (by omega), f5 z (by omega) (by omega)]) (lCh_f (f6 _ (by omega)) q2) (lCh_f (f6 _ (by omega)) q3) m5⟩
    · rw [if_neg (by decide), if_pos ck1, cp2, if_pos ck102]
      have n2 : h5 102 2 = (c : Int) := by rw [f5 _ (by omega) (by omega)]; exact m2.2.1
      have n1' : h5 102 1 = (s : Int) := by rw [f5 _ (by omega) (by omega)]; exact n14
      rw [c_keep hs m2.1 n1' n2]
      have fin : ∀ z, z ≠ 102 → (up (up h5 102 1 (((s + 1) % 9 : Nat) : Int)) 102 2 ((if c < 8 then c + 1 else 8 : Nat) : Int)) z = h5 z := fun z hz => by rw [up_ne hz, up_ne hz]
      refine HD n w' hn hb hok _ (fun z hz => by rw [fin z (by omega), f5 z (by omega) (by omega), f4 z (by omega), o3 z hz]) ⟨wR_f (fun z z1 z2 => fin z (by omega)) g5, ?_, ?_, ?_, ?_⟩
      · refine cH_keep (h := h4) m2.1 hs hh m2.2.2.2 g4 ?_ ?_ (fun z z1 z2 => by rw [fin z (by omega), f5 z (by omega) (by omega)])
        · rw [up_nk (by omega), up_eq]
        · rw [up_eq]; rfl
      · exact cV_f (by rw [fin 1 (by omega), f5 1 (by omega) (by omega)]) (fun z z1 z2 => by rw [fin z (by omega), f5 z (by omega) (by omega)]) m3
      · obtain ⟨k1', k2', k3', k4', k5'⟩ := m4
        unfold cK
        rw [fin 555 (by omega), fin 556 (by omega), e4, e5]
        exact ⟨k1', k2', k3', k4', lCh_f (fin _ (by omega)) q1⟩
      · exact cL_g (by rw [fin 1 (by omega), f5 1 (by omega) (by omega)]) (fun z z1 z2 => by rw [fin z (by omega), f5 z (by omega) (by omega)]) (lCh_f (fin _ (by omega)) q2) (lCh_f (fin _ (by omega)) q3) m5
end
