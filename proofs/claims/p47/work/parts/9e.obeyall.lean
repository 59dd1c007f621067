/-! orders done one after the other: the class -/
def nO (o : Nat) (ns W : List Int) (w : Nat → Int) : Int × Int := nOrd o w (ns.getD 0 0) (ns.getD 1 0) (ns.getD 2 0) W.length
def dO (o : Nat) (ns W : List Int) (w : Nat → Int) : Nat → Int := dOrd o w (ns.getD 0 0) (ns.getD 1 0) (ns.getD 2 0) W
def obF (T : List Int) : Nat → Nat → Nat → (Nat → Int) → (Nat × Int × Int) ⊕ (Nat → Int)
  | 0, _, _, w => .inr w
  | n + 1, q, i, w => match rdOrd T q with
    | .inl _ => .inr w
    | .inr (o, q1, ns, W) => if nO o ns W w = (0, 0) then obF T n (q1 + 1) (i + 1) (dO o ns W w) else .inl (i, (nO o ns W w).1, (nO o ns W w).2)
def okF (T : List Int) : Nat → Nat → (Nat → Int) → Prop
  | 0, _, _ => True
  | n + 1, q, w => (∃ N R S, rOk w N R S) ∧ ∀ o q1 ns W, rdOrd T q = .inr (o, q1, ns, W) → nO o ns W w = (0, 0) → okF T n (q1 + 1) (dO o ns W w)
def rl (T : List Int) (n q : Nat) : Prop := n = 0 ∨ (q ≤ T.length ∧ ∃ k, rdAll T k q = .inr n)
theorem rl_s {T : List Int} {n q : Nat} (l : rl T (n + 1) q) : q ≤ T.length ∧ ∃ o q1 ns W, rdOrd T q = .inr (o, q1, ns, W) ∧ ((n = 0 ∧ sg T q1 ≠ 59) ∨ (n ≠ 0 ∧ sg T q1 = 59 ∧ rl T n (q1 + 1))) := by
  rcases l with l | ⟨hq, k, hk⟩
  · omega
  refine ⟨hq, ?_⟩
  cases k with
  | zero => rw [rdAll] at hk; cases hk
  | succ k =>
    rw [rdAll] at hk
    cases ho : rdOrd T q with
    | inl f => rw [ho] at hk; cases hk
    | inr r =>
      obtain ⟨o, q1, ns, W⟩ := r
      rw [ho] at hk
      dsimp only at hk
      refine ⟨o, q1, ns, W, rfl, ?_⟩
      by_cases a : T.length ≤ q1
      · rw [if_pos a] at hk
        cases hk
        refine Or.inl ⟨rfl, fun z => ?_⟩
        have := sg_in (T := T) (q := q1) (by omega)
        omega
      · rw [if_neg a] at hk
        by_cases b : sg T q1 = 59
        · rw [if_pos b] at hk
          cases hr : rdAll T k (q1 + 1) with
          | inl f => rw [hr] at hk; cases hk
          | inr m =>
            rw [hr] at hk
            cases hk
            refine Or.inr ⟨?_, b, Or.inr ⟨by omega, k, hr⟩⟩
            intro z
            subst z
            cases k with
            | zero => rw [rdAll] at hr; cases hr
            | succ k =>
              rw [rdAll] at hr
              cases ho2 : rdOrd T (q1 + 1) with
              | inl f => rw [ho2] at hr; cases hr
              | inr r2 =>
                obtain ⟨o2, q2, ns2, W2⟩ := r2
                rw [ho2] at hr
                dsimp only at hr
                by_cases a2 : T.length ≤ q2
                · rw [if_pos a2] at hr; cases hr
                · rw [if_neg a2] at hr
                  by_cases b2 : sg T q2 = 59
                  · rw [if_pos b2] at hr
                    cases hr2 : rdAll T k (q2 + 1) with
                    | inl f => rw [hr2] at hr; cases hr
                    | inr m => rw [hr2] at hr; cases hr
                  · rw [if_neg b2] at hr; cases hr
        · rw [if_neg b] at hk; cases hk
/-- what may be another behind an order -/
def afr (h h' : Nat → Nat → Int) : Prop := ∀ c, (c < 2 ∨ 52 ≤ c) → (c < 554 ∨ 566 ≤ c) → h' c = h c
theorem afr_rfl {h : Nat → Nat → Int} : afr h h := fun _ _ _ => rfl
theorem afr_tr {h h1 h2 : Nat → Nat → Int} (a : afr h h1) (b : afr h1 h2) : afr h h2 := fun c q1 q2 => by rw [b c q1 q2, a c q1 q2]
theorem afr_r {h h1 : Nat → Nat → Int} (a : frm 560 566 h h1) : afr h h1 := fun c q1 q2 => a c (by omega)
theorem afr_k {h h1 : Nat → Nat → Int} (a : kfr h h1) : afr h h1 := fun c q1 q2 => a c q1 (by omega)
theorem rfz_0 {h : Nat → Nat → Int} {r d : Int} : rfz h r d 555 0 = r := by unfold rfz; rw [up_ne (by omega), up_ne (by omega), up_nk (by omega), up_eq]
theorem rfz_1 {h : Nat → Nat → Int} {r d : Int} : rfz h r d 555 1 = d := by unfold rfz; rw [up_ne (by omega), up_ne (by omega), up_eq]
theorem rfz_o {h : Nat → Nat → Int} {r d : Int} {c : Nat} (q : c ≠ 555) (q2 : c ≠ 556) : rfz h r d c = h c := by unfold rfz; rw [up_ne q2, up_ne q2, up_ne q, up_ne q]
section
variable {X : eX} {e : Nat} {h : Nat → Nat → Int} {T : List Int} {ns W : List Int}
theorem c_num0 (l : rN h ns W) (KI KX) : eCi X m_X6_numberAt [vR 560, vI 0] eNT e ewP h KI KX = KI (ns.getD 0 0) eNT e ewP h := c_numberAt (i := 0) l (by decide) KI KX
theorem c_num1 (l : rN h ns W) (KI KX) : eCi X m_X6_numberAt [vR 560, vI 1] eNT e ewP h KI KX = KI (ns.getD 1 0) eNT e ewP h := c_numberAt (i := 1) l (by decide) KI KX
theorem c_num2 (l : rN h ns W) (KI KX) : eCi X m_X6_numberAt [vR 560, vI 2] eNT e ewP h KI KX = KI (ns.getD 2 0) eNT e ewP h := c_numberAt (i := 2) l (by decide) KI KX
theorem lp_obey (h60 : T.length ≤ 60) : ∀ (n i q : Nat) (h : Nat → Nat → Int) (w : Nat → Int) (s3 s4 s5 : eV), i + n ≤ 100 → rl T n q → rS h T q → lCh h 563 → lCh h 558 → wR h 2 w → ((s3 = vJ ∧ s4 = vJ) ∨ ∃ x y, s3 = vI x ∧ s4 = vI y) → ∀ Q, (∀ j x y, obF T n q i w = .inl (j, x, y) → okF T n q w → x ≠ 0 → ∀ h' w', afr h h' → wR h' 2 w' → h' 555 0 = 10 → h' 555 1 = ((j : Nat) : Int) → h' 556 0 = x → h' 556 1 = y → lCh h' 558 → lCh h' 561 → lCh h' 563 → Q (.inl (some (vI 0))) (eNT, e, ewP, h')) → (∀ w', obF T n q i w = .inr w' → okF T n q w → ∀ h', afr h h' → wR h' 2 w' → h' 555 = h 555 → h' 556 = h 556 → lCh h' 558 → lCh h' 561 → lCh h' 563 → Q (.inl (some (vI 1))) (eNT, e, ewP, h')) → eP X m_X12_areObeyed 5 [vR 1, vI ((i + n : Nat) : Int), vI (i : Int), s3, s4, s5] [] (eNT, e, ewP, h) Q := by
  intro n
  induction n with
  | zero =>
    intro i q h w s3 s4 s5 hi _ l lW lK lw hs Q HR HD
    have K : Q (.inl (some (vI 1))) (eNT, e, ewP, h) := HD w rfl trivial h afr_rfl lw rfl rfl lK l.1.2.2.2 lW
    rcases hs with ⟨rfl, rfl⟩ | ⟨x, y, rfl, rfl⟩
    · refine bk_X12_areObeyed_5 X 1 _ i s5 eNT e ewP h Q ?_
      rw [if_neg (by omega), if_pos (by decide)]
      exact K
    · refine bk_X12_areObeyed_5b X 1 _ i x y s5 eNT e ewP h Q ?_
      rw [if_neg (by omega), if_pos (by decide)]
      exact K
  | succ n ih =>
    intro i q h w s3 s4 s5 hi hrl l lW lK lw hs Q HR HD
    obtain ⟨hq, o, q1, ns, W, ho, hn⟩ := rl_s hrl
    obtain ⟨in1, in2, in3, -, in5⟩ := (rdOrd_in hq).2 o q1 ns W ho
    obtain ⟨N, R, S, ok, -⟩ := id lw
    have nO1 : ∀ x y, nO o ns W w = (x, y) → x ≠ 0 → obF T (n + 1) q i w = .inl (i, x, y) := by
      intro x y hx hx0
      rw [obF, ho]
      dsimp only
      rw [if_neg (by rw [hx]; intro z; exact hx0 (congrArg Prod.fst z)), hx]
    have nO2 : nO o ns W w = (0, 0) → obF T (n + 1) q i w = obF T n (q1 + 1) (i + 1) (dO o ns W w) := by
      intro hx
      rw [obF, ho]
      dsimp only
      rw [if_pos hx]
    have ok1 : (nO o ns W w = (0, 0) → okF T n (q1 + 1) (dO o ns W w)) → okF T (n + 1) q w := by
      intro hk
      refine ⟨⟨N, R, S, ok⟩, fun o' q1' ns' W' ho' hz => ?_⟩
      rw [ho] at ho'
      cases ho'
      exact hk hz
    have G : ∀ h1, frm 560 566 h h1 → rS h1 T q1 → rN h1 ns W → h1 560 5 = ((1010 + o : Nat) : Int) → ∀ (KX : Nat → Nat → Nat → (Nat → Nat → Nat) → (Nat → Nat → Int) → Prop) (KZ : Nat → Nat → Nat → (Nat → Nat → Nat) → (Nat → Nat → Int) → Prop) (KY : Nat → Nat → Nat → (Nat → Nat → Nat) → (Nat → Nat → Int) → Prop), eCi X m_X3_obey [vR 554, vR 2, vR (1010 + o), vI (ns.getD 0 0), vI (ns.getD 1 0), vI (ns.getD 2 0), vR 563] eNT e ewP h1 (fun r5 n5 e5 p5 h5 => if r5 = (-1) then if kn ewK n5 1 = 12 then if kn ewK n5 (p5 1 3) = 3 then eCv X m_X3_refuseOrder [vR (p5 1 3), vI (i : Int)] n5 e5 p5 h5 (fun n7 e7 p7 h7 => if (0 : Int) = 0 ∨ (0 : Int) = 1 then Q (.inl (some (vI 0))) (n7, e7, p7, h7) else False) KZ else False else False else if kn ewK n5 1 = 12 then if kn ewK n5 (p5 1 4) = 6 then eCi X m_X6_readSign [vR (p5 1 4), vI 59] n5 e5 p5 h5 (fun r6 n6 e6 p6 h6 => eP X m_X12_areObeyed 5 [vR 1, vI ((i + (n + 1) : Nat) : Int), vI (wr ((i : Int) + 1)), vI (ns.getD 0 0), vI (ns.getD 1 0), vI (ns.getD 2 0)] [] (n6, e6, p6, h6) Q) KY else False else False) KX := by
      intro h1 f1 s1 n1 o1 KX KZ KY
      have lw1 : wR h1 2 w := wR_f (fun z z1 z2 => f1 z (by omega)) lw
      have lK1 : lCh h1 558 := lCh_f (f1 _ (by omega)) lK
      refine k_obey in1 lw1 rk563 (by decide) n1.2.2.2 in5 lK1 (fun x y hx hx0 => ?_) (fun hz h2 f2 e1 e2 hch g2 nn => ?_)
      · rw [if_pos rfl, if_pos ck1, cp3, if_pos kk554, k_refuseOrder, if_pos (by decide)]
        have oo : ∀ z, z ≠ 555 → z ≠ 556 → (up (up (up (up (rfz h1 x y) 556 0 (rfz h1 x y 555 0)) 556 1 (rfz h1 x y 555 1)) 555 0 10) 555 1 (i : Int)) z = h1 z := fun z z1 z2 => by rw [up_ne z1, up_ne z1, up_ne z2, up_ne z2, rfz_o z1 z2]
        refine HR i x y (nO1 x y hx hx0) (ok1 (fun z => absurd (congrArg Prod.fst (hx.symm.trans z)) hx0)) hx0 _ w (fun c z1 z2 => by rw [oo c (by omega) (by omega), f1 c (by omega)]) (wR_f (fun z z1 z2 => oo z (by omega) (by omega)) lw1) ?_ up_eq ?_ ?_ (lCh_f (oo _ (by omega) (by omega)) lK1) (lCh_f (oo _ (by omega) (by omega)) s1.1.2.2.2) (lCh_f (oo _ (by omega) (by omega)) n1.2.2.2.2.2.2)
        · rw [up_nk (by omega), up_eq]
        · rw [up_ne (by omega), up_ne (by omega), up_nk (by omega), up_eq, rfz_0]
        · rw [up_ne (by omega), up_ne (by omega), up_eq, rfz_1]
      · have s2 : rS h2 T q1 := ⟨lR_f (f2 _ (by omega) (by omega)) (f2 _ (by omega) (by omega)) s1.1, by rw [f2 560 (by omega) (by omega)]; exact s1.2⟩
        have lW2 : lCh h2 563 := lCh_f (f2 _ (by omega) (by omega)) n1.2.2.2.2.2.2
        rw [if_neg (by omega), if_pos ck1, cp4, if_pos ck560, c_readSign s2 (by omega)]
        have e3 : wr ((i : Int) + 1) = ((i + 1 : Nat) : Int) := wi1 (by omega)
        have a1 : afr h h2 := afr_tr (afr_r f1) (afr_k f2)
        have hz' : nO o ns W w = (0, 0) := hz
        rw [nO2 hz'] at HR HD
        rcases hn with ⟨n0, hne⟩ | ⟨n0, heq, hrl2⟩
        · rw [if_neg hne, e3]
          subst n0
          have R := ih (i + 1) q1 h2 (dO o ns W w) (vI (ns.getD 0 0)) (vI (ns.getD 1 0)) (vI (ns.getD 2 0)) (by omega) (Or.inl rfl) s2 lW2 hch g2 (Or.inr ⟨_, _, rfl, rfl⟩) Q (fun j x y hb => by cases hb) (fun w' hb _ h3 f3 g3 e4 e5 k1 k2 k3 => HD w' hb (ok1 (fun _ => trivial)) h3 (afr_tr a1 f3) g3 (by rw [e4, e1]; exact f1 _ (by omega)) (by rw [e5, e2]; exact f1 _ (by omega)) k1 k2 k3)
          exact R
        · rw [if_pos heq, e3]
          have R := ih (i + 1) (q1 + 1) _ (dO o ns W w) (vI (ns.getD 0 0)) (vI (ns.getD 1 0)) (vI (ns.getD 2 0)) (by omega) hrl2 (rS_p s2) (lCh_f (up_ne (by omega)) lW2) (lCh_f (up_ne (by omega)) hch) (wR_f (fun z z1 z2 => up_ne (by omega)) g2) (Or.inr ⟨_, _, rfl, rfl⟩) Q (fun j x y hb hok hx0 h3 w3 f3 g3 b1 b2 b3 b4 k1 k2 k3 => HR j x y hb (ok1 (fun _ => hok)) hx0 h3 w3 (afr_tr (afr_tr a1 (afr_r fr_p)) f3) g3 b1 b2 b3 b4 k1 k2 k3) (fun w' hb hok h3 f3 g3 e4 e5 k1 k2 k3 => HD w' hb (ok1 (fun _ => hok)) h3 (afr_tr (afr_tr a1 (afr_r fr_p)) f3) g3 (by rw [e4, up_ne (by omega), e1]; exact f1 _ (by omega)) (by rw [e5, up_ne (by omega), e2]; exact f1 _ (by omega)) k1 k2 k3)
          rw [show ((i + (n + 1) : Nat) : Int) = ((i + 1 + n : Nat) : Int) by omega]
          exact R
    rcases hs with ⟨rfl, rfl⟩ | ⟨x, y, rfl, rfl⟩
    · refine bk_X12_areObeyed_5 X 1 _ i s5 eNT e ewP h Q ?_
      rw [if_pos (by omega), if_pos ck1, cp4, if_pos ck560]
      refine c_readOrder l lW h60 hq (fun f hf => by rw [ho] at hf; cases hf) (fun o' q1' ns' W' ho' h1 f1 s1 n1 o1 => ?_)
      rw [ho] at ho'
      cases ho'
      rw [if_pos ck1, cp4, if_pos ck560, c_num0 n1, if_pos ck1, cp4, if_pos ck560, c_num1 n1, if_pos ck1, cp4, if_pos ck560, c_num2 n1, if_pos ck1, if_pos ck1, if_pos ck1, cp4, if_pos ck560, if_pos ck1, if_pos ck560, cp3, if_pos kk554, cp0, o1, Int.toNat_natCast, rq1]
      exact G h1 f1 s1 n1 o1 _ _ _
    · refine bk_X12_areObeyed_5b X 1 _ i x y s5 eNT e ewP h Q ?_
      rw [if_pos (by omega), if_pos ck1, cp4, if_pos ck560]
      refine c_readOrder l lW h60 hq (fun f hf => by rw [ho] at hf; cases hf) (fun o' q1' ns' W' ho' h1 f1 s1 n1 o1 => ?_)
      rw [ho] at ho'
      cases ho'
      rw [if_pos ck1, cp4, if_pos ck560, c_num0 n1, if_pos ck1, cp4, if_pos ck560, c_num1 n1, if_pos ck1, cp4, if_pos ck560, c_num2 n1, if_pos ck1, if_pos ck1, if_pos ck1, cp4, if_pos ck560, if_pos ck1, if_pos ck560, cp3, if_pos kk554, cp0, o1, Int.toNat_natCast, rq1]
      exact G h1 f1 s1 n1 o1 _ _ _
theorem c_areObeyed {n : Nat} {w : Nat → Int} (h60 : T.length ≤ 60) (hn : rdAll T 60 0 = .inr n) (n100 : n ≤ 100) (lT : lR h 561 T) (lW : lCh h 563) (lK : lCh h 558) (lw : wR h 2 w) {KI KX} (HR : ∀ j x y, obF T n 0 0 w = .inl (j, x, y) → okF T n 0 w → x ≠ 0 → ∀ h' w', afr h h' → wR h' 2 w' → h' 555 0 = 10 → h' 555 1 = ((j : Nat) : Int) → h' 556 0 = x → h' 556 1 = y → lCh h' 558 → lCh h' 561 → lCh h' 563 → KI 0 eNT e ewP h') (HD : ∀ w', obF T n 0 0 w = .inr w' → okF T n 0 w → ∀ h', afr h h' → wR h' 2 w' → h' 555 = h 555 → h' 556 = h 556 → lCh h' 558 → lCh h' 561 → lCh h' 563 → KI 1 eNT e ewP h') : eCi X m_X12_areObeyed [vR 1, vI (n : Int)] eNT e ewP h KI KX := by
  refine bk_X12_areObeyed_0 X 1 n eNT e ewP h _ ?_
  rw [if_pos ck1, cp4, if_pos ck560]
  refine bk_X6_rewind_0 X 560 eNT e ewP h _ ?_
  rw [if_pos ck560]
  have R := lp_obey (X := X) (e := e) h60 n 0 0 (up h 560 4 0) w vJ vJ vJ (by omega) (Or.inr ⟨Nat.zero_le _, 60, hn⟩) ⟨lR_f (up_ne (by omega)) (up_ne (by omega)) lT, up_eq⟩ (lCh_f (up_ne (by omega)) lW) (lCh_f (up_ne (by omega)) lK) (wR_f (fun z z1 z2 => up_ne (by omega)) lw) (Or.inl ⟨rfl, rfl⟩) (fun o μ => match o, μ with
    | .inl (some (.inl x)), (n, e, p, h) => KI x n e p h
    | .inr E, (n, e, p, h) => KX E n e p h
    | _, _ => False) (fun j x y hb hok hx0 h3 w3 f3 g3 b1 b2 b3 b4 k1 k2 k3 => HR j x y hb hok hx0 h3 w3 (afr_tr (afr_r fr_p) f3) g3 b1 b2 b3 b4 k1 k2 k3) (fun w' hb hok h3 f3 g3 e4 e5 k1 k2 k3 => HD w' hb hok h3 (afr_tr (afr_r fr_p) f3) g3 (by rw [e4, up_ne (by omega)]) (by rw [e5, up_ne (by omega)]) k1 k2 k3)
  rw [Nat.zero_add] at R
  exact R
end
