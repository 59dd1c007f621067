/-! a text read, without memory -/
def sg (T : List Int) (q : Nat) : Int := T.getD q 0
def lcp (T : List Int) : List Int → Nat → Nat
  | [], _ => 0
  | c :: cs, q => if sg T q = c then lcp T cs (q + 1) + 1 else 0
def nmF (T : List Int) (q : Nat) : Nat → Nat → Nat → Nat ⊕ (Nat × Nat)
  | 0, _, lg => .inl (q + lg)
  | k + 1, o, lg => if lcp T (ewT o) q = (ewT o).length then .inr (o, q + (ewT o).length) else nmF T q k (o + 1) (if lg ≤ lcp T (ewT o) q then lcp T (ewT o) q else lg)
def rdName (T : List Int) (q : Nat) : Nat ⊕ (Nat × Nat) := nmF T q 12 0 0
def nt (ns : List Int) (x : Int) : List Int := if ns.length < 3 then ns ++ [x] else ns
def wdF (T : List Int) : Nat → Nat → List Int → Nat × List Int
  | 0, q, W => (q, W)
  | k + 1, q, W => if 97 ≤ sg T q ∧ sg T q ≤ 122 then wdF T k (q + 1) (W ++ [sg T q]) else (q, W)
abbrev eRd : Type := Nat ⊕ (Nat × List Int × List Int)
def rdPart (T : List Int) (k : Int) (q : Nat) (ns W : List Int) : eRd :=
  if k = 98 then (if sg T q = 115 then .inr (q + 1, nt ns 0, W) else if sg T q = 119 then .inr (q + 1, nt ns 1, W) else if sg T q = 109 then .inr (q + 1, nt ns 2, W) else .inl q)
  else if k = 100 then (if 48 ≤ sg T q ∧ sg T q ≤ 57 then .inr (q + 1, nt ns (sg T q - 48), W) else .inl q)
  else if k = 108 then (if 97 ≤ sg T q ∧ sg T q ≤ 122 then .inr (q + 1, nt ns (sg T q), W) else .inl q)
  else if k = 110 then (if 48 ≤ sg T q ∧ sg T q ≤ 57 then (if 48 ≤ sg T (q + 1) ∧ sg T (q + 1) ≤ 57 then .inr (q + 2, nt ns (10 * (sg T q - 48) + sg T (q + 1) - 48), W) else .inr (q + 1, nt ns (sg T q - 48), W)) else .inl q)
  else if k = 119 then (if (wdF T 8 q W).2 = [] then .inl (wdF T 8 q W).1 else .inr ((wdF T 8 q W).1, ns, (wdF T 8 q W).2))
  else if sg T q = k then .inr (q + 1, ns, W) else .inl q
def rdForm (T : List Int) : List Int → Nat → List Int → List Int → eRd
  | [], q, ns, W => .inr (q, ns, W)
  | k :: ks, q, ns, W => match rdPart T k q ns W with
    | .inl f => .inl f
    | .inr (q', ns', W') => rdForm T ks q' ns' W'
def rdOrd (T : List Int) (q : Nat) : Nat ⊕ (Nat × Nat × List Int × List Int) := match rdName T q with
  | .inl f => .inl f
  | .inr (o, q1) => match rdForm T (ewT (12 + o)) q1 [] [] with
    | .inl f => .inl f
    | .inr (q2, ns, W) => .inr (o, q2, ns, W)
def rdAll (T : List Int) : Nat → Nat → Nat ⊕ Nat
  | 0, q => .inl q
  | k + 1, q => match rdOrd T q with
    | .inl f => .inl f
    | .inr (_, q1, _, _) => if T.length ≤ q1 then .inr 1 else if sg T q1 = 59 then (match rdAll T k (q1 + 1) with
      | .inl f => .inl f
      | .inr n => .inr (n + 1)) else .inl q1
theorem sg_in {T : List Int} {q : Nat} (h : sg T q ≠ 0) : q < T.length := by
  rcases Nat.lt_or_ge q T.length with a | a
  · exact a
  · exfalso
    apply h
    unfold sg
    rw [List.getD_eq_getElem?_getD, List.getElem?_eq_none a]
    rfl
theorem sg_at {T : List Int} {q : Nat} (h : q < T.length) : T[q]? = some (sg T q) := by
  unfold sg
  rw [List.getD_eq_getElem?_getD, List.getElem?_eq_getElem h]
  rfl
theorem lcp_s {T : List Int} {c : Int} {cs : List Int} {q : Nat} (h : sg T q = c) : lcp T (c :: cs) q = lcp T cs (q + 1) + 1 := by
  rw [lcp, if_pos h]
theorem lcp_0 {T : List Int} {c : Int} {cs : List Int} {q : Nat} (h : sg T q ≠ c) : lcp T (c :: cs) q = 0 := by
  rw [lcp, if_neg h]
theorem lcp_n {T : List Int} {q : Nat} : lcp T [] q = 0 := rfl
theorem lcp_le {T : List Int} : ∀ (cs : List Int) (q : Nat), lcp T cs q ≤ cs.length := by
  intro cs
  induction cs with
  | nil => intro q; exact Nat.le_refl _
  | cons c cs ih =>
    intro q
    rw [lcp]
    split
    · have := ih (q + 1); simp; omega
    · exact Nat.zero_le _
theorem lcp_in {T : List Int} : ∀ (cs : List Int) (q : Nat), (∀ c, c ∈ cs → c ≠ 0) → q ≤ T.length → q + lcp T cs q ≤ T.length := by
  intro cs
  induction cs with
  | nil => intro q _ h; rw [lcp]; omega
  | cons c cs ih =>
    intro q hc h
    rw [lcp]
    split
    · next e =>
      have h1 := sg_in (T := T) (q := q) (by rw [e]; exact hc c List.mem_cons_self)
      have h2 := ih (q + 1) (fun c h => hc c (List.mem_cons_of_mem _ h)) (by omega)
      omega
    · omega
theorem ewT_ne : ∀ o, o < 24 → ∀ c, c ∈ ewT o → c ≠ 0 ∧ 0 < c := by decide +kernel
theorem ewT_len : ∀ o, o < 12 → 1 ≤ (ewT o).length ∧ (ewT o).length ≤ 7 ∧ (ewT (12 + o)).length ≤ 5 := by decide +kernel
theorem nmF_in {T : List Int} {q : Nat} (hq : q ≤ T.length) : ∀ (k o lg : Nat), o + k = 12 → q + lg ≤ T.length → (∀ f, nmF T q k o lg = .inl f → f ≤ T.length) ∧ (∀ x y, nmF T q k o lg = .inr (x, y) → x < 12 ∧ q < y ∧ y ≤ T.length) := by
  intro k
  induction k with
  | zero =>
    intro o lg _ h
    refine ⟨fun f e => ?_, fun x y e => ?_⟩
    · rw [nmF] at e; cases e; exact h
    · rw [nmF] at e; cases e
  | succ k ih =>
    intro o lg ho h
    rw [nmF]
    have h1 := lcp_in (T := T) (ewT o) q (fun c hc => (ewT_ne o (by omega) c hc).1) hq
    split
    · next e0 =>
      have h2 := (ewT_len o (by omega)).1
      refine ⟨fun f e => (by cases e), fun x y e => ?_⟩
      cases e
      omega
    · refine ih (o + 1) _ (by omega) ?_
      split <;> omega
theorem wdF_in {T : List Int} : ∀ (k q : Nat) (W : List Int), q ≤ T.length → q ≤ (wdF T k q W).1 ∧ (wdF T k q W).1 ≤ T.length ∧ (wdF T k q W).2.length ≤ W.length + k ∧ ((wdF T k q W).2 ≠ W → q < (wdF T k q W).1) := by
  intro k
  induction k with
  | zero => intro q W h; rw [wdF]; exact ⟨Nat.le_refl _, h, Nat.le_refl _, fun x => absurd rfl x⟩
  | succ k ih =>
    intro q W h
    rw [wdF]
    split
    · next e =>
      have h1 := sg_in (T := T) (q := q) (by omega)
      obtain ⟨a, b, c, d⟩ := ih (q + 1) (W ++ [sg T q]) (by omega)
      simp at c
      exact ⟨by omega, b, by omega, fun _ => by omega⟩
    · exact ⟨Nat.le_refl _, h, by simp, fun x => absurd rfl x⟩
theorem nt_len {ns : List Int} {x : Int} : (nt ns x).length ≤ 3 ∨ (nt ns x).length = ns.length := by
  unfold nt
  split
  · left; simp; omega
  · right; rfl
def nbN (k : Int) : Nat := if k = 98 ∨ k = 100 ∨ k = 108 ∨ k = 110 then 1 else 0
def nbW (k : Int) : Nat := if k = 119 then 8 else 0
theorem nt_l {ns : List Int} {x : Int} (h : ns.length ≤ 3) : (nt ns x).length = min 3 (ns.length + 1) := by
  unfold nt
  split
  · simp; omega
  · omega
theorem rdPart_in {T : List Int} {k : Int} {q : Nat} {ns W : List Int} (hq : q ≤ T.length) (hk : k ≠ 0) (h3 : ns.length ≤ 3) : (∀ f, rdPart T k q ns W = .inl f → f ≤ T.length) ∧ (∀ q1 ns1 W1, rdPart T k q ns W = .inr (q1, ns1, W1) → q ≤ q1 ∧ q1 ≤ T.length ∧ ns1.length = min 3 (ns.length + nbN k) ∧ W1.length ≤ W.length + nbW k) := by
  have one : ∀ (P : Prop), (P → sg T q ≠ 0) → P → q + 1 ≤ T.length := fun P h p => sg_in (h p)
  unfold rdPart
  by_cases k98 : k = 98
  · subst k98
    rw [if_pos rfl]
    split
    · next e => exact ⟨fun f e => (by cases e), fun q1 ns1 W1 e => by cases e; exact ⟨by omega, sg_in (by omega), nt_l h3, by simp [nbW]⟩⟩
    split
    · next e => exact ⟨fun f e => (by cases e), fun q1 ns1 W1 e => by cases e; exact ⟨by omega, sg_in (by omega), nt_l h3, by simp [nbW]⟩⟩
    split
    · next e => exact ⟨fun f e => (by cases e), fun q1 ns1 W1 e => by cases e; exact ⟨by omega, sg_in (by omega), nt_l h3, by simp [nbW]⟩⟩
    · exact ⟨fun f e => by cases e; exact hq, fun q1 ns1 W1 e => by cases e⟩
  rw [if_neg k98]
  by_cases k100 : k = 100
  · subst k100
    rw [if_pos rfl]
    split
    · next e => exact ⟨fun f e => (by cases e), fun q1 ns1 W1 e => by cases e; exact ⟨by omega, sg_in (by omega), nt_l h3, by simp [nbW]⟩⟩
    · exact ⟨fun f e => by cases e; exact hq, fun q1 ns1 W1 e => by cases e⟩
  rw [if_neg k100]
  by_cases k108 : k = 108
  · subst k108
    rw [if_pos rfl]
    split
    · next e => exact ⟨fun f e => (by cases e), fun q1 ns1 W1 e => by cases e; exact ⟨by omega, sg_in (by omega), nt_l h3, by simp [nbW]⟩⟩
    · exact ⟨fun f e => by cases e; exact hq, fun q1 ns1 W1 e => by cases e⟩
  rw [if_neg k108]
  by_cases k110 : k = 110
  · subst k110
    rw [if_pos rfl]
    split
    · split
      · next e => exact ⟨fun f e => (by cases e), fun q1 ns1 W1 e => by cases e; exact ⟨by omega, sg_in (by omega), nt_l h3, by simp [nbW]⟩⟩
      · exact ⟨fun f e => (by cases e), fun q1 ns1 W1 e => by cases e; exact ⟨by omega, sg_in (by omega), nt_l h3, by simp [nbW]⟩⟩
    · exact ⟨fun f e => by cases e; exact hq, fun q1 ns1 W1 e => by cases e⟩
  rw [if_neg k110]
  have n0 : nbN k = 0 := by unfold nbN; rw [if_neg (by omega)]
  by_cases k119 : k = 119
  · subst k119
    rw [if_pos rfl]
    obtain ⟨a, b, c, d⟩ := wdF_in (T := T) 8 q W hq
    split
    · exact ⟨fun f e => by cases e; exact b, fun q1 ns1 W1 e => by cases e⟩
    · exact ⟨fun f e => (by cases e), fun q1 ns1 W1 e => by cases e; exact ⟨a, b, by rw [n0]; omega, c⟩⟩
  rw [if_neg k119]
  split
  · next e => exact ⟨fun f e => (by cases e), fun q1 ns1 W1 e => by cases e; exact ⟨by omega, sg_in (by omega), by rw [n0]; omega, by simp [nbW]⟩⟩
  · exact ⟨fun f e => by cases e; exact hq, fun q1 ns1 W1 e => by cases e⟩
theorem rdForm_in {T : List Int} : ∀ (ks : List Int) (q : Nat) (ns W : List Int), q ≤ T.length → (∀ k, k ∈ ks → k ≠ 0) → ns.length ≤ 3 → (∀ f, rdForm T ks q ns W = .inl f → f ≤ T.length) ∧ (∀ q1 ns1 W1, rdForm T ks q ns W = .inr (q1, ns1, W1) → q ≤ q1 ∧ q1 ≤ T.length ∧ ns1.length = min 3 (ns.length + (ks.map nbN).sum) ∧ W1.length ≤ W.length + (ks.map nbW).sum) := by
  intro ks
  induction ks with
  | nil =>
    intro q ns W hq _ h3
    rw [rdForm]
    exact ⟨fun f e => (by cases e), fun q1 ns1 W1 e => by cases e; exact ⟨Nat.le_refl _, hq, by simp; omega, by simp⟩⟩
  | cons k ks ih =>
    intro q ns W hq hk h3
    obtain ⟨a, b⟩ := rdPart_in (T := T) (W := W) hq (hk k List.mem_cons_self) h3
    rw [rdForm]
    cases hp : rdPart T k q ns W with
    | inl f => exact ⟨fun f' e => by cases e; exact a f hp, fun q1 ns1 W1 e => by cases e⟩
    | inr r =>
      obtain ⟨q1, ns1, W1⟩ := r
      obtain ⟨b1, b2, b3, b4⟩ := b q1 ns1 W1 hp
      obtain ⟨c1, c2⟩ := ih q1 ns1 W1 b2 (fun k h => hk k (List.mem_cons_of_mem _ h)) (by omega)
      refine ⟨c1, fun q2 ns2 W2 e => ?_⟩
      obtain ⟨d1, d2, d3, d4⟩ := c2 q2 ns2 W2 e
      refine ⟨by omega, d2, ?_, ?_⟩
      · rw [d3, b3, List.map_cons, List.sum_cons]; omega
      · rw [List.map_cons, List.sum_cons]; omega
theorem fm_nb : ∀ o, o < 12 → ((ewT (12 + o)).map nbN).sum = (if o = 0 then 2 else if o = 1 then 2 else if o = 2 then 1 else if o = 3 then 3 else if o = 4 then 3 else if o = 5 then 3 else if o = 6 then 2 else if o = 7 then 0 else if o = 8 then 1 else if o = 9 then 2 else if o = 10 then 1 else 1) ∧ ((ewT (12 + o)).map nbW).sum ≤ 8 := by decide +kernel
theorem rdOrd_in {T : List Int} {q : Nat} (hq : q ≤ T.length) : (∀ f, rdOrd T q = .inl f → f ≤ T.length) ∧ (∀ o q1 ns W, rdOrd T q = .inr (o, q1, ns, W) → o < 12 ∧ q < q1 ∧ q1 ≤ T.length ∧ ns.length = (if o = 0 then 2 else if o = 1 then 2 else if o = 2 then 1 else if o = 3 then 3 else if o = 4 then 3 else if o = 5 then 3 else if o = 6 then 2 else if o = 7 then 0 else if o = 8 then 1 else if o = 9 then 2 else if o = 10 then 1 else 1) ∧ W.length ≤ 8) := by
  obtain ⟨a, b⟩ := nmF_in (T := T) hq 12 0 0 rfl (by omega)
  unfold rdOrd rdName
  cases hn : nmF T q 12 0 0 with
  | inl f => exact ⟨fun f' e => by cases e; exact a f hn, fun o q1 ns W e => by cases e⟩
  | inr r =>
    obtain ⟨o, q1⟩ := r
    obtain ⟨b1, b2, b3⟩ := b o q1 hn
    obtain ⟨c1, c2⟩ := rdForm_in (T := T) (ewT (12 + o)) q1 [] [] b3 (fun k hk => (ewT_ne (12 + o) (by omega) k hk).1) (by simp)
    obtain ⟨f1, f2⟩ := fm_nb o b1
    dsimp only
    cases hf : rdForm T (ewT (12 + o)) q1 [] [] with
    | inl f => exact ⟨fun f' e => by cases e; exact c1 f hf, fun o q1 ns W e => by cases e⟩
    | inr r =>
      obtain ⟨q2, ns, W⟩ := r
      obtain ⟨d1, d2, d3, d4⟩ := c2 q2 ns W hf
      refine ⟨fun f e => (by cases e), fun o' q1' ns' W' e => ?_⟩
      cases e
      refine ⟨b1, by omega, d2, ?_, ?_⟩
      · rw [d3, f1]
        have : o = 0 ∨ o = 1 ∨ o = 2 ∨ o = 3 ∨ o = 4 ∨ o = 5 ∨ o = 6 ∨ o = 7 ∨ o = 8 ∨ o = 9 ∨ o = 10 ∨ o = 11 := by omega
        rcases this with h | h | h | h | h | h | h | h | h | h | h | h <;> subst h <;> decide
      · simp at d4; omega
