/-! from an instruction on, as far as the next stop: what must hold -/
section
variable (X : eX)
/-- a call that ends with an int (nothing, a reference, a float, a double), or throws -/
def eCi (m : Nat) (as : List eV) (n e : Nat) (p : Nat → Nat → Nat) (h : Nat → Nat → Int) (KI : Int → Nat → Nat → (Nat → Nat → Nat) → (Nat → Nat → Int) → Prop) (KX : Nat → Nat → Nat → (Nat → Nat → Nat) → (Nat → Nat → Int) → Prop) : Prop :=
  eP X m 0 (eEnt m as) [] (n, e, p, h) (fun o μ => match o, μ with
    | .inl (some (.inl x)), (n, e, p, h) => KI x n e p h
    | .inr E, (n, e, p, h) => KX E n e p h
    | _, _ => False)
def eCv (m : Nat) (as : List eV) (n e : Nat) (p : Nat → Nat → Nat) (h : Nat → Nat → Int) (KV : Nat → Nat → (Nat → Nat → Nat) → (Nat → Nat → Int) → Prop) (KX : Nat → Nat → Nat → (Nat → Nat → Nat) → (Nat → Nat → Int) → Prop) : Prop :=
  eP X m 0 (eEnt m as) [] (n, e, p, h) (fun o μ => match o, μ with
    | .inl none, (n, e, p, h) => KV n e p h
    | .inr E, (n, e, p, h) => KX E n e p h
    | _, _ => False)
def eCr (m : Nat) (as : List eV) (n e : Nat) (p : Nat → Nat → Nat) (h : Nat → Nat → Int) (KR : Nat → Nat → Nat → (Nat → Nat → Nat) → (Nat → Nat → Int) → Prop) (KX : Nat → Nat → Nat → (Nat → Nat → Nat) → (Nat → Nat → Int) → Prop) : Prop :=
  eP X m 0 (eEnt m as) [] (n, e, p, h) (fun o μ => match o, μ with
    | .inl (some (.inr (.inl x))), (n, e, p, h) => KR x n e p h
    | .inr E, (n, e, p, h) => KX E n e p h
    | _, _ => False)
def eCf (m : Nat) (as : List eV) (n e : Nat) (p : Nat → Nat → Nat) (h : Nat → Nat → Int) (KF : UInt32 → Nat → Nat → (Nat → Nat → Nat) → (Nat → Nat → Int) → Prop) (KX : Nat → Nat → Nat → (Nat → Nat → Nat) → (Nat → Nat → Int) → Prop) : Prop :=
  eP X m 0 (eEnt m as) [] (n, e, p, h) (fun o μ => match o, μ with
    | .inl (some (.inr (.inr (.inr (.inl x))))), (n, e, p, h) => KF x n e p h
    | .inr E, (n, e, p, h) => KX E n e p h
    | _, _ => False)
def eCd (m : Nat) (as : List eV) (n e : Nat) (p : Nat → Nat → Nat) (h : Nat → Nat → Int) (KD : UInt64 → Nat → Nat → (Nat → Nat → Nat) → (Nat → Nat → Int) → Prop) (KX : Nat → Nat → Nat → (Nat → Nat → Nat) → (Nat → Nat → Int) → Prop) : Prop :=
  eP X m 0 (eEnt m as) [] (n, e, p, h) (fun o μ => match o, μ with
    | .inl (some (.inr (.inr (.inr (.inr (.inl x)))))), (n, e, p, h) => KD x n e p h
    | .inr E, (n, e, p, h) => KX E n e p h
    | _, _ => False)
def eCj (m : Nat) (as : List eV) (n e : Nat) (p : Nat → Nat → Nat) (h : Nat → Nat → Int) (KL : Int → Nat → Nat → (Nat → Nat → Nat) → (Nat → Nat → Int) → Prop) (KX : Nat → Nat → Nat → (Nat → Nat → Nat) → (Nat → Nat → Int) → Prop) : Prop :=
  eP X m 0 (eEnt m as) [] (n, e, p, h) (fun o μ => match o, μ with
    | .inl (some (.inr (.inr (.inl x)))), (n, e, p, h) => KL x n e p h
    | .inr E, (n, e, p, h) => KX E n e p h
    | _, _ => False)
def eCal (rk m2 : Nat) (as : List eV) (n e : Nat) (p : Nat → Nat → Nat) (h : Nat → Nat → Int) (m pc : Nat) (ls rest : List eV) (Q : eO → eM → Prop) (G : List eV → Nat → Nat → (Nat → Nat → Nat) → (Nat → Nat → Int) → Prop) : Prop :=
  match rk with
  | 0 => eCv X m2 as n e p h (fun n e p h => G rest n e p h) (fun E n e p h => eBk X m pc ls rest Q (.inr E) (n, e, p, h))
  | 1 => eCi X m2 as n e p h (fun x n e p h => G (vI x :: rest) n e p h) (fun E n e p h => eBk X m pc ls rest Q (.inr E) (n, e, p, h))
  | 2 => eCr X m2 as n e p h (fun x n e p h => G (vR x :: rest) n e p h) (fun E n e p h => eBk X m pc ls rest Q (.inr E) (n, e, p, h))
  | 3 => eCj X m2 as n e p h (fun x n e p h => G (vL x :: rest) n e p h) (fun E n e p h => eBk X m pc ls rest Q (.inr E) (n, e, p, h))
  | 4 => eCf X m2 as n e p h (fun x n e p h => G (vF x :: rest) n e p h) (fun E n e p h => eBk X m pc ls rest Q (.inr E) (n, e, p, h))
  | 5 => eCd X m2 as n e p h (fun x n e p h => G (vD x :: rest) n e p h) (fun E n e p h => eBk X m pc ls rest Q (.inr E) (n, e, p, h))
  | _ => False
def eW (sp : List Nat) : Nat → Bool → Nat → Nat → List eV → List eV → eM → (eO → eM → Prop) → Prop
  | 0, _, m, pc, ls, st, μ, Q => eP X m pc ls st μ Q
  | k + 1, b, m, pc, ls, st, μ, Q =>
    match b && sp.contains pc with
    | true => eP X m pc ls st μ Q
    | false => match ewCode m pc with
      | none => False
      | some i => eSem ewK ewL ewT X (fun pc' ls' st' μ' => eW sp k true m pc' ls' st' μ' Q)
          (fun m2 as rest => match μ with
            | (n, e, p, h) => eCal X i.2.2.2.1 m2 as n e p h m pc ls rest Q (fun st' n e p h => eW sp k true m (pc + 1) ls st' (n, e, p, h) Q)) Q False pc i ls st μ
theorem eP_weak {m pc ls st μ} {Q Q' : eO → eM → Prop} (h : eP X m pc ls st μ Q) (hq : ∀ o μ', Q o μ' → Q' o μ') : eP X m pc ls st μ Q' := by
  obtain ⟨f, o, μ', h1, h2⟩ := h
  exact ⟨f, o, μ', h1, hq _ _ h2⟩
theorem eCal_back {rk m2 as n e p h m pc ls rest} {Q : eO → eM → Prop} {G : List eV → Nat → Nat → (Nat → Nat → Nat) → (Nat → Nat → Int) → Prop} (hG : ∀ st' n e p h, G st' n e p h → eP X m (pc + 1) ls st' (n, e, p, h) Q)
    (H : eCal X rk m2 as n e p h m pc ls rest Q G) : eP X m2 0 (eEnt m2 as) [] (n, e, p, h) (eBk X m pc ls rest Q) := by
  unfold eCal at H
  split at H
  case h_7 => exact H.elim
  all_goals
    refine eP_weak X H ?_
    intro o μ' hq
    obtain ⟨n', e', p', h'⟩ := μ'
    match o, hq with
    | .inr E, hq => exact hq
    | .inl none, hq => first | exact hq.elim | exact hG _ _ _ _ _ hq
    | .inl (some (.inl x)), hq => first | exact hq.elim | exact hG _ _ _ _ _ hq
    | .inl (some (.inr (.inl x))), hq => first | exact hq.elim | exact hG _ _ _ _ _ hq
    | .inl (some (.inr (.inr (.inl x)))), hq => first | exact hq.elim | exact hG _ _ _ _ _ hq
    | .inl (some (.inr (.inr (.inr (.inl x))))), hq => first | exact hq.elim | exact hG _ _ _ _ _ hq
    | .inl (some (.inr (.inr (.inr (.inr (.inl x)))))), hq => first | exact hq.elim | exact hG _ _ _ _ _ hq
    | .inl (some (.inr (.inr (.inr (.inr (.inr x)))))), hq => first | exact hq.elim | exact hG _ _ _ _ _ hq
theorem eW_of (sp : List Nat) (k : Nat) : ∀ (b : Bool) (m pc : Nat) (ls st : List eV) (μ : eM) (Q : eO → eM → Prop), eW X sp k b m pc ls st μ Q → eP X m pc ls st μ Q := by
  induction k with
  | zero => intro b m pc ls st μ Q h; exact h
  | succ k ih =>
    intro b m pc ls st μ Q h
    unfold eW at h
    split at h
    · exact h
    · split at h
      · exact h.elim
      next i hc =>
        rw [eP_step X m pc ls st μ Q hc]
        rw [eSem_sel] at h ⊢
        cases hs : eSel ewK ewL ewT X pc i ls st μ with
        | none => rw [hs] at h; exact h.elim
        | some y =>
          rw [hs] at h
          match y, h with
          | .inl (a, b, c, d), h => exact ih _ _ _ _ _ _ _ h
          | .inr (.inr (a, b)), h => exact h
          | .inr (.inl (m2, as, rest)), h =>
            obtain ⟨n, e, p, hh⟩ := μ
            exact eCal_back X (fun st' n e p h hg => ih _ _ _ _ _ _ _ hg) h
theorem eW_go (sp : List Nat) (k : Nat) {m pc : Nat} {ls st : List eV} {μ : eM} {Q : eO → eM → Prop} (h : eW X sp k false m pc ls st μ Q) : eP X m pc ls st μ Q := eW_of X sp k false m pc ls st μ Q h
/-- one end alone -/
theorem eP_one {m pc ls st μ} {o : eO} {μ' : eM} (h : eP X m pc ls st μ (fun a b => a = o ∧ b = μ')) (Q : eO → eM → Prop) : eP X m pc ls st μ Q ↔ Q o μ' := by
  obtain ⟨f, o2, μ2, h1, h2, h3⟩ := h
  subst h2; subst h3
  constructor
  · rintro ⟨g, o3, μ3, h4, h5⟩
    have h6 := eRun_le X (Nat.le_max_left f g) h1
    have h7 := eRun_le X (Nat.le_max_right f g) h4
    rw [h6] at h7
    cases h7; exact h5
  · intro hq; exact ⟨f, _, _, h1, hq⟩
theorem eCi_eq {m as n e p h x n' e' p' h'} (H : ∀ Q : eO → eM → Prop, Q (.inl (some (vI x))) (n', e', p', h') → eP X m 0 (eEnt m as) [] (n, e, p, h) Q) (KI KX) : eCi X m as n e p h KI KX = KI x n' e' p' h' :=
  propext (eP_one X (H _ ⟨rfl, rfl⟩) _)
theorem eCi_ex {m as n e p h E n' e' p' h'} (H : ∀ Q : eO → eM → Prop, Q (.inr E) (n', e', p', h') → eP X m 0 (eEnt m as) [] (n, e, p, h) Q) (KI KX) : eCi X m as n e p h KI KX = KX E n' e' p' h' :=
  propext (eP_one X (H _ ⟨rfl, rfl⟩) _)
theorem eCv_eq {m as n e p h n' e' p' h'} (H : ∀ Q : eO → eM → Prop, Q (.inl none) (n', e', p', h') → eP X m 0 (eEnt m as) [] (n, e, p, h) Q) (KI KX) : eCv X m as n e p h KI KX = KI n' e' p' h' :=
  propext (eP_one X (H _ ⟨rfl, rfl⟩) _)
theorem eCv_ex {m as n e p h E n' e' p' h'} (H : ∀ Q : eO → eM → Prop, Q (.inr E) (n', e', p', h') → eP X m 0 (eEnt m as) [] (n, e, p, h) Q) (KI KX) : eCv X m as n e p h KI KX = KX E n' e' p' h' :=
  propext (eP_one X (H _ ⟨rfl, rfl⟩) _)
theorem eCr_eq {m as n e p h x n' e' p' h'} (H : ∀ Q : eO → eM → Prop, Q (.inl (some (vR x))) (n', e', p', h') → eP X m 0 (eEnt m as) [] (n, e, p, h) Q) (KI KX) : eCr X m as n e p h KI KX = KI x n' e' p' h' :=
  propext (eP_one X (H _ ⟨rfl, rfl⟩) _)
theorem eCr_ex {m as n e p h E n' e' p' h'} (H : ∀ Q : eO → eM → Prop, Q (.inr E) (n', e', p', h') → eP X m 0 (eEnt m as) [] (n, e, p, h) Q) (KI KX) : eCr X m as n e p h KI KX = KX E n' e' p' h' :=
  propext (eP_one X (H _ ⟨rfl, rfl⟩) _)
theorem eCf_eq {m as n e p h x n' e' p' h'} (H : ∀ Q : eO → eM → Prop, Q (.inl (some (vF x))) (n', e', p', h') → eP X m 0 (eEnt m as) [] (n, e, p, h) Q) (KI KX) : eCf X m as n e p h KI KX = KI x n' e' p' h' :=
  propext (eP_one X (H _ ⟨rfl, rfl⟩) _)
theorem eCf_ex {m as n e p h E n' e' p' h'} (H : ∀ Q : eO → eM → Prop, Q (.inr E) (n', e', p', h') → eP X m 0 (eEnt m as) [] (n, e, p, h) Q) (KI KX) : eCf X m as n e p h KI KX = KX E n' e' p' h' :=
  propext (eP_one X (H _ ⟨rfl, rfl⟩) _)
theorem eCj_eq {m as n e p h x n' e' p' h'} (H : ∀ Q : eO → eM → Prop, Q (.inl (some (vL x))) (n', e', p', h') → eP X m 0 (eEnt m as) [] (n, e, p, h) Q) (KI KX) : eCj X m as n e p h KI KX = KI x n' e' p' h' :=
  propext (eP_one X (H _ ⟨rfl, rfl⟩) _)
theorem eCj_ex {m as n e p h E n' e' p' h'} (H : ∀ Q : eO → eM → Prop, Q (.inr E) (n', e', p', h') → eP X m 0 (eEnt m as) [] (n, e, p, h) Q) (KI KX) : eCj X m as n e p h KI KX = KX E n' e' p' h' :=
  propext (eP_one X (H _ ⟨rfl, rfl⟩) _)
theorem eCd_eq {m as n e p h x n' e' p' h'} (H : ∀ Q : eO → eM → Prop, Q (.inl (some (vD x))) (n', e', p', h') → eP X m 0 (eEnt m as) [] (n, e, p, h) Q) (KI KX) : eCd X m as n e p h KI KX = KI x n' e' p' h' :=
  propext (eP_one X (H _ ⟨rfl, rfl⟩) _)
theorem eCd_ex {m as n e p h E n' e' p' h'} (H : ∀ Q : eO → eM → Prop, Q (.inr E) (n', e', p', h') → eP X m 0 (eEnt m as) [] (n, e, p, h) Q) (KI KX) : eCd X m as n e p h KI KX = KX E n' e' p' h' :=
  propext (eP_one X (H _ ⟨rfl, rfl⟩) _)
theorem eHn_none {m pc E : Nat} (hm : m < m_L_dig) : ewHnd m pc E = none := by
  unfold ewHnd
  have : hnTbl.find? (fun q => q.1 == m && decide (q.2.1 ≤ pc) && decide (pc < q.2.2.1) && q.2.2.2.1 == E) = none := by
    rw [List.find?_eq_none]
    intro q hq
    have h1 : ∀ q ∈ hnTbl, m_L_dig ≤ q.1 := by decide +kernel
    have h2 := h1 q hq
    have h3 : ¬ q.1 = m := by omega
    simp [h3]
  rw [this]; rfl
theorem eBk_thr {m pc E : Nat} {ls rest : List eV} {Q : eO → eM → Prop} {μ : eM} (hm : m < m_L_dig) : eBk X m pc ls rest Q (.inr E) μ = Q (.inr E) μ := by
  unfold eBk
  simp only [eHn_none hm]
end
