/-! numbers stay in their ranges -/
theorem eSt_vl {L : List eV} {i : Nat} {w : eV} (h : ∀ v ∈ L, eVl v) (hw : eVl w) : ∀ v ∈ eSt L i w, eVl v := by
  have hs : ∀ (L2 : List eV) (j : Nat) (u : eV), (∀ v ∈ L2, eVl v) → eVl u → ∀ v ∈ L2.set j u, eVl v := by
    intro L2 j u h1 h2 v hv
    rcases List.mem_or_eq_of_mem_set hv with h3 | h3
    · exact h1 v h3
    · subst h3; exact h2
  unfold eSt
  split
  · exact hs _ _ _ h hw
  · split
    · exact hs _ _ _ (hs _ _ _ h trivial) hw
    · exact hs _ _ _ h hw
theorem eSt_vw {L : List eV} {i : Nat} {w : eV} (h : ∀ v ∈ L, eVl v) (hw : eVw w) : ∀ v ∈ eSt L i w, eVl v := eSt_vl h (eVw_l hw)
theorem set_vw {L : List eV} {i : Nat} {w : eV} (h : ∀ v ∈ L, eVl v) (hw : eVl w) : ∀ v ∈ L.set i w, eVl v := by
  intro v hv
  rcases List.mem_or_eq_of_mem_set hv with h3 | h3
  · exact h v h3
  · subst h3; exact hw
theorem up_3 {hh : Nat → Nat → Int} {x b : Nat} {w : Int} (h : ∀ a k, ¬ ewK a = 24 → inR (hh a k)) (hw : inR w) : ∀ a k, ¬ ewK a = 24 → inR (up hh x b w a k) := by
  intro a k ha
  unfold up
  split
  · exact hw
  · exact h a k ha
theorem zr_3 {hh : Nat → Nat → Int} {x : Nat} (h : ∀ a k, ¬ ewK a = 24 → inR (hh a k)) : ∀ a k, ¬ ewK a = 24 → inR (zr hh x 0 a k) := by
  intro a k ha
  unfold zr
  split
  · exact in0
  · exact h a k ha
theorem kn_k {n a k : Nat} (hk : ¬ k = 0) (h : kn ewK n a = k) : ewK a = k := (kn_of hk h).2.2.2
theorem i32_in (x : Int32) : inR x.toInt := by
  have h1 := Int32.le_toInt x
  have h2 := Int32.toInt_lt x
  unfold inR
  omega
theorem kn24 {n x a : Nat} (ha : a ∈ eKs) (h : kn ewK n x = a) : ¬ ewK x = 24 := by
  have h1 := eKs_lt a ha
  rw [kn_k h1.1 h]
  omega
theorem ewT_in : ∀ j i, (0 ≤ (ewT j).getD i 0 ∧ (ewT j).getD i 0 < 65536) ∧ (ewT j).length < 1000 := by
  have h : ∀ r ∈ ewTx, r.length < 1000 ∧ ∀ x ∈ r, 0 ≤ x ∧ x < 65536 := by decide +kernel
  intro j i
  unfold ewT
  have hq : ewTx.getD j [] = (ewTx[j]?).getD [] := List.getD_eq_getElem?_getD ..
  rw [hq]
  cases h1 : ewTx[j]? with
  | none => simp
  | some r =>
    have h2 := h r (List.mem_of_getElem? h1)
    refine ⟨?_, h2.1⟩
    rw [Option.getD_some, List.getD_eq_getElem?_getD]
    cases h3 : r[i]? with
    | none => simp
    | some x => exact h2.2 x (List.mem_of_getElem? h3)
theorem lk_go {x : Int} {ls st : List eV} {μ : eM} {y : Nat × List eV × List eV × eM} : ∀ (k : Nat) (tg : List Nat) (d : Nat), tg.length ≤ k → eLk x (fun t => eNx t ls st μ) d tg = some (.inl y) → ∃ t, y = (t, ls, st, μ) := by
  intro k
  induction k with
  | zero =>
    intro tg d h h2
    have : tg = [] := List.eq_nil_of_length_eq_zero (by omega)
    subst this
    cases h2
    exact ⟨_, rfl⟩
  | succ k ih =>
    intro tg d h h2
    match tg, h, h2 with
    | [], _, h2 => cases h2; exact ⟨_, rfl⟩
    | [_], _, h2 => cases h2; exact ⟨_, rfl⟩
    | a :: t :: r, h, h2 =>
      unfold eLk at h2
      split at h2
      · cases h2; exact ⟨_, rfl⟩
      · exact ih r d (by simp at h; omega) h2
section
variable {X : eX}
set_option maxHeartbeats 1000000 in
theorem wf_7 {m pc a b k : Nat} {v : Int} {tg : List Nat} {ls st ls' st' : List eV} {n e0 : Nat} {pp : Nat → Nat → Nat} {hh : Nat → Nat → Int} {μ' : eM} {pc' : Nat} (hk : chk m pc (7, a, b, k, v, tg) = true) (hw : eWf ls st (n, e0, pp, hh)) (hs : eSel ewK ewL ewT X pc (7, a, b, k, v, tg) ls st (n, e0, pp, hh) = some (.inl (pc', ls', st', μ'))) : eWf ls' st' μ' ∧ μ'.1 = n ∧ μ'.2.1 = e0 := by
  obtain ⟨h1, h2, h3, h4⟩ := hw
  dsimp only at h3 h4
  rw [sl_7] at hs
  repeat' split at hs
  all_goals first | (cases hs; done) | cases hs
  all_goals try simp only [List.forall_mem_cons] at h2
  all_goals exact ⟨⟨h1, by first | exact h2 | exact h2.2 | exact h2.2.2 | exact h2.2.2.2 | exact List.forall_mem_cons.mpr ⟨trivial, h2⟩ | exact List.forall_mem_cons.mpr ⟨trivial, h2.2⟩ | exact List.forall_mem_cons.mpr ⟨trivial, h2.2.2⟩, h3, h4⟩, rfl, rfl⟩
set_option maxHeartbeats 1000000 in
theorem wf_9 {m pc a b k : Nat} {v : Int} {tg : List Nat} {ls st ls' st' : List eV} {n e0 : Nat} {pp : Nat → Nat → Nat} {hh : Nat → Nat → Int} {μ' : eM} {pc' : Nat} (hk : chk m pc (9, a, b, k, v, tg) = true) (hw : eWf ls st (n, e0, pp, hh)) (hs : eSel ewK ewL ewT X pc (9, a, b, k, v, tg) ls st (n, e0, pp, hh) = some (.inl (pc', ls', st', μ'))) : eWf ls' st' μ' ∧ μ'.1 = n ∧ μ'.2.1 = e0 := by
  obtain ⟨h1, h2, h3, h4⟩ := hw
  dsimp only at h3 h4
  rw [sl_9] at hs
  repeat' split at hs
  all_goals first | (cases hs; done) | cases hs
  all_goals try simp only [List.forall_mem_cons] at h2
  all_goals exact ⟨⟨h1, by first | exact h2 | exact h2.2 | exact h2.2.2 | exact h2.2.2.2 | exact List.forall_mem_cons.mpr ⟨trivial, h2⟩ | exact List.forall_mem_cons.mpr ⟨trivial, h2.2⟩ | exact List.forall_mem_cons.mpr ⟨trivial, h2.2.2⟩, h3, h4⟩, rfl, rfl⟩
set_option maxHeartbeats 1000000 in
theorem wf_10 {m pc a b k : Nat} {v : Int} {tg : List Nat} {ls st ls' st' : List eV} {n e0 : Nat} {pp : Nat → Nat → Nat} {hh : Nat → Nat → Int} {μ' : eM} {pc' : Nat} (hk : chk m pc (10, a, b, k, v, tg) = true) (hw : eWf ls st (n, e0, pp, hh)) (hs : eSel ewK ewL ewT X pc (10, a, b, k, v, tg) ls st (n, e0, pp, hh) = some (.inl (pc', ls', st', μ'))) : eWf ls' st' μ' ∧ μ'.1 = n ∧ μ'.2.1 = e0 := by
  obtain ⟨h1, h2, h3, h4⟩ := hw
  dsimp only at h3 h4
  rw [sl_10] at hs
  repeat' split at hs
  all_goals first | (cases hs; done) | cases hs
  all_goals try simp only [List.forall_mem_cons] at h2
  all_goals exact ⟨⟨h1, by first | exact h2 | exact h2.2 | exact h2.2.2 | exact h2.2.2.2 | exact List.forall_mem_cons.mpr ⟨trivial, h2⟩ | exact List.forall_mem_cons.mpr ⟨trivial, h2.2⟩ | exact List.forall_mem_cons.mpr ⟨trivial, h2.2.2⟩, h3, h4⟩, rfl, rfl⟩
set_option maxHeartbeats 1000000 in
theorem wf_32 {m pc a b k : Nat} {v : Int} {tg : List Nat} {ls st ls' st' : List eV} {n e0 : Nat} {pp : Nat → Nat → Nat} {hh : Nat → Nat → Int} {μ' : eM} {pc' : Nat} (hk : chk m pc (32, a, b, k, v, tg) = true) (hw : eWf ls st (n, e0, pp, hh)) (hs : eSel ewK ewL ewT X pc (32, a, b, k, v, tg) ls st (n, e0, pp, hh) = some (.inl (pc', ls', st', μ'))) : eWf ls' st' μ' ∧ μ'.1 = n ∧ μ'.2.1 = e0 := by
  obtain ⟨h1, h2, h3, h4⟩ := hw
  dsimp only at h3 h4
  rw [sl_32] at hs
  repeat' split at hs
  all_goals first | (cases hs; done) | cases hs
  all_goals try simp only [List.forall_mem_cons] at h2
  all_goals exact ⟨⟨h1, by first | exact h2 | exact h2.2 | exact h2.2.2 | exact h2.2.2.2 | exact List.forall_mem_cons.mpr ⟨trivial, h2⟩ | exact List.forall_mem_cons.mpr ⟨trivial, h2.2⟩ | exact List.forall_mem_cons.mpr ⟨trivial, h2.2.2⟩, h3, h4⟩, rfl, rfl⟩
set_option maxHeartbeats 1000000 in
theorem wf_33 {m pc a b k : Nat} {v : Int} {tg : List Nat} {ls st ls' st' : List eV} {n e0 : Nat} {pp : Nat → Nat → Nat} {hh : Nat → Nat → Int} {μ' : eM} {pc' : Nat} (hk : chk m pc (33, a, b, k, v, tg) = true) (hw : eWf ls st (n, e0, pp, hh)) (hs : eSel ewK ewL ewT X pc (33, a, b, k, v, tg) ls st (n, e0, pp, hh) = some (.inl (pc', ls', st', μ'))) : eWf ls' st' μ' ∧ μ'.1 = n ∧ μ'.2.1 = e0 := by
  obtain ⟨h1, h2, h3, h4⟩ := hw
  dsimp only at h3 h4
  rw [sl_33] at hs
  repeat' split at hs
  all_goals first | (cases hs; done) | cases hs
  all_goals try simp only [List.forall_mem_cons] at h2
  all_goals exact ⟨⟨h1, by first | exact h2 | exact h2.2 | exact h2.2.2 | exact h2.2.2.2 | exact List.forall_mem_cons.mpr ⟨trivial, h2⟩ | exact List.forall_mem_cons.mpr ⟨trivial, h2.2⟩ | exact List.forall_mem_cons.mpr ⟨trivial, h2.2.2⟩, h3, h4⟩, rfl, rfl⟩
set_option maxHeartbeats 1000000 in
theorem wf_43 {m pc a b k : Nat} {v : Int} {tg : List Nat} {ls st ls' st' : List eV} {n e0 : Nat} {pp : Nat → Nat → Nat} {hh : Nat → Nat → Int} {μ' : eM} {pc' : Nat} (hk : chk m pc (43, a, b, k, v, tg) = true) (hw : eWf ls st (n, e0, pp, hh)) (hs : eSel ewK ewL ewT X pc (43, a, b, k, v, tg) ls st (n, e0, pp, hh) = some (.inl (pc', ls', st', μ'))) : eWf ls' st' μ' ∧ μ'.1 = n ∧ μ'.2.1 = e0 := by
  obtain ⟨h1, h2, h3, h4⟩ := hw
  dsimp only at h3 h4
  rw [sl_43] at hs
  repeat' split at hs
  all_goals first | (cases hs; done) | cases hs
  all_goals try simp only [List.forall_mem_cons] at h2
  all_goals exact ⟨⟨h1, by first | exact h2 | exact h2.2 | exact h2.2.2 | exact h2.2.2.2 | exact List.forall_mem_cons.mpr ⟨trivial, h2⟩ | exact List.forall_mem_cons.mpr ⟨trivial, h2.2⟩ | exact List.forall_mem_cons.mpr ⟨trivial, h2.2.2⟩, h3, h4⟩, rfl, rfl⟩
set_option maxHeartbeats 1000000 in
theorem wf_0 {m pc a b k : Nat} {v : Int} {tg : List Nat} {ls st ls' st' : List eV} {n e0 : Nat} {pp : Nat → Nat → Nat} {hh : Nat → Nat → Int} {μ' : eM} {pc' : Nat} (hk : chk m pc (0, a, b, k, v, tg) = true) (hw : eWf ls st (n, e0, pp, hh)) (hs : eSel ewK ewL ewT X pc (0, a, b, k, v, tg) ls st (n, e0, pp, hh) = some (.inl (pc', ls', st', μ'))) : eWf ls' st' μ' ∧ μ'.1 = n ∧ μ'.2.1 = e0 := by
  obtain ⟨h1, h2, h3, h4⟩ := hw
  dsimp only at h3 h4
  rw [sl_0] at hs
  repeat' split at hs
  all_goals first | (cases hs; done) | cases hs
  all_goals try simp only [List.forall_mem_cons] at h2
  all_goals exact ⟨⟨h1, by first | exact h2 | exact h2.2 | exact h2.2.2 | exact h2.2.2.2 | exact List.forall_mem_cons.mpr ⟨trivial, h2⟩ | exact List.forall_mem_cons.mpr ⟨trivial, h2.2⟩ | exact List.forall_mem_cons.mpr ⟨trivial, h2.2.2⟩, h3, h4⟩, rfl, rfl⟩
set_option maxHeartbeats 1000000 in
theorem wf_50 {m pc a b k : Nat} {v : Int} {tg : List Nat} {ls st ls' st' : List eV} {n e0 : Nat} {pp : Nat → Nat → Nat} {hh : Nat → Nat → Int} {μ' : eM} {pc' : Nat} (hk : chk m pc (50, a, b, k, v, tg) = true) (hw : eWf ls st (n, e0, pp, hh)) (hs : eSel ewK ewL ewT X pc (50, a, b, k, v, tg) ls st (n, e0, pp, hh) = some (.inl (pc', ls', st', μ'))) : eWf ls' st' μ' ∧ μ'.1 = n ∧ μ'.2.1 = e0 := by
  obtain ⟨h1, h2, h3, h4⟩ := hw
  dsimp only at h3 h4
  rw [sl_50] at hs
  repeat' split at hs
  all_goals first | (cases hs; done) | cases hs
  all_goals try simp only [List.forall_mem_cons] at h2
  all_goals exact ⟨⟨h1, by first | exact h2 | exact h2.2 | exact h2.2.2 | exact h2.2.2.2 | exact List.forall_mem_cons.mpr ⟨trivial, h2⟩ | exact List.forall_mem_cons.mpr ⟨trivial, h2.2⟩ | exact List.forall_mem_cons.mpr ⟨trivial, h2.2.2⟩, h3, h4⟩, rfl, rfl⟩
set_option maxHeartbeats 1000000 in
theorem wf_1 {m pc a b k : Nat} {v : Int} {tg : List Nat} {ls st ls' st' : List eV} {n e0 : Nat} {pp : Nat → Nat → Nat} {hh : Nat → Nat → Int} {μ' : eM} {pc' : Nat} (hk : chk m pc (1, a, b, k, v, tg) = true) (hw : eWf ls st (n, e0, pp, hh)) (hs : eSel ewK ewL ewT X pc (1, a, b, k, v, tg) ls st (n, e0, pp, hh) = some (.inl (pc', ls', st', μ'))) : eWf ls' st' μ' ∧ μ'.1 = n ∧ μ'.2.1 = e0 := by
  obtain ⟨h1, h2, h3, h4⟩ := hw
  dsimp only at h3 h4
  rw [sl_1] at hs
  split at hs
  next x hl9 =>
    cases hs
    refine ⟨⟨h1, ?_, h3, h4⟩, rfl, rfl⟩
    simp only [List.forall_mem_cons]
    exact ⟨h1 _ (List.mem_of_getElem? hl9), h2⟩
  · cases hs
set_option maxHeartbeats 1000000 in
theorem wf_2 {m pc a b k : Nat} {v : Int} {tg : List Nat} {ls st ls' st' : List eV} {n e0 : Nat} {pp : Nat → Nat → Nat} {hh : Nat → Nat → Int} {μ' : eM} {pc' : Nat} (hk : chk m pc (2, a, b, k, v, tg) = true) (hw : eWf ls st (n, e0, pp, hh)) (hs : eSel ewK ewL ewT X pc (2, a, b, k, v, tg) ls st (n, e0, pp, hh) = some (.inl (pc', ls', st', μ'))) : eWf ls' st' μ' ∧ μ'.1 = n ∧ μ'.2.1 = e0 := by
  obtain ⟨h1, h2, h3, h4⟩ := hw
  dsimp only at h3 h4
  rw [sl_2] at hs
  cases hs
  refine ⟨⟨h1, ?_, h3, h4⟩, rfl, rfl⟩
  simp only [List.forall_mem_cons]
  refine ⟨?_, h2⟩
  rw [ck_2] at hk
  simp only [Bool.and_eq_true] at hk
  have h5 := hk.1
  simp only [inB, decide_eq_true_eq] at h5
  show inR v
  unfold inR
  omega
set_option maxHeartbeats 1000000 in
theorem wf_39 {m pc a b k : Nat} {v : Int} {tg : List Nat} {ls st ls' st' : List eV} {n e0 : Nat} {pp : Nat → Nat → Nat} {hh : Nat → Nat → Int} {μ' : eM} {pc' : Nat} (hk : chk m pc (39, a, b, k, v, tg) = true) (hw : eWf ls st (n, e0, pp, hh)) (hs : eSel ewK ewL ewT X pc (39, a, b, k, v, tg) ls st (n, e0, pp, hh) = some (.inl (pc', ls', st', μ'))) : eWf ls' st' μ' ∧ μ'.1 = n ∧ μ'.2.1 = e0 := by
  obtain ⟨h1, h2, h3, h4⟩ := hw
  dsimp only at h3 h4
  rw [sl_39] at hs
  cases hs
  refine ⟨⟨h1, ?_, h3, h4⟩, rfl, rfl⟩
  simp only [List.forall_mem_cons]
  refine ⟨?_, h2⟩
  rw [ck_39] at hk
  simp only [Bool.and_eq_true] at hk
  have h5 := hk.1
  simp only [inB8, decide_eq_true_eq] at h5
  show inR8 v
  unfold inR8
  omega
set_option maxHeartbeats 1000000 in
theorem wf_8 {m pc a b k : Nat} {v : Int} {tg : List Nat} {ls st ls' st' : List eV} {n e0 : Nat} {pp : Nat → Nat → Nat} {hh : Nat → Nat → Int} {μ' : eM} {pc' : Nat} (hk : chk m pc (8, a, b, k, v, tg) = true) (hw : eWf ls st (n, e0, pp, hh)) (hs : eSel ewK ewL ewT X pc (8, a, b, k, v, tg) ls st (n, e0, pp, hh) = some (.inl (pc', ls', st', μ'))) : eWf ls' st' μ' ∧ μ'.1 = n ∧ μ'.2.1 = e0 := by
  obtain ⟨h1, h2, h3, h4⟩ := hw
  dsimp only at h3 h4
  rw [sl_8] at hs
  repeat' split at hs
  all_goals first | (cases hs; done) | cases hs
  all_goals try simp only [List.forall_mem_cons] at h2
  all_goals exact ⟨⟨h1, by first | exact h2 | exact h2.2 | exact h2.2.2 | exact h2.2.2.2 | exact List.forall_mem_cons.mpr ⟨wr_in _, h2⟩ | exact List.forall_mem_cons.mpr ⟨wr_in _, h2.2⟩ | exact List.forall_mem_cons.mpr ⟨wr_in _, h2.2.2⟩, h3, h4⟩, rfl, rfl⟩
set_option maxHeartbeats 1000000 in
theorem wf_18 {m pc a b k : Nat} {v : Int} {tg : List Nat} {ls st ls' st' : List eV} {n e0 : Nat} {pp : Nat → Nat → Nat} {hh : Nat → Nat → Int} {μ' : eM} {pc' : Nat} (hk : chk m pc (18, a, b, k, v, tg) = true) (hw : eWf ls st (n, e0, pp, hh)) (hs : eSel ewK ewL ewT X pc (18, a, b, k, v, tg) ls st (n, e0, pp, hh) = some (.inl (pc', ls', st', μ'))) : eWf ls' st' μ' ∧ μ'.1 = n ∧ μ'.2.1 = e0 := by
  obtain ⟨h1, h2, h3, h4⟩ := hw
  dsimp only at h3 h4
  rw [sl_18] at hs
  repeat' split at hs
  all_goals first | (cases hs; done) | cases hs
  all_goals try simp only [List.forall_mem_cons] at h2
  all_goals exact ⟨⟨h1, by first | exact h2 | exact h2.2 | exact h2.2.2 | exact h2.2.2.2 | exact List.forall_mem_cons.mpr ⟨wr_in _, h2⟩ | exact List.forall_mem_cons.mpr ⟨wr_in _, h2.2⟩ | exact List.forall_mem_cons.mpr ⟨wr_in _, h2.2.2⟩, h3, h4⟩, rfl, rfl⟩
set_option maxHeartbeats 1000000 in
theorem wf_22 {m pc a b k : Nat} {v : Int} {tg : List Nat} {ls st ls' st' : List eV} {n e0 : Nat} {pp : Nat → Nat → Nat} {hh : Nat → Nat → Int} {μ' : eM} {pc' : Nat} (hk : chk m pc (22, a, b, k, v, tg) = true) (hw : eWf ls st (n, e0, pp, hh)) (hs : eSel ewK ewL ewT X pc (22, a, b, k, v, tg) ls st (n, e0, pp, hh) = some (.inl (pc', ls', st', μ'))) : eWf ls' st' μ' ∧ μ'.1 = n ∧ μ'.2.1 = e0 := by
  obtain ⟨h1, h2, h3, h4⟩ := hw
  dsimp only at h3 h4
  rw [sl_22] at hs
  repeat' split at hs
  all_goals first | (cases hs; done) | cases hs
  all_goals try simp only [List.forall_mem_cons] at h2
  all_goals exact ⟨⟨h1, by first | exact h2 | exact h2.2 | exact h2.2.2 | exact h2.2.2.2 | exact List.forall_mem_cons.mpr ⟨wr_in _, h2⟩ | exact List.forall_mem_cons.mpr ⟨wr_in _, h2.2⟩ | exact List.forall_mem_cons.mpr ⟨wr_in _, h2.2.2⟩, h3, h4⟩, rfl, rfl⟩
set_option maxHeartbeats 1000000 in
theorem wf_19 {m pc a b k : Nat} {v : Int} {tg : List Nat} {ls st ls' st' : List eV} {n e0 : Nat} {pp : Nat → Nat → Nat} {hh : Nat → Nat → Int} {μ' : eM} {pc' : Nat} (hk : chk m pc (19, a, b, k, v, tg) = true) (hw : eWf ls st (n, e0, pp, hh)) (hs : eSel ewK ewL ewT X pc (19, a, b, k, v, tg) ls st (n, e0, pp, hh) = some (.inl (pc', ls', st', μ'))) : eWf ls' st' μ' ∧ μ'.1 = n ∧ μ'.2.1 = e0 := by
  obtain ⟨h1, h2, h3, h4⟩ := hw
  dsimp only at h3 h4
  rw [sl_19] at hs
  repeat' split at hs
  all_goals first | (cases hs; done) | cases hs
  all_goals try simp only [List.forall_mem_cons] at h2
  all_goals exact ⟨⟨h1, by first | exact h2 | exact h2.2 | exact h2.2.2 | exact h2.2.2.2 | exact List.forall_mem_cons.mpr ⟨(inR_8 h2.1), h2⟩ | exact List.forall_mem_cons.mpr ⟨(inR_8 h2.1), h2.2⟩ | exact List.forall_mem_cons.mpr ⟨(inR_8 h2.1), h2.2.2⟩, h3, h4⟩, rfl, rfl⟩
set_option maxHeartbeats 1000000 in
theorem wf_15 {m pc a b k : Nat} {v : Int} {tg : List Nat} {ls st ls' st' : List eV} {n e0 : Nat} {pp : Nat → Nat → Nat} {hh : Nat → Nat → Int} {μ' : eM} {pc' : Nat} (hk : chk m pc (15, a, b, k, v, tg) = true) (hw : eWf ls st (n, e0, pp, hh)) (hs : eSel ewK ewL ewT X pc (15, a, b, k, v, tg) ls st (n, e0, pp, hh) = some (.inl (pc', ls', st', μ'))) : eWf ls' st' μ' ∧ μ'.1 = n ∧ μ'.2.1 = e0 := by
  obtain ⟨h1, h2, h3, h4⟩ := hw
  dsimp only at h3 h4
  rw [sl_15] at hs
  repeat' split at hs
  all_goals first | (cases hs; done) | cases hs
  all_goals
    simp only [List.forall_mem_cons] at h2
    exact ⟨⟨h1, List.forall_mem_cons.mpr ⟨h2.1, List.forall_mem_cons.mpr h2⟩, h3, h4⟩, rfl, rfl⟩
set_option maxHeartbeats 1000000 in
theorem wf_29 {m pc a b k : Nat} {v : Int} {tg : List Nat} {ls st ls' st' : List eV} {n e0 : Nat} {pp : Nat → Nat → Nat} {hh : Nat → Nat → Int} {μ' : eM} {pc' : Nat} (hk : chk m pc (29, a, b, k, v, tg) = true) (hw : eWf ls st (n, e0, pp, hh)) (hs : eSel ewK ewL ewT X pc (29, a, b, k, v, tg) ls st (n, e0, pp, hh) = some (.inl (pc', ls', st', μ'))) : eWf ls' st' μ' ∧ μ'.1 = n ∧ μ'.2.1 = e0 := by
  obtain ⟨h1, h2, h3, h4⟩ := hw
  dsimp only at h3 h4
  rw [sl_29] at hs
  repeat' split at hs
  all_goals first | (cases hs; done) | cases hs
  all_goals try simp only [List.forall_mem_cons] at h2
  all_goals exact ⟨⟨h1, by first | exact h2 | exact h2.2 | exact h2.2.2 | exact h2.2.2.2 | exact List.forall_mem_cons.mpr ⟨(by show inR _; unfold inR; (repeat' split) <;> omega), h2⟩ | exact List.forall_mem_cons.mpr ⟨(by show inR _; unfold inR; (repeat' split) <;> omega), h2.2⟩ | exact List.forall_mem_cons.mpr ⟨(by show inR _; unfold inR; (repeat' split) <;> omega), h2.2.2⟩, h3, h4⟩, rfl, rfl⟩
set_option maxHeartbeats 1000000 in
theorem wf_34 {m pc a b k : Nat} {v : Int} {tg : List Nat} {ls st ls' st' : List eV} {n e0 : Nat} {pp : Nat → Nat → Nat} {hh : Nat → Nat → Int} {μ' : eM} {pc' : Nat} (hk : chk m pc (34, a, b, k, v, tg) = true) (hw : eWf ls st (n, e0, pp, hh)) (hs : eSel ewK ewL ewT X pc (34, a, b, k, v, tg) ls st (n, e0, pp, hh) = some (.inl (pc', ls', st', μ'))) : eWf ls' st' μ' ∧ μ'.1 = n ∧ μ'.2.1 = e0 := by
  obtain ⟨h1, h2, h3, h4⟩ := hw
  dsimp only at h3 h4
  rw [sl_34] at hs
  repeat' split at hs
  all_goals first | (cases hs; done) | cases hs
  all_goals try simp only [List.forall_mem_cons] at h2
  all_goals exact ⟨⟨h1, by first | exact h2 | exact h2.2 | exact h2.2.2 | exact h2.2.2.2 | exact List.forall_mem_cons.mpr ⟨(by show inR _; unfold inR; omega), h2⟩ | exact List.forall_mem_cons.mpr ⟨(by show inR _; unfold inR; omega), h2.2⟩ | exact List.forall_mem_cons.mpr ⟨(by show inR _; unfold inR; omega), h2.2.2⟩, h3, h4⟩, rfl, rfl⟩
set_option maxHeartbeats 1000000 in
theorem wf_42 {m pc a b k : Nat} {v : Int} {tg : List Nat} {ls st ls' st' : List eV} {n e0 : Nat} {pp : Nat → Nat → Nat} {hh : Nat → Nat → Int} {μ' : eM} {pc' : Nat} (hk : chk m pc (42, a, b, k, v, tg) = true) (hw : eWf ls st (n, e0, pp, hh)) (hs : eSel ewK ewL ewT X pc (42, a, b, k, v, tg) ls st (n, e0, pp, hh) = some (.inl (pc', ls', st', μ'))) : eWf ls' st' μ' ∧ μ'.1 = n ∧ μ'.2.1 = e0 := by
  obtain ⟨h1, h2, h3, h4⟩ := hw
  dsimp only at h3 h4
  rw [sl_42] at hs
  split at hs
  next y x st2 =>
    split at hs
    · cases hs
    next h0 =>
      cases hs
      simp only [List.forall_mem_cons] at h2
      exact ⟨⟨h1, List.forall_mem_cons.mpr ⟨tm_in h2.1 h0, h2.2.2⟩, h3, h4⟩, rfl, rfl⟩
  · cases hs
set_option maxHeartbeats 1000000 in
theorem wf_45 {m pc a b k : Nat} {v : Int} {tg : List Nat} {ls st ls' st' : List eV} {n e0 : Nat} {pp : Nat → Nat → Nat} {hh : Nat → Nat → Int} {μ' : eM} {pc' : Nat} (hk : chk m pc (45, a, b, k, v, tg) = true) (hw : eWf ls st (n, e0, pp, hh)) (hs : eSel ewK ewL ewT X pc (45, a, b, k, v, tg) ls st (n, e0, pp, hh) = some (.inl (pc', ls', st', μ'))) : eWf ls' st' μ' ∧ μ'.1 = n ∧ μ'.2.1 = e0 := by
  obtain ⟨h1, h2, h3, h4⟩ := hw
  dsimp only at h3 h4
  rw [sl_45] at hs
  repeat' split at hs
  all_goals first | (cases hs; done) | cases hs
  all_goals try simp only [List.forall_mem_cons] at h2
  all_goals exact ⟨⟨h1, by first | exact h2 | exact h2.2 | exact h2.2.2 | exact h2.2.2.2 | exact List.forall_mem_cons.mpr ⟨wr_in _, h2⟩ | exact List.forall_mem_cons.mpr ⟨wr_in _, h2.2⟩ | exact List.forall_mem_cons.mpr ⟨wr_in _, h2.2.2⟩, h3, h4⟩, rfl, rfl⟩
set_option maxHeartbeats 1000000 in
theorem wf_16 {m pc a b k : Nat} {v : Int} {tg : List Nat} {ls st ls' st' : List eV} {n e0 : Nat} {pp : Nat → Nat → Nat} {hh : Nat → Nat → Int} {μ' : eM} {pc' : Nat} (hk : chk m pc (16, a, b, k, v, tg) = true) (hw : eWf ls st (n, e0, pp, hh)) (hs : eSel ewK ewL ewT X pc (16, a, b, k, v, tg) ls st (n, e0, pp, hh) = some (.inl (pc', ls', st', μ'))) : eWf ls' st' μ' ∧ μ'.1 = n ∧ μ'.2.1 = e0 := by
  obtain ⟨h1, h2, h3, h4⟩ := hw
  dsimp only at h3 h4
  rw [sl_16] at hs
  split at hs
  next x hl9 =>
    cases hs
    exact ⟨⟨eSt_vw h1 (wr_in _), h2, h3, h4⟩, rfl, rfl⟩
  · cases hs
set_option maxHeartbeats 1000000 in
theorem wf_14 {m pc a b k : Nat} {v : Int} {tg : List Nat} {ls st ls' st' : List eV} {n e0 : Nat} {pp : Nat → Nat → Nat} {hh : Nat → Nat → Int} {μ' : eM} {pc' : Nat} (hk : chk m pc (14, a, b, k, v, tg) = true) (hw : eWf ls st (n, e0, pp, hh)) (hs : eSel ewK ewL ewT X pc (14, a, b, k, v, tg) ls st (n, e0, pp, hh) = some (.inl (pc', ls', st', μ'))) : eWf ls' st' μ' ∧ μ'.1 = n ∧ μ'.2.1 = e0 := by
  obtain ⟨h1, h2, h3, h4⟩ := hw
  dsimp only at h3 h4
  rw [sl_14] at hs
  repeat' split at hs
  all_goals first | (cases hs; done) | cases hs
  all_goals try simp only [List.forall_mem_cons] at h2
  all_goals exact ⟨⟨eSt_vw h1 h2.1, by first | exact h2 | exact h2.2 | exact h2.2.2 | exact h2.2.2.2 | exact List.forall_mem_cons.mpr ⟨trivial, h2⟩ | exact List.forall_mem_cons.mpr ⟨trivial, h2.2⟩ | exact List.forall_mem_cons.mpr ⟨trivial, h2.2.2⟩, h3, h4⟩, rfl, rfl⟩
set_option maxHeartbeats 1000000 in
theorem wf_21 {m pc a b k : Nat} {v : Int} {tg : List Nat} {ls st ls' st' : List eV} {n e0 : Nat} {pp : Nat → Nat → Nat} {hh : Nat → Nat → Int} {μ' : eM} {pc' : Nat} (hk : chk m pc (21, a, b, k, v, tg) = true) (hw : eWf ls st (n, e0, pp, hh)) (hs : eSel ewK ewL ewT X pc (21, a, b, k, v, tg) ls st (n, e0, pp, hh) = some (.inl (pc', ls', st', μ'))) : eWf ls' st' μ' ∧ μ'.1 = n ∧ μ'.2.1 = e0 := by
  obtain ⟨h1, h2, h3, h4⟩ := hw
  dsimp only at h3 h4
  rw [sl_21] at hs
  repeat' split at hs
  all_goals first | (cases hs; done) | cases hs
  all_goals try simp only [List.forall_mem_cons] at h2
  all_goals exact ⟨⟨eSt_vw h1 trivial, by first | exact h2 | exact h2.2 | exact h2.2.2 | exact h2.2.2.2 | exact List.forall_mem_cons.mpr ⟨trivial, h2⟩ | exact List.forall_mem_cons.mpr ⟨trivial, h2.2⟩ | exact List.forall_mem_cons.mpr ⟨trivial, h2.2.2⟩, h3, h4⟩, rfl, rfl⟩
set_option maxHeartbeats 1000000 in
theorem wf_4 {m pc a b k : Nat} {v : Int} {tg : List Nat} {ls st ls' st' : List eV} {n e0 : Nat} {pp : Nat → Nat → Nat} {hh : Nat → Nat → Int} {μ' : eM} {pc' : Nat} (hk : chk m pc (4, a, b, k, v, tg) = true) (hw : eWf ls st (n, e0, pp, hh)) (hs : eSel ewK ewL ewT X pc (4, a, b, k, v, tg) ls st (n, e0, pp, hh) = some (.inl (pc', ls', st', μ'))) : eWf ls' st' μ' ∧ μ'.1 = n ∧ μ'.2.1 = e0 := by
  obtain ⟨h1, h2, h3, h4⟩ := hw
  dsimp only at h3 h4
  rw [sl_4] at hs
  rw [ck_4] at hk
  split at hs
  next x st2 =>
    split at hs
    next hkn =>
      split at hk
      next idx hd =>
        simp only [Bool.and_eq_true, decide_eq_true_eq] at hk
        have hkd := (lkF hk.1.2).1
        cases hs
        simp only [List.forall_mem_cons] at h2
        exact ⟨⟨h1, List.forall_mem_cons.mpr ⟨h3 _ _ (kn24 hkd hkn), h2.2⟩, h3, h4⟩, rfl, rfl⟩
      · cases hk
    · cases hs
  · cases hs
set_option maxHeartbeats 1000000 in
theorem wf_5 {m pc a b k : Nat} {v : Int} {tg : List Nat} {ls st ls' st' : List eV} {n e0 : Nat} {pp : Nat → Nat → Nat} {hh : Nat → Nat → Int} {μ' : eM} {pc' : Nat} (hk : chk m pc (5, a, b, k, v, tg) = true) (hw : eWf ls st (n, e0, pp, hh)) (hs : eSel ewK ewL ewT X pc (5, a, b, k, v, tg) ls st (n, e0, pp, hh) = some (.inl (pc', ls', st', μ'))) : eWf ls' st' μ' ∧ μ'.1 = n ∧ μ'.2.1 = e0 := by
  obtain ⟨h1, h2, h3, h4⟩ := hw
  dsimp only at h3 h4
  rw [sl_5] at hs
  repeat' split at hs
  all_goals first | (cases hs; done) | cases hs
  all_goals try simp only [List.forall_mem_cons] at h2
  all_goals exact ⟨⟨h1, by first | exact h2 | exact h2.2 | exact h2.2.2 | exact h2.2.2.2 | exact List.forall_mem_cons.mpr ⟨trivial, h2⟩ | exact List.forall_mem_cons.mpr ⟨trivial, h2.2⟩ | exact List.forall_mem_cons.mpr ⟨trivial, h2.2.2⟩, h3, h4⟩, rfl, rfl⟩
set_option maxHeartbeats 1000000 in
theorem wf_68 {m pc a b k : Nat} {v : Int} {tg : List Nat} {ls st ls' st' : List eV} {n e0 : Nat} {pp : Nat → Nat → Nat} {hh : Nat → Nat → Int} {μ' : eM} {pc' : Nat} (hk : chk m pc (68, a, b, k, v, tg) = true) (hw : eWf ls st (n, e0, pp, hh)) (hs : eSel ewK ewL ewT X pc (68, a, b, k, v, tg) ls st (n, e0, pp, hh) = some (.inl (pc', ls', st', μ'))) : eWf ls' st' μ' ∧ μ'.1 = n ∧ μ'.2.1 = e0 := by
  obtain ⟨h1, h2, h3, h4⟩ := hw
  dsimp only at h3 h4
  rw [sl_68] at hs
  repeat' split at hs
  all_goals first | (cases hs; done) | cases hs
  all_goals try simp only [List.forall_mem_cons] at h2
  all_goals exact ⟨⟨h1, by first | exact h2 | exact h2.2 | exact h2.2.2 | exact h2.2.2.2 | exact List.forall_mem_cons.mpr ⟨trivial, h2⟩ | exact List.forall_mem_cons.mpr ⟨trivial, h2.2⟩ | exact List.forall_mem_cons.mpr ⟨trivial, h2.2.2⟩, h3, h4⟩, rfl, rfl⟩
set_option maxHeartbeats 1000000 in
theorem wf_49 {m pc a b k : Nat} {v : Int} {tg : List Nat} {ls st ls' st' : List eV} {n e0 : Nat} {pp : Nat → Nat → Nat} {hh : Nat → Nat → Int} {μ' : eM} {pc' : Nat} (hk : chk m pc (49, a, b, k, v, tg) = true) (hw : eWf ls st (n, e0, pp, hh)) (hs : eSel ewK ewL ewT X pc (49, a, b, k, v, tg) ls st (n, e0, pp, hh) = some (.inl (pc', ls', st', μ'))) : eWf ls' st' μ' ∧ μ'.1 = n ∧ μ'.2.1 = e0 := by
  obtain ⟨h1, h2, h3, h4⟩ := hw
  dsimp only at h3 h4
  rw [sl_49] at hs
  repeat' split at hs
  all_goals first | (cases hs; done) | cases hs
  all_goals try simp only [List.forall_mem_cons] at h2
  all_goals exact ⟨⟨h1, by first | exact h2 | exact h2.2 | exact h2.2.2 | exact h2.2.2.2 | exact List.forall_mem_cons.mpr ⟨trivial, h2⟩ | exact List.forall_mem_cons.mpr ⟨trivial, h2.2⟩ | exact List.forall_mem_cons.mpr ⟨trivial, h2.2.2⟩, h3, h4⟩, rfl, rfl⟩
set_option maxHeartbeats 1000000 in
theorem wf_13 {m pc a b k : Nat} {v : Int} {tg : List Nat} {ls st ls' st' : List eV} {n e0 : Nat} {pp : Nat → Nat → Nat} {hh : Nat → Nat → Int} {μ' : eM} {pc' : Nat} (hk : chk m pc (13, a, b, k, v, tg) = true) (hw : eWf ls st (n, e0, pp, hh)) (hs : eSel ewK ewL ewT X pc (13, a, b, k, v, tg) ls st (n, e0, pp, hh) = some (.inl (pc', ls', st', μ'))) : eWf ls' st' μ' ∧ μ'.1 = n ∧ μ'.2.1 = e0 := by
  obtain ⟨h1, h2, h3, h4⟩ := hw
  dsimp only at h3 h4
  rw [sl_13] at hs
  split at hs
  next j x st2 =>
    split at hs
    next hg =>
      cases hs
      simp only [List.forall_mem_cons] at h2
      exact ⟨⟨h1, List.forall_mem_cons.mpr ⟨h3 _ _ (by rw [kn_k (by decide) hg.1]; decide), h2.2.2⟩, h3, h4⟩, rfl, rfl⟩
    · cases hs
  · cases hs
set_option maxHeartbeats 1000000 in
theorem wf_38 {m pc a b k : Nat} {v : Int} {tg : List Nat} {ls st ls' st' : List eV} {n e0 : Nat} {pp : Nat → Nat → Nat} {hh : Nat → Nat → Int} {μ' : eM} {pc' : Nat} (hk : chk m pc (38, a, b, k, v, tg) = true) (hw : eWf ls st (n, e0, pp, hh)) (hs : eSel ewK ewL ewT X pc (38, a, b, k, v, tg) ls st (n, e0, pp, hh) = some (.inl (pc', ls', st', μ'))) : eWf ls' st' μ' ∧ μ'.1 = n ∧ μ'.2.1 = e0 := by
  obtain ⟨h1, h2, h3, h4⟩ := hw
  dsimp only at h3 h4
  rw [sl_38] at hs
  split at hs
  next j x st2 =>
    split at hs
    next hg =>
      cases hs
      simp only [List.forall_mem_cons] at h2
      exact ⟨⟨h1, List.forall_mem_cons.mpr ⟨h3 _ _ (by rw [kn_k (by decide) hg.1]; decide), h2.2.2⟩, h3, h4⟩, rfl, rfl⟩
    · cases hs
  · cases hs
set_option maxHeartbeats 1000000 in
theorem wf_51 {m pc a b k : Nat} {v : Int} {tg : List Nat} {ls st ls' st' : List eV} {n e0 : Nat} {pp : Nat → Nat → Nat} {hh : Nat → Nat → Int} {μ' : eM} {pc' : Nat} (hk : chk m pc (51, a, b, k, v, tg) = true) (hw : eWf ls st (n, e0, pp, hh)) (hs : eSel ewK ewL ewT X pc (51, a, b, k, v, tg) ls st (n, e0, pp, hh) = some (.inl (pc', ls', st', μ'))) : eWf ls' st' μ' ∧ μ'.1 = n ∧ μ'.2.1 = e0 := by
  obtain ⟨h1, h2, h3, h4⟩ := hw
  dsimp only at h3 h4
  rw [sl_51] at hs
  split at hs
  next j x st2 =>
    split at hs
    next hg =>
      cases hs
      simp only [List.forall_mem_cons] at h2
      exact ⟨⟨h1, List.forall_mem_cons.mpr ⟨h3 _ _ (by rw [kn_k (by decide) hg.1]; decide), h2.2.2⟩, h3, h4⟩, rfl, rfl⟩
    · cases hs
  · cases hs
set_option maxHeartbeats 1000000 in
theorem wf_25 {m pc a b k : Nat} {v : Int} {tg : List Nat} {ls st ls' st' : List eV} {n e0 : Nat} {pp : Nat → Nat → Nat} {hh : Nat → Nat → Int} {μ' : eM} {pc' : Nat} (hk : chk m pc (25, a, b, k, v, tg) = true) (hw : eWf ls st (n, e0, pp, hh)) (hs : eSel ewK ewL ewT X pc (25, a, b, k, v, tg) ls st (n, e0, pp, hh) = some (.inl (pc', ls', st', μ'))) : eWf ls' st' μ' ∧ μ'.1 = n ∧ μ'.2.1 = e0 := by
  obtain ⟨h1, h2, h3, h4⟩ := hw
  dsimp only at h3 h4
  rw [sl_25] at hs
  split at hs
  next x st2 =>
    split at hs
    next hg =>
      cases hs
      simp only [List.forall_mem_cons] at h2
      refine ⟨⟨h1, List.forall_mem_cons.mpr ⟨?_, h2.2⟩, h3, h4⟩, rfl, rfl⟩
      have := ewL_big x
      show inR _
      unfold inR
      omega
    · cases hs
  · cases hs
set_option maxHeartbeats 1000000 in
theorem wf_11 {m pc a b k : Nat} {v : Int} {tg : List Nat} {ls st ls' st' : List eV} {n e0 : Nat} {pp : Nat → Nat → Nat} {hh : Nat → Nat → Int} {μ' : eM} {pc' : Nat} (hk : chk m pc (11, a, b, k, v, tg) = true) (hw : eWf ls st (n, e0, pp, hh)) (hs : eSel ewK ewL ewT X pc (11, a, b, k, v, tg) ls st (n, e0, pp, hh) = some (.inl (pc', ls', st', μ'))) : eWf ls' st' μ' ∧ μ'.1 = n ∧ μ'.2.1 = e0 := by
  obtain ⟨h1, h2, h3, h4⟩ := hw
  dsimp only at h3 h4
  rw [sl_11] at hs
  rw [ck_11] at hk
  split at hs
  next w x st2 =>
    split at hs
    next hg =>
      split at hk
      next idx hd =>
        simp only [Bool.and_eq_true, decide_eq_true_eq] at hk
        have hkd := (lkF hk.1.1.2).1
        cases hs
        simp only [List.forall_mem_cons] at h2
        exact ⟨⟨h1, h2.2.2, up_3 h3 h2.1, h4⟩, rfl, rfl⟩
      · cases hk
    · cases hs
  · cases hs
set_option maxHeartbeats 1000000 in
theorem wf_67 {m pc a b k : Nat} {v : Int} {tg : List Nat} {ls st ls' st' : List eV} {n e0 : Nat} {pp : Nat → Nat → Nat} {hh : Nat → Nat → Int} {μ' : eM} {pc' : Nat} (hk : chk m pc (67, a, b, k, v, tg) = true) (hw : eWf ls st (n, e0, pp, hh)) (hs : eSel ewK ewL ewT X pc (67, a, b, k, v, tg) ls st (n, e0, pp, hh) = some (.inl (pc', ls', st', μ'))) : eWf ls' st' μ' ∧ μ'.1 = n ∧ μ'.2.1 = e0 := by
  obtain ⟨h1, h2, h3, h4⟩ := hw
  dsimp only at h3 h4
  rw [sl_67] at hs
  rw [ck_67] at hk
  split at hs
  next w x st2 =>
    split at hs
    next hg =>
      split at hk
      next idx hd =>
        simp only [Bool.and_eq_true, decide_eq_true_eq] at hk
        have hkd := (lkF hk.1.1.2).1
        cases hs
        simp only [List.forall_mem_cons] at h2
        exact ⟨⟨h1, h2.2.2, up_3 h3 (by unfold inR; omega), h4⟩, rfl, rfl⟩
      · cases hk
    · cases hs
  · cases hs
set_option maxHeartbeats 1000000 in
theorem wf_69 {m pc a b k : Nat} {v : Int} {tg : List Nat} {ls st ls' st' : List eV} {n e0 : Nat} {pp : Nat → Nat → Nat} {hh : Nat → Nat → Int} {μ' : eM} {pc' : Nat} (hk : chk m pc (69, a, b, k, v, tg) = true) (hw : eWf ls st (n, e0, pp, hh)) (hs : eSel ewK ewL ewT X pc (69, a, b, k, v, tg) ls st (n, e0, pp, hh) = some (.inl (pc', ls', st', μ'))) : eWf ls' st' μ' ∧ μ'.1 = n ∧ μ'.2.1 = e0 := by
  obtain ⟨h1, h2, h3, h4⟩ := hw
  dsimp only at h3 h4
  rw [sl_69] at hs
  rw [ck_69] at hk
  split at hs
  next w x st2 =>
    split at hs
    next hg =>
      split at hk
      next idx hd =>
        simp only [Bool.and_eq_true, decide_eq_true_eq] at hk
        have hkd := (lkF hk.1.1.2).1
        cases hs
        simp only [List.forall_mem_cons] at h2
        exact ⟨⟨h1, h2.2.2, up_3 h3 (by unfold inR; omega), h4⟩, rfl, rfl⟩
      · cases hk
    · cases hs
  · cases hs
set_option maxHeartbeats 1000000 in
theorem wf_12 {m pc a b k : Nat} {v : Int} {tg : List Nat} {ls st ls' st' : List eV} {n e0 : Nat} {pp : Nat → Nat → Nat} {hh : Nat → Nat → Int} {μ' : eM} {pc' : Nat} (hk : chk m pc (12, a, b, k, v, tg) = true) (hw : eWf ls st (n, e0, pp, hh)) (hs : eSel ewK ewL ewT X pc (12, a, b, k, v, tg) ls st (n, e0, pp, hh) = some (.inl (pc', ls', st', μ'))) : eWf ls' st' μ' ∧ μ'.1 = n ∧ μ'.2.1 = e0 := by
  obtain ⟨h1, h2, h3, h4⟩ := hw
  dsimp only at h3 h4
  rw [sl_12] at hs
  repeat' split at hs
  all_goals first | (cases hs; done) | cases hs
  all_goals try simp only [List.forall_mem_cons] at h2
  all_goals exact ⟨⟨h1, by first | exact h2 | exact h2.2 | exact h2.2.2 | exact h2.2.2.2 | exact List.forall_mem_cons.mpr ⟨trivial, h2⟩ | exact List.forall_mem_cons.mpr ⟨trivial, h2.2⟩ | exact List.forall_mem_cons.mpr ⟨trivial, h2.2.2⟩, h3, h4⟩, rfl, rfl⟩
set_option maxHeartbeats 1000000 in
theorem wf_20 {m pc a b k : Nat} {v : Int} {tg : List Nat} {ls st ls' st' : List eV} {n e0 : Nat} {pp : Nat → Nat → Nat} {hh : Nat → Nat → Int} {μ' : eM} {pc' : Nat} (hk : chk m pc (20, a, b, k, v, tg) = true) (hw : eWf ls st (n, e0, pp, hh)) (hs : eSel ewK ewL ewT X pc (20, a, b, k, v, tg) ls st (n, e0, pp, hh) = some (.inl (pc', ls', st', μ'))) : eWf ls' st' μ' ∧ μ'.1 = n ∧ μ'.2.1 = e0 := by
  obtain ⟨h1, h2, h3, h4⟩ := hw
  dsimp only at h3 h4
  rw [sl_20] at hs
  split at hs
  next w j x st2 =>
    split at hs
    next hg =>
      cases hs
      simp only [List.forall_mem_cons] at h2
      have hkx := kn_k (by decide) hg.1
      exact ⟨⟨h1, h2.2.2.2, up_3 h3 h2.1, h4⟩, rfl, rfl⟩
    · cases hs
  · cases hs
set_option maxHeartbeats 1000000 in
theorem wf_41 {m pc a b k : Nat} {v : Int} {tg : List Nat} {ls st ls' st' : List eV} {n e0 : Nat} {pp : Nat → Nat → Nat} {hh : Nat → Nat → Int} {μ' : eM} {pc' : Nat} (hk : chk m pc (41, a, b, k, v, tg) = true) (hw : eWf ls st (n, e0, pp, hh)) (hs : eSel ewK ewL ewT X pc (41, a, b, k, v, tg) ls st (n, e0, pp, hh) = some (.inl (pc', ls', st', μ'))) : eWf ls' st' μ' ∧ μ'.1 = n ∧ μ'.2.1 = e0 := by
  obtain ⟨h1, h2, h3, h4⟩ := hw
  dsimp only at h3 h4
  rw [sl_41] at hs
  split at hs
  next w j x st2 =>
    split at hs
    next hg =>
      cases hs
      simp only [List.forall_mem_cons] at h2
      have hkx := kn_k (by decide) hg.1
      exact ⟨⟨h1, h2.2.2.2, up_3 h3 (by unfold inR; omega), h4⟩, rfl, rfl⟩
    · cases hs
  · cases hs
set_option maxHeartbeats 1000000 in
theorem wf_57 {m pc a b k : Nat} {v : Int} {tg : List Nat} {ls st ls' st' : List eV} {n e0 : Nat} {pp : Nat → Nat → Nat} {hh : Nat → Nat → Int} {μ' : eM} {pc' : Nat} (hk : chk m pc (57, a, b, k, v, tg) = true) (hw : eWf ls st (n, e0, pp, hh)) (hs : eSel ewK ewL ewT X pc (57, a, b, k, v, tg) ls st (n, e0, pp, hh) = some (.inl (pc', ls', st', μ'))) : eWf ls' st' μ' ∧ μ'.1 = n ∧ μ'.2.1 = e0 := by
  obtain ⟨h1, h2, h3, h4⟩ := hw
  dsimp only at h3 h4
  rw [sl_57] at hs
  split at hs
  next w j x st2 =>
    split at hs
    next hg =>
      cases hs
      simp only [List.forall_mem_cons] at h2
      have hkx := kn_k (by decide) hg.1
      exact ⟨⟨h1, h2.2.2.2, up_3 h3 (by unfold inR; omega), h4⟩, rfl, rfl⟩
    · cases hs
  · cases hs
set_option maxHeartbeats 1000000 in
theorem wf_26 {m pc a b k : Nat} {v : Int} {tg : List Nat} {ls st ls' st' : List eV} {n e0 : Nat} {pp : Nat → Nat → Nat} {hh : Nat → Nat → Int} {μ' : eM} {pc' : Nat} (hk : chk m pc (26, a, b, k, v, tg) = true) (hw : eWf ls st (n, e0, pp, hh)) (hs : eSel ewK ewL ewT X pc (26, a, b, k, v, tg) ls st (n, e0, pp, hh) = some (.inl (pc', ls', st', μ'))) : eWf ls' st' μ' ∧ μ'.1 = n + 1 ∧ μ'.2.1 = e0 ∧ e0 = 0 := by
  obtain ⟨h1, h2, h3, h4⟩ := hw
  dsimp only at h3 h4
  rw [sl_26] at hs
  rw [ck_26] at hk
  split at hs
  next hg =>
    split at hk
    next idx hd =>
      simp only [Bool.and_eq_true, decide_eq_true_eq] at hk
      have h9 := ly_out (n + 1) (by rw [hg.1]; exact (eKs_lt a hk.1.2).1)
      cases hs
      refine ⟨⟨h1, ?_, zr_3 h3, by show n + 1 ≤ 576; omega⟩, rfl, rfl, hg.2⟩
      simp only [List.forall_mem_cons]
      exact ⟨trivial, h2⟩
    · cases hk
  · cases hs
set_option maxHeartbeats 1000000 in
theorem wf_31 {m pc a b k : Nat} {v : Int} {tg : List Nat} {ls st ls' st' : List eV} {n e0 : Nat} {pp : Nat → Nat → Nat} {hh : Nat → Nat → Int} {μ' : eM} {pc' : Nat} (hk : chk m pc (31, a, b, k, v, tg) = true) (hw : eWf ls st (n, e0, pp, hh)) (hs : eSel ewK ewL ewT X pc (31, a, b, k, v, tg) ls st (n, e0, pp, hh) = some (.inl (pc', ls', st', μ'))) : eWf ls' st' μ' ∧ μ'.1 = n + 1 ∧ μ'.2.1 = e0 ∧ e0 = 0 := by
  obtain ⟨h1, h2, h3, h4⟩ := hw
  dsimp only at h3 h4
  rw [sl_31] at hs
  rw [ck_31] at hk
  have ha : ¬ a = 0 := by
    split at hk
    next idx hd =>
      simp only [Bool.and_eq_true, decide_eq_true_eq] at hk
      omega
    next idx hd =>
      simp only [Bool.and_eq_true, decide_eq_true_eq] at hk
      omega
    · cases hk
  split at hs
  next w st2 =>
    split at hs
    next hg =>
      have h9 := ly_out (n + 1) (by rw [hg.1]; exact ha)
      cases hs
      simp only [List.forall_mem_cons] at h2
      exact ⟨⟨h1, List.forall_mem_cons.mpr ⟨trivial, h2.2⟩, zr_3 h3, by show n + 1 ≤ 576; omega⟩, rfl, rfl, hg.2.2⟩
    · cases hs
  · cases hs
set_option maxHeartbeats 1000000 in
theorem wf_24 {m pc a b k : Nat} {v : Int} {tg : List Nat} {ls st ls' st' : List eV} {n e0 : Nat} {pp : Nat → Nat → Nat} {hh : Nat → Nat → Int} {μ' : eM} {pc' : Nat} (hk : chk m pc (24, a, b, k, v, tg) = true) (hw : eWf ls st (n, e0, pp, hh)) (hs : eSel ewK ewL ewT X pc (24, a, b, k, v, tg) ls st (n, e0, pp, hh) = some (.inl (pc', ls', st', μ'))) : eWf ls' st' μ' ∧ μ'.1 = n ∧ μ'.2.1 = e0 := by
  obtain ⟨h1, h2, h3, h4⟩ := hw
  dsimp only at h3 h4
  rw [sl_24] at hs
  repeat' split at hs
  all_goals first | (cases hs; done) | cases hs
  all_goals try simp only [List.forall_mem_cons] at h2
  all_goals exact ⟨⟨h1, by first | exact h2 | exact h2.2 | exact h2.2.2 | exact h2.2.2.2 | exact List.forall_mem_cons.mpr ⟨trivial, h2⟩ | exact List.forall_mem_cons.mpr ⟨trivial, h2.2⟩ | exact List.forall_mem_cons.mpr ⟨trivial, h2.2.2⟩, h3, h4⟩, rfl, rfl⟩
set_option maxHeartbeats 1000000 in
theorem wf_70 {m pc a b k : Nat} {v : Int} {tg : List Nat} {ls st ls' st' : List eV} {n e0 : Nat} {pp : Nat → Nat → Nat} {hh : Nat → Nat → Int} {μ' : eM} {pc' : Nat} (hk : chk m pc (70, a, b, k, v, tg) = true) (hw : eWf ls st (n, e0, pp, hh)) (hs : eSel ewK ewL ewT X pc (70, a, b, k, v, tg) ls st (n, e0, pp, hh) = some (.inl (pc', ls', st', μ'))) : eWf ls' st' μ' ∧ μ'.1 = n ∧ μ'.2.1 = e0 := by
  obtain ⟨h1, h2, h3, h4⟩ := hw
  dsimp only at h3 h4
  rw [sl_70] at hs
  repeat' split at hs
  all_goals first | (cases hs; done) | cases hs
  all_goals try simp only [List.forall_mem_cons] at h2
  all_goals exact ⟨⟨h1, by first | exact h2 | exact h2.2 | exact h2.2.2 | exact h2.2.2.2 | exact List.forall_mem_cons.mpr ⟨(by first | exact h2.1 | exact h2.2.1), h2⟩ | exact List.forall_mem_cons.mpr ⟨(by first | exact h2.1 | exact h2.2.1), h2.2⟩ | exact List.forall_mem_cons.mpr ⟨(by first | exact h2.1 | exact h2.2.1), h2.2.2⟩, h3, h4⟩, rfl, rfl⟩
set_option maxHeartbeats 1000000 in
theorem wf_71 {m pc a b k : Nat} {v : Int} {tg : List Nat} {ls st ls' st' : List eV} {n e0 : Nat} {pp : Nat → Nat → Nat} {hh : Nat → Nat → Int} {μ' : eM} {pc' : Nat} (hk : chk m pc (71, a, b, k, v, tg) = true) (hw : eWf ls st (n, e0, pp, hh)) (hs : eSel ewK ewL ewT X pc (71, a, b, k, v, tg) ls st (n, e0, pp, hh) = some (.inl (pc', ls', st', μ'))) : eWf ls' st' μ' ∧ μ'.1 = n ∧ μ'.2.1 = e0 := by
  obtain ⟨h1, h2, h3, h4⟩ := hw
  dsimp only at h3 h4
  rw [sl_71] at hs
  repeat' split at hs
  all_goals first | (cases hs; done) | cases hs
  all_goals try simp only [List.forall_mem_cons] at h2
  all_goals exact ⟨⟨h1, by first | exact h2 | exact h2.2 | exact h2.2.2 | exact h2.2.2.2 | exact List.forall_mem_cons.mpr ⟨(by first | exact h2.1 | exact h2.2.1), h2⟩ | exact List.forall_mem_cons.mpr ⟨(by first | exact h2.1 | exact h2.2.1), h2.2⟩ | exact List.forall_mem_cons.mpr ⟨(by first | exact h2.1 | exact h2.2.1), h2.2.2⟩, h3, h4⟩, rfl, rfl⟩
set_option maxHeartbeats 1000000 in
theorem wf_72 {m pc a b k : Nat} {v : Int} {tg : List Nat} {ls st ls' st' : List eV} {n e0 : Nat} {pp : Nat → Nat → Nat} {hh : Nat → Nat → Int} {μ' : eM} {pc' : Nat} (hk : chk m pc (72, a, b, k, v, tg) = true) (hw : eWf ls st (n, e0, pp, hh)) (hs : eSel ewK ewL ewT X pc (72, a, b, k, v, tg) ls st (n, e0, pp, hh) = some (.inl (pc', ls', st', μ'))) : eWf ls' st' μ' ∧ μ'.1 = n ∧ μ'.2.1 = e0 := by
  obtain ⟨h1, h2, h3, h4⟩ := hw
  dsimp only at h3 h4
  rw [sl_72] at hs
  repeat' split at hs
  all_goals first | (cases hs; done) | cases hs
  all_goals try simp only [List.forall_mem_cons] at h2
  all_goals exact ⟨⟨h1, by first | exact h2 | exact h2.2 | exact h2.2.2 | exact h2.2.2.2 | exact List.forall_mem_cons.mpr ⟨(by first | exact wr_in _ | exact h2.1), h2⟩ | exact List.forall_mem_cons.mpr ⟨(by first | exact wr_in _ | exact h2.1), h2.2⟩ | exact List.forall_mem_cons.mpr ⟨(by first | exact wr_in _ | exact h2.1), h2.2.2⟩, h3, h4⟩, rfl, rfl⟩
set_option maxHeartbeats 1000000 in
theorem wf_82 {m pc a b k : Nat} {v : Int} {tg : List Nat} {ls st ls' st' : List eV} {n e0 : Nat} {pp : Nat → Nat → Nat} {hh : Nat → Nat → Int} {μ' : eM} {pc' : Nat} (hk : chk m pc (82, a, b, k, v, tg) = true) (hw : eWf ls st (n, e0, pp, hh)) (hs : eSel ewK ewL ewT X pc (82, a, b, k, v, tg) ls st (n, e0, pp, hh) = some (.inl (pc', ls', st', μ'))) : eWf ls' st' μ' ∧ μ'.1 = n ∧ μ'.2.1 = e0 := by
  obtain ⟨h1, h2, h3, h4⟩ := hw
  dsimp only at h3 h4
  rw [sl_82] at hs
  split at hs
  next x st2 =>
    obtain ⟨t, ht⟩ := lk_go _ tg a (Nat.le_refl _) hs
    cases ht
    simp only [List.forall_mem_cons] at h2
    exact ⟨⟨h1, h2.2, h3, h4⟩, rfl, rfl⟩
  · cases hs
set_option maxHeartbeats 1000000 in
theorem wf_83 {m pc a b k : Nat} {v : Int} {tg : List Nat} {ls st ls' st' : List eV} {n e0 : Nat} {pp : Nat → Nat → Nat} {hh : Nat → Nat → Int} {μ' : eM} {pc' : Nat} (hk : chk m pc (83, a, b, k, v, tg) = true) (hw : eWf ls st (n, e0, pp, hh)) (hs : eSel ewK ewL ewT X pc (83, a, b, k, v, tg) ls st (n, e0, pp, hh) = some (.inl (pc', ls', st', μ'))) : eWf ls' st' μ' ∧ μ'.1 = n ∧ μ'.2.1 = e0 := by
  obtain ⟨h1, h2, h3, h4⟩ := hw
  dsimp only at h3 h4
  rw [sl_83] at hs
  split at hs
  next x hl9 =>
    cases hs
    refine ⟨⟨h1, ?_, h3, h4⟩, rfl, rfl⟩
    simp only [List.forall_mem_cons]
    exact ⟨h1 _ (List.mem_of_getElem? hl9), h2⟩
  · cases hs
set_option maxHeartbeats 1000000 in
theorem wf_84 {m pc a b k : Nat} {v : Int} {tg : List Nat} {ls st ls' st' : List eV} {n e0 : Nat} {pp : Nat → Nat → Nat} {hh : Nat → Nat → Int} {μ' : eM} {pc' : Nat} (hk : chk m pc (84, a, b, k, v, tg) = true) (hw : eWf ls st (n, e0, pp, hh)) (hs : eSel ewK ewL ewT X pc (84, a, b, k, v, tg) ls st (n, e0, pp, hh) = some (.inl (pc', ls', st', μ'))) : eWf ls' st' μ' ∧ μ'.1 = n ∧ μ'.2.1 = e0 := by
  obtain ⟨h1, h2, h3, h4⟩ := hw
  dsimp only at h3 h4
  rw [sl_84] at hs
  repeat' split at hs
  all_goals first | (cases hs; done) | cases hs
  all_goals try simp only [List.forall_mem_cons] at h2
  all_goals exact ⟨⟨set_vw (eSt_vw h1 h2.1) trivial, h2.2, h3, h4⟩, rfl, rfl⟩
set_option maxHeartbeats 1000000 in
theorem wf_85 {m pc a b k : Nat} {v : Int} {tg : List Nat} {ls st ls' st' : List eV} {n e0 : Nat} {pp : Nat → Nat → Nat} {hh : Nat → Nat → Int} {μ' : eM} {pc' : Nat} (hk : chk m pc (85, a, b, k, v, tg) = true) (hw : eWf ls st (n, e0, pp, hh)) (hs : eSel ewK ewL ewT X pc (85, a, b, k, v, tg) ls st (n, e0, pp, hh) = some (.inl (pc', ls', st', μ'))) : eWf ls' st' μ' ∧ μ'.1 = n ∧ μ'.2.1 = e0 := by
  obtain ⟨h1, h2, h3, h4⟩ := hw
  dsimp only at h3 h4
  rw [sl_85] at hs
  repeat' split at hs
  all_goals first | (cases hs; done) | cases hs
  all_goals try simp only [List.forall_mem_cons] at h2
  all_goals exact ⟨⟨h1, by first | exact h2 | exact h2.2 | exact h2.2.2 | exact h2.2.2.2 | exact List.forall_mem_cons.mpr ⟨wl_in _, h2⟩ | exact List.forall_mem_cons.mpr ⟨wl_in _, h2.2⟩ | exact List.forall_mem_cons.mpr ⟨wl_in _, h2.2.2⟩, h3, h4⟩, rfl, rfl⟩
set_option maxHeartbeats 1000000 in
theorem wf_86 {m pc a b k : Nat} {v : Int} {tg : List Nat} {ls st ls' st' : List eV} {n e0 : Nat} {pp : Nat → Nat → Nat} {hh : Nat → Nat → Int} {μ' : eM} {pc' : Nat} (hk : chk m pc (86, a, b, k, v, tg) = true) (hw : eWf ls st (n, e0, pp, hh)) (hs : eSel ewK ewL ewT X pc (86, a, b, k, v, tg) ls st (n, e0, pp, hh) = some (.inl (pc', ls', st', μ'))) : eWf ls' st' μ' ∧ μ'.1 = n ∧ μ'.2.1 = e0 := by
  obtain ⟨h1, h2, h3, h4⟩ := hw
  dsimp only at h3 h4
  rw [sl_86] at hs
  repeat' split at hs
  all_goals first | (cases hs; done) | cases hs
  all_goals try simp only [List.forall_mem_cons] at h2
  all_goals exact ⟨⟨h1, by first | exact h2 | exact h2.2 | exact h2.2.2 | exact h2.2.2.2 | exact List.forall_mem_cons.mpr ⟨wl_in _, h2⟩ | exact List.forall_mem_cons.mpr ⟨wl_in _, h2.2⟩ | exact List.forall_mem_cons.mpr ⟨wl_in _, h2.2.2⟩, h3, h4⟩, rfl, rfl⟩
set_option maxHeartbeats 1000000 in
theorem wf_87 {m pc a b k : Nat} {v : Int} {tg : List Nat} {ls st ls' st' : List eV} {n e0 : Nat} {pp : Nat → Nat → Nat} {hh : Nat → Nat → Int} {μ' : eM} {pc' : Nat} (hk : chk m pc (87, a, b, k, v, tg) = true) (hw : eWf ls st (n, e0, pp, hh)) (hs : eSel ewK ewL ewT X pc (87, a, b, k, v, tg) ls st (n, e0, pp, hh) = some (.inl (pc', ls', st', μ'))) : eWf ls' st' μ' ∧ μ'.1 = n ∧ μ'.2.1 = e0 := by
  obtain ⟨h1, h2, h3, h4⟩ := hw
  dsimp only at h3 h4
  rw [sl_87] at hs
  repeat' split at hs
  all_goals first | (cases hs; done) | cases hs
  all_goals try simp only [List.forall_mem_cons] at h2
  all_goals exact ⟨⟨h1, by first | exact h2 | exact h2.2 | exact h2.2.2 | exact h2.2.2.2 | exact List.forall_mem_cons.mpr ⟨wl_in _, h2⟩ | exact List.forall_mem_cons.mpr ⟨wl_in _, h2.2⟩ | exact List.forall_mem_cons.mpr ⟨wl_in _, h2.2.2⟩, h3, h4⟩, rfl, rfl⟩
set_option maxHeartbeats 1000000 in
theorem wf_88 {m pc a b k : Nat} {v : Int} {tg : List Nat} {ls st ls' st' : List eV} {n e0 : Nat} {pp : Nat → Nat → Nat} {hh : Nat → Nat → Int} {μ' : eM} {pc' : Nat} (hk : chk m pc (88, a, b, k, v, tg) = true) (hw : eWf ls st (n, e0, pp, hh)) (hs : eSel ewK ewL ewT X pc (88, a, b, k, v, tg) ls st (n, e0, pp, hh) = some (.inl (pc', ls', st', μ'))) : eWf ls' st' μ' ∧ μ'.1 = n ∧ μ'.2.1 = e0 := by
  obtain ⟨h1, h2, h3, h4⟩ := hw
  dsimp only at h3 h4
  rw [sl_88] at hs
  repeat' split at hs
  all_goals first | (cases hs; done) | cases hs
  all_goals try simp only [List.forall_mem_cons] at h2
  all_goals exact ⟨⟨h1, by first | exact h2 | exact h2.2 | exact h2.2.2 | exact h2.2.2.2 | exact List.forall_mem_cons.mpr ⟨wr_in _, h2⟩ | exact List.forall_mem_cons.mpr ⟨wr_in _, h2.2⟩ | exact List.forall_mem_cons.mpr ⟨wr_in _, h2.2.2⟩, h3, h4⟩, rfl, rfl⟩
set_option maxHeartbeats 1000000 in
theorem wf_90 {m pc a b k : Nat} {v : Int} {tg : List Nat} {ls st ls' st' : List eV} {n e0 : Nat} {pp : Nat → Nat → Nat} {hh : Nat → Nat → Int} {μ' : eM} {pc' : Nat} (hk : chk m pc (90, a, b, k, v, tg) = true) (hw : eWf ls st (n, e0, pp, hh)) (hs : eSel ewK ewL ewT X pc (90, a, b, k, v, tg) ls st (n, e0, pp, hh) = some (.inl (pc', ls', st', μ'))) : eWf ls' st' μ' ∧ μ'.1 = n ∧ μ'.2.1 = e0 := by
  obtain ⟨h1, h2, h3, h4⟩ := hw
  dsimp only at h3 h4
  rw [sl_90] at hs
  repeat' split at hs
  all_goals first | (cases hs; done) | cases hs
  all_goals try simp only [List.forall_mem_cons] at h2
  all_goals exact ⟨⟨h1, by first | exact h2 | exact h2.2 | exact h2.2.2 | exact h2.2.2.2 | exact List.forall_mem_cons.mpr ⟨trivial, h2⟩ | exact List.forall_mem_cons.mpr ⟨trivial, h2.2⟩ | exact List.forall_mem_cons.mpr ⟨trivial, h2.2.2⟩, h3, h4⟩, rfl, rfl⟩
set_option maxHeartbeats 1000000 in
theorem wf_91 {m pc a b k : Nat} {v : Int} {tg : List Nat} {ls st ls' st' : List eV} {n e0 : Nat} {pp : Nat → Nat → Nat} {hh : Nat → Nat → Int} {μ' : eM} {pc' : Nat} (hk : chk m pc (91, a, b, k, v, tg) = true) (hw : eWf ls st (n, e0, pp, hh)) (hs : eSel ewK ewL ewT X pc (91, a, b, k, v, tg) ls st (n, e0, pp, hh) = some (.inl (pc', ls', st', μ'))) : eWf ls' st' μ' ∧ μ'.1 = n ∧ μ'.2.1 = e0 := by
  obtain ⟨h1, h2, h3, h4⟩ := hw
  dsimp only at h3 h4
  rw [sl_91] at hs
  repeat' split at hs
  all_goals first | (cases hs; done) | cases hs
  all_goals try simp only [List.forall_mem_cons] at h2
  all_goals exact ⟨⟨h1, by first | exact h2 | exact h2.2 | exact h2.2.2 | exact h2.2.2.2 | exact List.forall_mem_cons.mpr ⟨shr_in h2.2.1 _, h2⟩ | exact List.forall_mem_cons.mpr ⟨shr_in h2.2.1 _, h2.2⟩ | exact List.forall_mem_cons.mpr ⟨shr_in h2.2.1 _, h2.2.2⟩, h3, h4⟩, rfl, rfl⟩
set_option maxHeartbeats 1000000 in
theorem wf_92 {m pc a b k : Nat} {v : Int} {tg : List Nat} {ls st ls' st' : List eV} {n e0 : Nat} {pp : Nat → Nat → Nat} {hh : Nat → Nat → Int} {μ' : eM} {pc' : Nat} (hk : chk m pc (92, a, b, k, v, tg) = true) (hw : eWf ls st (n, e0, pp, hh)) (hs : eSel ewK ewL ewT X pc (92, a, b, k, v, tg) ls st (n, e0, pp, hh) = some (.inl (pc', ls', st', μ'))) : eWf ls' st' μ' ∧ μ'.1 = n ∧ μ'.2.1 = e0 := by
  obtain ⟨h1, h2, h3, h4⟩ := hw
  dsimp only at h3 h4
  rw [sl_92] at hs
  repeat' split at hs
  all_goals first | (cases hs; done) | cases hs
  all_goals try simp only [List.forall_mem_cons] at h2
  all_goals exact ⟨⟨h1, by first | exact h2 | exact h2.2 | exact h2.2.2 | exact h2.2.2.2 | exact List.forall_mem_cons.mpr ⟨(by show inR _; unfold inR; omega), h2⟩ | exact List.forall_mem_cons.mpr ⟨(by show inR _; unfold inR; omega), h2.2⟩ | exact List.forall_mem_cons.mpr ⟨(by show inR _; unfold inR; omega), h2.2.2⟩, h3, h4⟩, rfl, rfl⟩
set_option maxHeartbeats 1000000 in
theorem wf_93 {m pc a b k : Nat} {v : Int} {tg : List Nat} {ls st ls' st' : List eV} {n e0 : Nat} {pp : Nat → Nat → Nat} {hh : Nat → Nat → Int} {μ' : eM} {pc' : Nat} (hk : chk m pc (93, a, b, k, v, tg) = true) (hw : eWf ls st (n, e0, pp, hh)) (hs : eSel ewK ewL ewT X pc (93, a, b, k, v, tg) ls st (n, e0, pp, hh) = some (.inl (pc', ls', st', μ'))) : eWf ls' st' μ' ∧ μ'.1 = n ∧ μ'.2.1 = e0 := by
  obtain ⟨h1, h2, h3, h4⟩ := hw
  dsimp only at h3 h4
  rw [sl_93] at hs
  repeat' split at hs
  all_goals first | (cases hs; done) | cases hs
  all_goals try simp only [List.forall_mem_cons] at h2
  all_goals exact ⟨⟨h1, by first | exact h2 | exact h2.2 | exact h2.2.2 | exact h2.2.2.2 | exact List.forall_mem_cons.mpr ⟨(by first | exact h2.1 | exact h2.2.1), h2⟩ | exact List.forall_mem_cons.mpr ⟨(by first | exact h2.1 | exact h2.2.1), h2.2⟩ | exact List.forall_mem_cons.mpr ⟨(by first | exact h2.1 | exact h2.2.1), h2.2.2⟩, h3, h4⟩, rfl, rfl⟩
end
