/-! handlers: where a call's exception goes -/
/-- a class that is caught: its place, its word, which exception it is -/
def ctT : List (Nat × Nat × Nat) := [(13, 436, 1), (57, 751, 2), (59, 780, 3), (69, 834, 4), (80, 923, 5)]
/-- by the rows of the table, from the first on -/
def chG (m pc E : Nat) : List (Nat × Nat × Nat × Nat) → Bool
  | [] => decide (ewHnd m pc E = none)
  | (a, b, h, ct) :: r => if decide (a ≤ mPc m pc) && decide (mPc m pc < b) then (match ctT.find? (fun q => q.1 == ct) with
      | some (_, wi, E2) => decide (ct ≠ 0) && decide (1 ≤ E2 ∧ E2 ≤ 5) && decide (wd wi = some (.classLink (mNm m).cls ct (ewEx E2))) &&
        (if E2 = E then (match ewHnd m pc E with
          | some (t, k) => decide (k < ewMax m) && (match decode (mBy m) h with
            | .ok (.astore j, 2) => decide (j = k) && decide (mPc m t = h + 2)
            | .ok (.astore_n j, 1) => decide ((j : Nat) = k) && decide (mPc m t = h + 1)
            | _ => false)
          | none => false) else chG m pc E r)
      | none => false) else chG m pc E r
def chXr (m pc : Nat) : Nat → Bool
  | 0 => true
  | E + 1 => chG m pc (E + 1) (mHh m) && chXr m pc E
/-- a call's place -/
def chXi (m : Nat) : Nat → List eI → Bool
  | _, [] => true
  | i, ins :: r => (if ins.1 = 3 then chXr m i 5 else true) && chXi m (i + 1) r
def chXm (m : Nat) : Bool := chXi m 0 (((cdAll.getD (m / 16) []).getD (m % 16) []).flatten)
def chXs (m : Nat) : Nat → Bool
  | 0 => true
  | j + 1 => chXm (m + j) && chXs m j
theorem chX_t : chXs 153 32 = true := by decide +kernel
theorem hnT_lo : hnTbl.all (fun q => decide (153 ≤ q.1) && decide (q.1 < 185)) = true := by decide +kernel
theorem mHh_hi : ∀ m, m < 186 → ¬ (153 ≤ m ∧ m < 185) → mHh m = [] := by decide +kernel
theorem ewHnd_out {m pc E : Nat} (h : ¬ (153 ≤ m ∧ m < 185)) : ewHnd m pc E = none := by
  unfold ewHnd
  cases hq : hnTbl.find? (fun q => q.1 == m && decide (q.2.1 ≤ pc) && decide (pc < q.2.2.1) && q.2.2.2.1 == E) with
  | none => rfl
  | some q =>
    exfalso
    have h1 := List.find?_some hq
    have h2 := List.all_eq_true.mp hnT_lo q (List.mem_of_find?_eq_some hq)
    simp only [Bool.and_eq_true, decide_eq_true_eq, beq_iff_eq] at h1 h2
    omega
theorem fl_at : ∀ (L : List (List eI)), (∀ x, x + 1 < L.length → (L.getD x []).length = 16) → ∀ i ins, (L.getD (i / 16) [])[i % 16]? = some ins → L.flatten[i]? = some ins := by
  intro L
  induction L with
  | nil => intro _ i ins h; simp at h
  | cons a r ih =>
    intro hl i ins h
    by_cases hi : i < 16
    · rw [show i / 16 = 0 by omega, show i % 16 = i by omega] at h
      have h1 : a[i]? = some ins := by simpa using h
      rw [List.flatten_cons, List.getElem?_append_left (List.getElem?_eq_some_iff.mp h1).1]
      exact h1
    · have hr : r ≠ [] := by
        intro hr
        subst hr
        rw [show i / 16 = (i - 16) / 16 + 1 by omega] at h
        simp at h
      have h16 : a.length = 16 := by
        have := hl 0 (by cases r with | nil => exact absurd rfl hr | cons x y => simp)
        simpa using this
      rw [List.flatten_cons, List.getElem?_append_right (by omega), h16]
      refine ih (fun x hx => ?_) (i - 16) ins ?_
      · have := hl (x + 1) (by simpa using hx)
        simpa using this
      · rw [show i / 16 = (i - 16) / 16 + 1 by omega, show i % 16 = (i - 16) % 16 by omega] at h
        simpa using h
def chB16 : List (List eI) → Bool
  | [] => true
  | [_] => true
  | a :: b :: r => decide (a.length = 16) && chB16 (b :: r)
theorem chB16_at : ∀ L : List (List eI), chB16 L = true → ∀ x, x + 1 < L.length → (L.getD x []).length = 16 := by
  intro L
  induction L with
  | nil => intro _ x hx; simp at hx
  | cons a r ih =>
    intro h x hx
    cases r with
    | nil => simp at hx
    | cons b r =>
      simp only [chB16, Bool.and_eq_true, decide_eq_true_eq] at h
      cases x with
      | zero => simpa using h.1
      | succ x =>
        have := ih h.2 x (by simpa using hx)
        simpa using this
theorem ch16_t : ∀ m, m < 32 → chB16 ((cdAll.getD ((153 + m) / 16) []).getD ((153 + m) % 16) []) = true := by decide +kernel
theorem chXi_at {m : Nat} : ∀ (L : List eI) (i0 i : Nat) (ins : eI), chXi m i0 L = true → L[i]? = some ins → ins.1 = 3 → chXr m (i0 + i) 5 = true := by
  intro L
  induction L with
  | nil => intro i0 i ins _ h; simp at h
  | cons x r ih =>
    intro i0 i ins h hi h3
    simp only [chXi, Bool.and_eq_true] at h
    cases i with
    | zero =>
      simp only [List.getElem?_cons_zero, Option.some.injEq] at hi
      subst hi
      have h1 := h.1
      rw [if_pos h3] at h1
      exact h1
    | succ i =>
      rw [List.getElem?_cons_succ] at hi
      have h1 := ih (i0 + 1) i ins h.2 hi h3
      rw [show i0 + 1 + i = i0 + (i + 1) by omega] at h1
      exact h1
theorem chXs_at {m : Nat} : ∀ (j k : Nat), chXs m j = true → k < j → chXm (m + k) = true := by
  intro j
  induction j with
  | zero => intro k _ h; omega
  | succ j ih =>
    intro k h hk
    simp only [chXs, Bool.and_eq_true] at h
    by_cases hj : k = j
    · subst hj; exact h.1
    · exact ih k h.2 (by omega)
theorem chXr_at {m pc : Nat} : ∀ (n E : Nat), chXr m pc n = true → 1 ≤ E → E ≤ n → chG m pc E (mHh m) = true := by
  intro n
  induction n with
  | zero => intro E _ h1 h2; omega
  | succ n ih =>
    intro E h h1 h2
    simp only [chXr, Bool.and_eq_true] at h
    by_cases hE : E = n + 1
    · subst hE; exact h.1
    · exact ih E h.2 h1 (by omega)
theorem chG_all {m pc E : Nat} {ins : eI} (hc : ewCode m pc = some ins) (h3 : ins.1 = 3) (h1 : 1 ≤ E) (h2 : E ≤ 5) : chG m pc E (mHh m) = true := by
  have hm := ewCode_lt hc
  by_cases hr : 153 ≤ m ∧ m < 185
  · have h4 := chXs_at _ (m - 153) chX_t (by omega)
    rw [show 153 + (m - 153) = m by omega] at h4
    have h5 := ch16_t (m - 153) (by omega)
    rw [show 153 + (m - 153) = m by omega] at h5
    unfold ewCode at hc
    have h6 := fl_at _ (chB16_at _ h5) pc ins hc
    have h7 := chXi_at _ 0 pc ins h4 h6 h3
    rw [Nat.zero_add] at h7
    exact chXr_at 5 E h7 h1 h2
  · rw [mHh_hi m hm hr]
    show decide (ewHnd m pc E = none) = true
    rw [ewHnd_out hr]
    rfl
theorem cast_in : ∀ E, 1 ≤ E → E ≤ 5 → Cond.castable (ewEx E) (ewEx E) ∈ ewL4 := by
  intro E h1 h2
  have h : E = 1 ∨ E = 2 ∨ E = 3 ∨ E = 4 ∨ E = 5 := by omega
  rcases h with rfl | rfl | rfl | rfl | rfl
  · exact in4 (wd_mem (j := 666) rfl) rfl
  · exact in4 (wd_mem (j := 764) rfl) rfl
  · exact in4 (wd_mem (j := 787) rfl) rfl
  · exact in4 (wd_mem (j := 878) rfl) rfl
  · exact in4 (wd_mem (j := 930) rfl) rfl
theorem eLR.putJ {B : Nat} {K : Nat → Nat} {s : State} {m : Nat} {H : Heap} {lsA ls' : Array Slot} {nL i : Nat} {L : List eV} {q : Nat} (h : eLR B K s m H lsA nL L) (h' : lv_has ls' nL ((i, Value.ref q) :: (eKn B K lsA L).filter (fun q => !(q.1 == i) && !(q.1 + 1 == i && q.2.category == 2)))) : eLR B K s m H ls' nL (eSt L i vJ) := by
  obtain ⟨h1, h2, h3⟩ := h'
  refine ⟨h1, h2, by rw [eSt_len]; exact h.2.2.1, ?_, ?_⟩
  · intro k v hk hj
    rcases eSt_at hk (nJ_of hj) with ⟨rfl, rfl, -⟩ | ⟨hne, hl, hd⟩
    · cases hj
    · exact h3 (k, cv B K v) (List.mem_cons_of_mem _ (eKn_fl B K hl (Or.inr ⟨eJT hj, hj, rfl⟩) hne hd))
  · intro hm k t h17 hk
    rcases eSt_at hk (fun z => by cases z) with ⟨-, hz, -⟩ | ⟨hne, hl, hd⟩
    · cases hz
    · obtain ⟨a, h4, h5⟩ := h.2.2.2.2 hm k t h17 hl
      exact ⟨a, h3 (k, .ref a) (List.mem_cons_of_mem _ (eKn_fl B K hl (Or.inl ⟨rfl, h4, rfl⟩) hne hd)), h5⟩
section
variable {B : Nat} {K : Nat → Nat} {dA : Nat → ClassId} {D : va_G}
variable {p : Program} {l : Launch} {e : Env} {R : Room} {s : State} {mI : MethodId} {args : Array Value} {below : List Frame} {meth : Method} {c : Code} {cells slots mc ms : Nat} {Q : State → Prop} {m : Nat}
/-- an exception over the frame at a call: by the table's rows from some place on -/
theorem hnd_go (C : eCx B K dA D p l s mI args meth c m) {pc E : Nat} (h1 : 1 ≤ E) (h2 : E ≤ 5) {ls rest : List eV} {H : Heap} {lsA : Array Slot} (hL : eLR B K s m H lsA (ewMax m) ls) {ce : Cell} {q : Addr} {H1 : Heap} {locs1 : List Loc} (hq : H1[q]? = some ce) (hv : ce.vm = .none) (hcl : s.vm.findClass (ewEx E) = some ce.cls)
    (kn : ewHnd m pc E = none → (∀ z ∈ c.exceptionTable.toList, covers z (mPc m pc) = false ∨ (z.catchType ≠ 0 ∧ ∃ nm : String, (Cond.classLink (mNm m).cls z.catchType nm).before args s = true ∧ va_Nc (ewEx E) nm s)) → vx_W p l e R s mI args below meth c H1 locs1 cells slots Q (F0 mI (mPc m pc) lsA (rest.map (cv B K))) q)
    (kk : ∀ t k, ewHnd m pc E = some (t, k) → ∀ lsB, eLR B K s m H1 lsB (ewMax m) (eSt ls k vJ) → W p l e R s mI args below meth c H1 locs1 cells slots Q (F0 mI (mPc m t) lsB [])) :
    ∀ (suf : List (Nat × Nat × Nat × Nat)) (pre : List ExceptionTableEntry), c.exceptionTable.toList = pre ++ tableOf suf → (∀ z ∈ pre, covers z (mPc m pc) = false ∨ (z.catchType ≠ 0 ∧ ∃ nm : String, (Cond.classLink (mNm m).cls z.catchType nm).before args s = true ∧ va_Nc (ewEx E) nm s)) → chG m pc E suf = true →
      vx_W p l e R s mI args below meth c H1 locs1 cells slots Q (F0 mI (mPc m pc) lsA (rest.map (cv B K))) q := by
  obtain ⟨hx, hb, hr, hml, hown, hts, hlk, htb, hnm, hst, hB1, hK, hC⟩ := C
  intro suf
  induction suf with
  | nil =>
    intro pre hsp hpass hg
    simp only [chG, decide_eq_true_eq] at hg
    refine kn hg (fun z hz => hpass z ?_)
    rw [hsp] at hz
    simpa [tableOf] using hz
  | cons x r ih =>
    obtain ⟨a, b, h, ct⟩ := x
    intro pre hsp hpass hg
    have hsp2 : c.exceptionTable.toList = (pre ++ [⟨a, b, h, ct⟩]) ++ tableOf r := by
      rw [hsp, List.append_assoc]
      rfl
    unfold chG at hg
    split at hg
    next hcov =>
      split at hg
      next q0 wi E2 hf =>
        simp only [Bool.and_eq_true, decide_eq_true_eq] at hg
        obtain ⟨⟨⟨hct, he1, he2⟩, hwd⟩, hg⟩ := hg
        have hlink := hts _ (in4 (wd_mem hwd) rfl)
        split at hg
        next hE =>
          subst hE
          split at hg
          next t k hh =>
            simp only [Bool.and_eq_true, decide_eq_true_eq] at hg
            obtain ⟨hk, hg⟩ := hg
            have hcast := hts _ (cast_in E2 h1 h2)
            refine vx_catch hown pre ⟨a, b, h, ct⟩ (tableOf r) hsp hpass hcov hct hlink hcast hq hv hcl ?_
            split at hg
            next j hd =>
              simp only [Bool.and_eq_true, decide_eq_true_eq] at hg
              obtain ⟨rfl, ht⟩ := hg
              refine lv_astore hx hb hd hL.has hk rfl (fun ls' h' => ?_)
              have h5 := kk t j hh ls' ((eLR.putJ hL h').mv B K (fun z => by rw [ewHnd_out (by rw [z]; decide)] at hh; cases hh))
              rw [ht] at h5
              exact h5
            next j hd =>
              simp only [Bool.and_eq_true, decide_eq_true_eq] at hg
              obtain ⟨hj, ht⟩ := hg
              subst hj
              refine lv_astore_n hx hb hd rfl hL.has hk rfl (fun ls' h' => ?_)
              have h5 := kk t j hh ls' ((eLR.putJ hL h').mv B K (fun z => by rw [ewHnd_out (by rw [z]; decide)] at hh; cases hh))
              rw [ht] at h5
              exact h5
            · cases hg
          · cases hg
        next hE =>
          refine ih (pre ++ [⟨a, b, h, ct⟩]) hsp2 (fun z hz => ?_) hg
          rcases List.mem_append.mp hz with hz | hz
          · exact hpass z hz
          · rw [List.mem_singleton] at hz
            subst hz
            exact Or.inr ⟨hct, ewEx E2, hlink, hC.2.2.2.2.2.2.2.2.2.2.2.2.2.2.1 E E2 h1 h2 he1 he2 (fun z => hE z.symm)⟩
      · cases hg
    next hcov =>
      refine ih (pre ++ [⟨a, b, h, ct⟩]) hsp2 (fun z hz => ?_) hg
      rcases List.mem_append.mp hz with hz | hz
      · exact hpass z hz
      · rw [List.mem_singleton] at hz
        subst hz
        exact Or.inl (by simpa using hcov)
end
