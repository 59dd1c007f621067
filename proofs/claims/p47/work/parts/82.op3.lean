/-! the call instruction -/
theorem eCw_in {a : Nat} (h : a < m_L_law) : eCw a ∈ ewL4 ∧ goodWord (eCw a) = true := by
  unfold eCw
  split
  next hd => exact ⟨in4 (mcwA a hd) rfl, rfl⟩
  next hd => exact ⟨in4 (mcwB a (by omega) h) rfl, rfl⟩
theorem sl_3 {X : eX} {pc a b k : Nat} {v : Int} {tg : List Nat} {ls st : List eV} {n e0 : Nat} {pp : Nat → Nat → Nat} {hh : Nat → Nat → Int} : eSel ewK ewL ewT X pc (3, a, b, k, v, tg) ls st (n, e0, pp, hh) =
    (if b ≤ st.length ∧ ((st.drop b).map eWt).sum ≤ 8 ∧ (st.take b).all (fun v => !eIsD v) = true then (match v.toNat with
      | 0 => some (.inr (.inl (a, (st.take b).reverse, st.drop b)))
      | j + 1 => match (st.take b).reverse, ((n, e0, pp, hh) : eM) with
        | .inr (.inl x) :: as, (n, _, _, _) => if kn ewK n x = j + 1 then some (.inr (.inl (a, vR x :: as, st.drop b))) else none
        | _, _ => none) else none) := rfl
theorem sel_3 {X : eX} {pc a b k : Nat} {v : Int} {tg : List Nat} {ls st : List eV} {n e0 : Nat} {pp : Nat → Nat → Nat} {hh : Nat → Nat → Int} {a2 : Nat} {as rest : List eV} (hs : eSel ewK ewL ewT X pc (3, a, b, k, v, tg) ls st (n, e0, pp, hh) = some (.inr (.inl (a2, as, rest)))) :
    a2 = a ∧ as = (st.take b).reverse ∧ rest = st.drop b ∧ b ≤ st.length ∧ ((st.drop b).map eWt).sum ≤ 8 ∧ (st.take b).all (fun v => !eIsD v) = true ∧ (∀ j, v.toNat = j + 1 → ∃ x as', as = vR x :: as' ∧ kn ewK n x = j + 1) := by
  rw [sl_3] at hs
  split at hs
  next hg =>
    split at hs
    next h0 =>
      cases hs
      exact ⟨rfl, rfl, rfl, hg.1, hg.2.1, hg.2.2, fun j hj => by omega⟩
    next j0 h0 =>
      split at hs
      next x as' n9 e9 p9 h9 heq hmu =>
        cases hmu
        split at hs
        next hkn =>
          cases hs
          exact ⟨rfl, heq.symm, rfl, hg.1, hg.2.1, hg.2.2, fun j hj => ⟨x, as', rfl, by rw [hkn]; omega⟩⟩
        · cases hs
      · cases hs
  · cases hs
theorem sel_3n {X : eX} {pc a b k : Nat} {v : Int} {tg : List Nat} {ls st : List eV} {μ : eM} {y : Nat × List eV × List eV × eM} : eSel ewK ewL ewT X pc (3, a, b, k, v, tg) ls st μ = some (.inl y) → False := by
  obtain ⟨n, e0, pp, hh⟩ := μ
  intro hs
  rw [sl_3] at hs
  split at hs
  · split at hs
    · cases hs
    · split at hs
      · split at hs <;> cases hs
      · cases hs
  · cases hs
theorem sel_3e {X : eX} {pc a b k : Nat} {v : Int} {tg : List Nat} {ls st : List eV} {μ : eM} {y : eO × eM} : eSel ewK ewL ewT X pc (3, a, b, k, v, tg) ls st μ = some (.inr (.inr y)) → False := by
  obtain ⟨n, e0, pp, hh⟩ := μ
  intro hs
  rw [sl_3] at hs
  split at hs
  · split at hs
    · cases hs
    · split at hs
      · split at hs <;> cases hs
      · cases hs
  · cases hs
theorem ck_3 {m i a b k : Nat} {v : Int} {tg : List Nat} (h : chk m i (3, a, b, k, v, tg) = true) : ∃ wi si : Nat, mPc m (i + 1) = mPc m i + 3 ∧ mLv a < mLv m ∧ b = (mAr a).length ∧ v = (mKd a : Int) ∧ a < m_L_law ∧
    ((∃ idx, ewD m i = .ok (.invokevirtual idx, 3) ∧ (wd wi = some (.methodLink (mNm m).cls idx (mNm a)) ∨ wd wi = some (.methodLinkNest (mNm m).cls idx (mNm a) "EchoWells")) ∧ wd si = some (.selects (mNm a).cls (mNm a) (mNm a)) ∧ mKd a ∈ eKs ∧ eRc (mKd a) = (mNm a).cls ∧ a < m_L_dig) ∨
     (∃ idx, ewD m i = .ok (.invokespecial idx, 3) ∧ (wd wi = some (.methodLink (mNm m).cls idx (mNm a)) ∨ wd wi = some (.methodLinkNest (mNm m).cls idx (mNm a) "EchoWells")) ∧ (mNm a).name = "<init>" ∧ mKd a ∈ eKs ∧ mRt a = none ∧ a < m_L_dig) ∨
     (∃ idx, ewD m i = .ok (.invokestatic idx, 3) ∧ (wd wi = some (.methodLink (mNm m).cls idx (mNm a)) ∨ wd wi = some (.methodLinkNest (mNm m).cls idx (mNm a) "EchoWells")) ∧ mKd a = 0 ∧ (a < m_L_dig ∨ wd wi = some (.methodLink (mNm m).cls idx (mNm a))))) := by
  have h0 : ∃ wi si : Nat, tg = [wi, si] := by
    match tg, h with
    | [wi, si], _ => exact ⟨wi, si, rfl⟩
    | [], h => cases h
    | [_], h => cases h
    | _ :: _ :: _ :: _, h => cases h
  obtain ⟨wi, si, rfl⟩ := h0
  refine ⟨wi, si, ?_⟩
  unfold chk at h
  dsimp only at h
  simp only [Bool.and_eq_true, decide_eq_true_eq] at h
  obtain ⟨⟨⟨⟨⟨⟨h1, h2⟩, h3⟩, h4⟩, h5⟩, h6⟩, h7⟩ := h
  refine ⟨nx1 h1, h2, h3, h4, h5, ?_⟩
  unfold ewLkM at h6
  simp only [Bool.or_eq_true, decide_eq_true_eq] at h6
  split at h7
  next idx hd =>
    rw [hd] at h6
    simp only [Bool.and_eq_true, decide_eq_true_eq] at h7
    exact Or.inl ⟨idx, hd, h6, h7.1.1.1, h7.1.1.2, h7.1.2, h7.2⟩
  next idx hd =>
    rw [hd] at h6
    simp only [Bool.and_eq_true, decide_eq_true_eq] at h7
    exact Or.inr (Or.inl ⟨idx, hd, h6, h7.1.1.1, h7.1.1.2, h7.1.2, h7.2⟩)
  next idx hd =>
    rw [hd] at h6
    simp only [Bool.and_eq_true, Bool.or_eq_true, decide_eq_true_eq] at h7
    exact Or.inr (Or.inr ⟨idx, hd, h6, h7.1, h7.2⟩)
  · cases h7
section
variable {B : Nat} {K : Nat → Nat} {dA : Nat → ClassId} {D : va_G} {X : eX}
variable {p : Program} {l : Launch} {e : Env} {R : Room} {s : State} {mI : MethodId} {args : Array Value} {below : List Frame} {meth : Method} {c : Code} {cells slots mc ms : Nat} {Q : State → Prop} {m : Nat}
theorem eCall_W {H : Heap} {locs : List Loc} {pc : Nat} {ls : Array Slot} {st0 rest : List Value} {a0 : Array Value} {o : eO} {μ1 : eM} (hr : vx_Run p l e R s mI args below meth c H locs cells slots mc ms (F0 mI pc ls st0) rest (eQc B K dA D o μ1 a0) (eXC B K dA D o μ1) (eAd B)) (hS : va_S (eAd B) s.heap H locs)
    (kx : ∀ k, o = .inr k → 1 ≤ k → k ≤ 5 → ∀ (ce : Cell) (q : Addr) (H1 : Heap) (locs1 : List Loc), eRep B K dA D μ1 H1 → va_S (eAd B) s.heap H1 locs1 → H1[q]? = some ce → ce.vm = .none → s.vm.findClass (ewEx k) = some ce.cls → vx_W p l e R s mI args below meth c H1 locs1 (cells + mc) (slots + ms) Q (F0 mI pc ls rest) q)
    (kv : ∀ v, o = .inl v → ∀ (H1 : Heap) (locs1 : List Loc), (∀ q : Nat, q < H.size → ¬ eAd B q → H1[q]? = H[q]?) → eRep B K dA D μ1 H1 → va_S (eAd B) s.heap H1 locs1 → W p l e R s mI args below meth c H1 locs1 (cells + mc) (slots + ms) Q (F0 mI (pc + 3) ls ((v.map (cv B K)).toList ++ rest))) : W p l e R s mI args below meth c H locs cells slots Q (F0 mI pc ls st0) := by
  have keep : ∀ (st₀ t : State) (L : List Loc), st₀.heap = H → va_F (eAd B) st₀ t → (∀ z ∈ L, eAd B z.base) → va_S (eAd B) s.heap t.heap (locs ++ L) := by
    intro st₀ t L h0 hF hL
    obtain ⟨hz, hk⟩ := hF
    rw [h0] at hz hk
    refine ⟨Nat.le_trans hS.1 hz, fun q h1 h2 => ?_, fun z hz9 => ?_⟩
    · rw [hk q (Nat.lt_of_lt_of_le h1 hS.1) h2]
      exact hS.2.1 q h1 h2
    · rcases List.mem_append.mp hz9 with h | h
      · exact hS.2.2 z h
      · exact hL z h
  have fr : ∀ (st₀ t : State), st₀.heap = H → va_F (eAd B) st₀ t → ∀ q : Nat, q < H.size → ¬ eAd B q → t.heap[q]? = H[q]? := by
    intro st₀ t h0 hF q h1 h2
    have h3 := hF.2 q (by rw [h0]; exact h1) h2
    rw [h3, h0]
  intro T hT XX
  rcases hr T hT XX with ⟨v, st₀, t, T', L, h0, X', hL, e1, e2, hq, st⟩ | ⟨q, st₀, t, T', L, E, ce, h0, X', hL, e1, e2, hx, hce, hcv, hcl, st⟩
  · obtain ⟨v1, ho, hv, hR, hF⟩ := hq
    cases hv
    obtain ⟨t2, a1, b1⟩ := kv v1 ho T'.heap (locs ++ L) (by rw [e1]; exact fr st₀ t h0 hF) (by rw [e1]; exact hR) (by rw [e1]; exact keep st₀ t L h0 hF hL) T' rfl X'
    exact ⟨t2, st t2 a1, b1⟩
  · obtain ⟨k, ho, k1, k2, rfl, hR, hF⟩ := hx
    obtain ⟨t2, a1, b1⟩ := kx k ho k1 k2 ce q T'.heap (locs ++ L) (by rw [e1]; exact hR) (by rw [e1]; exact keep st₀ t L h0 hF hL) (by rw [e1]; exact hce) hcv hcl T' rfl X'
    exact ⟨t2, st.trans a1, b1⟩
set_option maxHeartbeats 2000000 in
theorem op_3 (C : eCx B K dA D p l s mI args meth c m) {pc a b k : Nat} {v : Int} {tg : List Nat} {ls st : List eV} {n e0 : Nat} {pp : Nat → Nat → Nat} {hh : Nat → Nat → Int} {a2 : Nat} {as rest : List eV} {o : eO} {μ1 : eM} (hk : chk m pc (3, a, b, k, v, tg) = true) (hs : eSel ewK ewL ewT X pc (3, a, b, k, v, tg) ls st (n, e0, pp, hh) = some (.inr (.inl (a2, as, rest))))
    (hb : eBd B K dA D l a2 as (n, e0, pp, hh) o μ1 mc ms) (hnt : ∀ x ∈ as, eIsT x = false) (hRf : mLv m ≤ R.frames) (hRl : 64 * mLv m ≤ R.locals) (hcs : cells + mc ≤ R.cells) (hss : slots + ms ≤ R.slots) (hz : e0 = 0 → s.heap.size + cells = B + n + 1)
    (kv : ∀ v, o = .inl v → eVv B K dA D p l e R s mI args below meth c Q m (cells + mc) (slots + ms) (pc + 1) ls (v.toList ++ rest) μ1)
    (kx : ∀ k, o = .inr k → 1 ≤ k → k ≤ 5 → ∀ H lsA, eLR B K s m H lsA (ewMax m) ls → ∀ (ce : Cell) (q : Addr) (H1 : Heap) (locs1 : List Loc), eRep B K dA D μ1 H1 → va_S (eAd B) s.heap H1 locs1 → H1[q]? = some ce → ce.vm = .none → s.vm.findClass (ewEx k) = some ce.cls → vx_W p l e R s mI args below meth c H1 locs1 (cells + mc) (slots + ms) Q (F0 mI (mPc m pc) lsA (rest.map (cv B K))) q) :
    eVv B K dA D p l e R s mI args below meth c Q m cells slots pc ls st (n, e0, pp, hh) := by
  obtain ⟨hx, hbc, hr, hml, hown, hts, hlk, htb, hnm, hst, hB1, hK, hC⟩ := C
  obtain ⟨rfl, has, hre, hbl, hwt, hnd, hrc⟩ := sel_3 hs
  obtain ⟨wi, si, hnx, hlv, hbe, hve, hal, hkind⟩ := ck_3 hk
  obtain ⟨hini, -, hmh, hpd, hal1, hmx, -, hk1, hstat, hinst⟩ := chM_spec hal
  obtain ⟨hcw4, hcwg⟩ := eCw_in hal
  intro H locs lsA hR hS hL
  apply W_size
  intro hH
  have hz2 : e0 = 0 → H.size = B + n + 1 := by
    intro h
    have h1 := hz h
    have h2 := eR_low hR hS hB1
    omega
  have hasl : as.length = (mAr a2).length := by rw [has, List.length_reverse, List.length_take]; omega
  have hM := eMt_of (l := l) hal hst (by rw [has, List.all_reverse]; exact hnd) (by rw [hasl]; exact hal1) hnt hb
  unfold eMt at hM
  have hPc : ∀ U : State, U.heap = H → s.WarmedH U.vm → ePc B K dA D as (n, e0, pp, hh) (as.map (cv B K)).toArray U := fun U hU hW => ⟨rfl, ewI_moved hts hK hC hB1 hW (by rw [hU]; exact hS.1) (fun q h1 h2 => by rw [hU]; exact hS.2.1 q h1 h2), by rw [hU]; exact hR, fun h => by rw [hU]; exact hz2 h⟩
  have hcat : 2 * 0 + ((rest.map (cv B K)).map fun v => v.category).sum ≤ 8 := by
    have h1 := wt_sum (B := B) (K := K) rest
    rw [hre] at h1 ⊢
    omega
  have hstk : st.map (cv B K) = (as.map (cv B K)).reverse ++ rest.map (cv B K) := by
    rw [has, hre, ← List.map_reverse, List.reverse_reverse, ← List.map_append, List.take_append_drop]
  have hfr : (eRm a2 mc ms).frames + 1 ≤ R.frames := by show mLv a2 + 1 ≤ _; omega
  have hlo : 8 + (ewMax a2 + 11) + (eRm a2 mc ms).locals ≤ R.locals := by show 8 + (ewMax a2 + 11) + 64 * mLv a2 ≤ _; omega
  have hws : ∀ w ∈ [eCw a2], ∀ (a' : Array Value) (U : State), s.WarmedH U.vm → w.before a' U = true := by
    intro w hw a' U hW
    rw [List.mem_singleton] at hw
    subst hw
    exact word_at hW (good_of_word hcwg) (hts _ hcw4)
  have hfix : CallFix p mI c (mBy m) (ewMax m) s args ewL4 (mNm m).cls := ⟨hx, hbc, hml, hown, hts⟩
  have hgo : ∀ a0 : Array Value, vx_Run p l e R s mI args below meth c H locs cells slots mc ms (F0 mI (mPc m pc) lsA (st.map (cv B K))) (rest.map (cv B K)) (eQc B K dA D o μ1 a0) (eXC B K dA D o μ1) (eAd B) → W p l e R s mI args below meth c H locs cells slots Q (F0 mI (mPc m pc) lsA (st.map (cv B K))) := by
    intro a0 hrun
    refine eCall_W hrun hS (fun k hk k1 k2 ce q H1 locs1 r1 r2 r3 r4 r5 => kx k hk k1 k2 H lsA hL ce q H1 locs1 r1 r2 r3 r4 r5) (fun v hv H1 locs1 r0 r1 r2 => ?_)
    have h1 := kv v hv H1 locs1 lsA r1 r2 (hL.fr B K r0)
    rw [hnx] at h1
    cases v with
    | none => exact h1
    | some w => exact h1
  have hlenD : ∀ j, j = (mAr a2).length - (if mKd a2 = 0 then 0 else 1) → ∀ sig, parseMethodDescriptor (mNm a2).desc = some sig → j = sig.parameters.length := by
    intro j hj sig hsig
    rw [hsig] at hpd
    simp only [Option.map_some, Option.some.injEq] at hpd
    omega
  rcases hkind with ⟨idx, hd, hl, hsel, hkd, hcl, hdg⟩ | ⟨idx, hd, hl, hnmi, hkd, hrt, hdg⟩ | ⟨idx, hd, hl, hkd, hor⟩
  · have hcw : eCw a2 = .code (mNm a2) (mBy a2) (ewMax a2) (mRt a2) := by unfold eCw; rw [if_pos hdg]
    rw [hcw] at hM hws hcw4
    obtain ⟨hk0, hk20⟩ := eKs_lt _ hkd
    obtain ⟨x, as', rfl, hkn⟩ := hrc (mKd a2 - 1) (by rw [hve, Int.toNat_natCast]; omega)
    obtain ⟨x1, x2, x3, x4⟩ := kn_of hk0 (show kn ewK n x = mKd a2 by rw [hkn]; omega)
    have he := eWs_at B K dA (n := n) (p := pp) (h := hh) x1 x2
    rw [eCe_obj hkd x4] at he
    have hrcv := va_recv hK hR (eCl_at (mKd a2) hkd) he
    have hcv0 : (vR x :: as').map (cv B K) = .ref (B + x) :: as'.map (cv B K) := by rw [List.map_cons]; show rv B K x :: _ = _; rw [rv_cell x1 x3]
    rw [hcv0] at hPc hstk
    rw [List.reverse_cons, List.append_assoc, List.singleton_append] at hstk
    have hlen2 : (as'.map (cv B K)).length = (mAr a2).length - 1 := by rw [List.length_map]; simp only [List.length_cons] at hasl; omega
    have hsel4 := hts _ (in4 (wd_mem hsel) rfl)
    refine hgo (Value.ref (B + x) :: as'.map (cv B K)).toArray ?_
    have hpv : PreV s H (mNm a2).cls (B + x) (ePc B K dA D (vR x :: as') (n, e0, pp, hh)) (as'.map (cv B K)) := ⟨ePc_blind, by rw [← hcl]; exact hrcv, hPc⟩
    rcases hl with hl | hl
    · exact vx_runV hfix hM ⟨⟨rfl, rfl, hfr, hlo, hws, List.mem_singleton.mpr rfl, hts _ hcw4, hts _ hini, hmh, hlenD _ (by rw [if_neg hk0]), hts _ (in4 (wd_mem hl) rfl)⟩, hts _ (hinst hk0), hsel4⟩ hpv rfl hlen2 hL.1 hstk hcat hd ⟨hcs, hss⟩
    · exact vx_runVN hfix hM ⟨⟨⟨rfl, rfl, hfr, hlo, hws, List.mem_singleton.mpr rfl⟩, hts _ hcw4, hts _ hini, hmh, hlenD _ (by rw [if_neg hk0]), hts _ (in4 (wd_mem hl) rfl)⟩, hts _ (hinst hk0), hsel4⟩ hpv rfl hlen2 hL.1 hstk hcat hd ⟨hcs, hss⟩
  · have hcw : eCw a2 = .code (mNm a2) (mBy a2) (ewMax a2) none := by unfold eCw; rw [if_pos hdg, hrt]
    rw [hcw] at hM hws hcw4
    obtain ⟨hk0, hk20⟩ := eKs_lt _ hkd
    obtain ⟨x, as', rfl, hkn⟩ := hrc (mKd a2 - 1) (by rw [hve, Int.toNat_natCast]; omega)
    obtain ⟨x1, x2, x3, x4⟩ := kn_of hk0 (show kn ewK n x = mKd a2 by rw [hkn]; omega)
    have hcv0 : (vR x :: as').map (cv B K) = .ref (B + x) :: as'.map (cv B K) := by rw [List.map_cons]; show rv B K x :: _ = _; rw [rv_cell x1 x3]
    rw [hcv0] at hPc hstk
    rw [List.reverse_cons, List.append_assoc, List.singleton_append] at hstk
    have hlen2 : (as'.map (cv B K)).length = (mAr a2).length - 1 := by rw [List.length_map]; simp only [List.length_cons] at hasl; omega
    refine hgo (Value.ref (B + x) :: as'.map (cv B K)).toArray ?_
    rcases hl with hl | hl
    · exact vx_runI hfix hM ⟨⟨rfl, rfl, hfr, hlo, hws, List.mem_singleton.mpr rfl, hts _ hcw4, hts _ hini, hmh, hlenD _ (by rw [if_neg hk0]), hts _ (in4 (wd_mem hl) rfl)⟩, hnmi, hts _ (hinst hk0)⟩ ⟨ePc_blind, hPc⟩ rfl hlen2 hL.1 hstk hcat hd ⟨hcs, hss⟩
    · exact vx_runIN hfix hM ⟨⟨⟨rfl, rfl, hfr, hlo, hws, List.mem_singleton.mpr rfl⟩, hts _ hcw4, hts _ hini, hmh, hlenD _ (by rw [if_neg hk0]), hts _ (in4 (wd_mem hl) rfl)⟩, hnmi, hts _ (hinst hk0)⟩ ⟨ePc_blind, hPc⟩ rfl hlen2 hL.1 hstk hcat hd ⟨hcs, hss⟩
  · refine hgo (as.map (cv B K)).toArray ?_
    have hlen2 : (as.map (cv B K)).length = (mAr a2).length := by rw [List.length_map]; exact hasl
    by_cases hdg : a2 < m_L_dig
    · have hcw : eCw a2 = .code (mNm a2) (mBy a2) (ewMax a2) (mRt a2) := by unfold eCw; rw [if_pos hdg]
      rw [hcw] at hM hws hcw4
      rcases hl with hl | hl
      · exact vx_runS hfix hM ⟨⟨rfl, rfl, hfr, hlo, hws, List.mem_singleton.mpr rfl, hts _ hcw4, hts _ hini, hmh, hlenD _ (by rw [if_pos hkd]; rfl), hts _ (in4 (wd_mem hl) rfl)⟩, hts _ (hstat hkd)⟩ ⟨ePc_blind, hPc⟩ rfl hlen2 hL.1 hstk hcat hd ⟨hcs, hss⟩
      · exact vx_runSN hfix hM ⟨⟨⟨rfl, rfl, hfr, hlo, hws, List.mem_singleton.mpr rfl⟩, hts _ hcw4, hts _ hini, hmh, hlenD _ (by rw [if_pos hkd]; rfl), hts _ (in4 (wd_mem hl) rfl)⟩, hts _ (hstat hkd), trivial⟩ ⟨ePc_blind, hPc⟩ rfl hlen2 hL.1 hstk hcat hd ⟨hcs, hss⟩
    · have hcw : eCw a2 = .codeWith (mNm a2) (mBy a2) (ewMax a2) (mRt a2) (mHh a2) := by unfold eCw; rw [if_neg hdg]
      rw [hcw] at hM hws hcw4
      rcases hor with hl | hl
      · exact absurd hl hdg
      · exact vx_runSX hfix hM ⟨⟨rfl, rfl, hfr, hlo, hws, List.mem_singleton.mpr rfl⟩, hts _ hcw4, hts _ hini, hmh, hlenD _ (by rw [if_pos hkd]; rfl), hts _ (in4 (wd_mem hl) rfl), hts _ (hstat hkd)⟩ ⟨ePc_blind, hPc⟩ rfl hlen2 hL.1 hstk hcat hd ⟨hcs, hss⟩
end
