/-! orders done one after the other: the reference (by program, wip/whole/gen26.py) -/
theorem nu {h : Nat → Nat → Int} {ns : List Int} {k : Nat} (a : aR h 587 ns) (hk : k < ns.length) : h 587 k = ns.getD k 0 := by
  rw [List.getD_eq_getElem?_getD, a k hk]
  rfl
theorem mfr_rw8 {h : Nat → Nat → Int} {w : Nat → Int} : mfr [578, 584] [19, 20] h (rw8 h w) := ⟨fun c h1 _ => rw8_o (fun z => h1 (by rw [z]; decide)), fun k _ => by rw [rw8_o (by omega)]⟩
section
variable {X : eX} {e : Nat} {h : Nat → Nat → Int} {ns W : List Int} {N R : Nat} {S : Nat → Nat}
theorem m_not0 (hs : h 577 28 = 100) (an : aR h 587 ns) (hl : ns.length = 2) (ok : rOk (h 578) N R S) {KI KX} (HR : ∀ x y, nO 0 ns W (h 578) = (x, y) → x ≠ 0 → KI 1 eNT e ewP (up (up h 577 5 x) 577 6 y)) (HD : nO 0 ns W (h 578) = (0, 0) → KI 0 eNT e ewP h) : eCi X m_X13_notNow [vR 577] eNT e ewP h KI KX := by
  refine bk_X13_notNow_0 X 577 eNT e ewP h _ ?_
  rw [if_pos mk577, mp587, if_pos ⟨mk587, by decide, by rw [mn587]; decide⟩, if_pos mk577, if_pos ⟨mk587, by decide, by rw [mn587]; decide⟩, if_pos mk577, if_pos ⟨mk587, by decide, by rw [mn587]; decide⟩, if_pos mk577, hs]
  rw [if_neg (by decide), if_neg (by decide), if_pos (by decide)]
  rw [if_pos mk577]
  rw [show (0 : Int).toNat = 0 from rfl, show (1 : Int).toNat = 1 from rfl]
  rw [(show h 587 0 = ns.getD 0 0 from nu an (by omega)), (show h 587 1 = ns.getD 1 0 from nu an (by omega))]
  exact n_dig ok HR HD
theorem m_do0 (hs : h 577 28 = 100) (an : aR h 587 ns) (hl : ns.length = 2) (ok : rOk (h 578) N R S) (q : nO 0 ns W (h 578) = (0, 0)) {KI KX} (H : ∀ h' v, mfr [578, 584] [19, 20] h h' → h' 578 = dO 0 ns W (h 578) → KI v eNT e ewP h') : eCi X m_X13_doesNow [vR 577] eNT e ewP h KI KX := by
  refine bk_X13_doesNow_0 X 577 eNT e ewP h _ ?_
  rw [if_pos mk577, mp587, if_pos ⟨mk587, by decide, by rw [mn587]; decide⟩, if_pos mk577, if_pos ⟨mk587, by decide, by rw [mn587]; decide⟩, if_pos mk577, if_pos ⟨mk587, by decide, by rw [mn587]; decide⟩, if_pos mk577, hs]
  rw [if_neg (by decide), if_neg (by decide), if_pos (by decide), if_pos mk577]
  rw [show (0 : Int).toNat = 0 from rfl, show (1 : Int).toNat = 1 from rfl]
  rw [(show h 587 0 = ns.getD 0 0 from nu an (by omega)), (show h 587 1 = ns.getD 1 0 from nu an (by omega))]
  rw [d_dig ok q]
  exact H _ _ mfr_rw8 rw8_s
theorem m_not1 (hs : h 577 28 = 101) (an : aR h 587 ns) (hl : ns.length = 2) (ok : rOk (h 578) N R S) {KI KX} (HR : ∀ x y, nO 1 ns W (h 578) = (x, y) → x ≠ 0 → KI 1 eNT e ewP (up (up h 577 5 x) 577 6 y)) (HD : nO 1 ns W (h 578) = (0, 0) → KI 0 eNT e ewP h) : eCi X m_X13_notNow [vR 577] eNT e ewP h KI KX := by
  refine bk_X13_notNow_0 X 577 eNT e ewP h _ ?_
  rw [if_pos mk577, mp587, if_pos ⟨mk587, by decide, by rw [mn587]; decide⟩, if_pos mk577, if_pos ⟨mk587, by decide, by rw [mn587]; decide⟩, if_pos mk577, if_pos ⟨mk587, by decide, by rw [mn587]; decide⟩, if_pos mk577, hs]
  rw [if_neg (by decide), if_neg (by decide), if_neg (by decide), if_pos (by decide)]
  rw [if_pos mk577]
  rw [show (0 : Int).toNat = 0 from rfl, show (1 : Int).toNat = 1 from rfl]
  rw [(show h 587 0 = ns.getD 0 0 from nu an (by omega)), (show h 587 1 = ns.getD 1 0 from nu an (by omega))]
  exact n_deepen ok HR HD
theorem m_do1 (hs : h 577 28 = 101) (an : aR h 587 ns) (hl : ns.length = 2) (ok : rOk (h 578) N R S) (q : nO 1 ns W (h 578) = (0, 0)) {KI KX} (H : ∀ h' v, mfr [578, 584] [19, 20] h h' → h' 578 = dO 1 ns W (h 578) → KI v eNT e ewP h') : eCi X m_X13_doesNow [vR 577] eNT e ewP h KI KX := by
  refine bk_X13_doesNow_0 X 577 eNT e ewP h _ ?_
  rw [if_pos mk577, mp587, if_pos ⟨mk587, by decide, by rw [mn587]; decide⟩, if_pos mk577, if_pos ⟨mk587, by decide, by rw [mn587]; decide⟩, if_pos mk577, if_pos ⟨mk587, by decide, by rw [mn587]; decide⟩, if_pos mk577, hs]
  rw [if_neg (by decide), if_neg (by decide), if_neg (by decide), if_pos (by decide), if_pos mk577]
  rw [show (0 : Int).toNat = 0 from rfl, show (1 : Int).toNat = 1 from rfl]
  rw [(show h 587 0 = ns.getD 0 0 from nu an (by omega)), (show h 587 1 = ns.getD 1 0 from nu an (by omega))]
  rw [d_deepen ok q]
  exact H _ _ mfr_rw8 rw8_s
theorem m_not2 (hs : h 577 28 = 102) (an : aR h 587 ns) (hl : ns.length = 1) (ok : rOk (h 578) N R S) {KI KX} (HR : ∀ x y, nO 2 ns W (h 578) = (x, y) → x ≠ 0 → KI 1 eNT e ewP (up (up h 577 5 x) 577 6 y)) (HD : nO 2 ns W (h 578) = (0, 0) → KI 0 eNT e ewP h) : eCi X m_X13_notNow [vR 577] eNT e ewP h KI KX := by
  refine bk_X13_notNow_0 X 577 eNT e ewP h _ ?_
  rw [if_pos mk577, mp587, if_pos ⟨mk587, by decide, by rw [mn587]; decide⟩, if_pos mk577, if_pos ⟨mk587, by decide, by rw [mn587]; decide⟩, if_pos mk577, if_pos ⟨mk587, by decide, by rw [mn587]; decide⟩, if_pos mk577, hs]
  rw [if_neg (by decide), if_neg (by decide), if_neg (by decide), if_neg (by decide), if_pos (by decide)]
  rw [if_pos mk577]
  rw [show (0 : Int).toNat = 0 from rfl]
  rw [(show h 587 0 = ns.getD 0 0 from nu an (by omega))]
  exact n_fill ok HR HD
theorem m_do2 (hs : h 577 28 = 102) (an : aR h 587 ns) (hl : ns.length = 1) (ok : rOk (h 578) N R S) (q : nO 2 ns W (h 578) = (0, 0)) {KI KX} (H : ∀ h' v, mfr [578, 584] [19, 20] h h' → h' 578 = dO 2 ns W (h 578) → KI v eNT e ewP h') : eCi X m_X13_doesNow [vR 577] eNT e ewP h KI KX := by
  refine bk_X13_doesNow_0 X 577 eNT e ewP h _ ?_
  rw [if_pos mk577, mp587, if_pos ⟨mk587, by decide, by rw [mn587]; decide⟩, if_pos mk577, if_pos ⟨mk587, by decide, by rw [mn587]; decide⟩, if_pos mk577, if_pos ⟨mk587, by decide, by rw [mn587]; decide⟩, if_pos mk577, hs]
  rw [if_neg (by decide), if_neg (by decide), if_neg (by decide), if_neg (by decide), if_pos (by decide), if_pos mk577]
  rw [show (0 : Int).toNat = 0 from rfl]
  rw [(show h 587 0 = ns.getD 0 0 from nu an (by omega))]
  rw [d_fill ok q]
  exact H _ _ mfr_rw8 rw8_s
theorem m_not3 (hs : h 577 28 = 99) (an : aR h 587 ns) (hl : ns.length = 3) (ok : rOk (h 578) N R S) {KI KX} (HR : ∀ x y, nO 3 ns W (h 578) = (x, y) → x ≠ 0 → KI 1 eNT e ewP (up (up h 577 5 x) 577 6 y)) (HD : nO 3 ns W (h 578) = (0, 0) → KI 0 eNT e ewP h) : eCi X m_X13_notNow [vR 577] eNT e ewP h KI KX := by
  refine bk_X13_notNow_0 X 577 eNT e ewP h _ ?_
  rw [if_pos mk577, mp587, if_pos ⟨mk587, by decide, by rw [mn587]; decide⟩, if_pos mk577, if_pos ⟨mk587, by decide, by rw [mn587]; decide⟩, if_pos mk577, if_pos ⟨mk587, by decide, by rw [mn587]; decide⟩, if_pos mk577, hs]
  rw [if_neg (by decide), if_pos (by decide)]
  rw [if_pos mk577]
  rw [show (0 : Int).toNat = 0 from rfl, show (1 : Int).toNat = 1 from rfl, show (2 : Int).toNat = 2 from rfl]
  rw [(show h 587 0 = ns.getD 0 0 from nu an (by omega)), (show h 587 1 = ns.getD 1 0 from nu an (by omega)), (show h 587 2 = ns.getD 2 0 from nu an (by omega))]
  exact n_thing ok HR HD
theorem m_do3 (hs : h 577 28 = 99) (an : aR h 587 ns) (hl : ns.length = 3) (ok : rOk (h 578) N R S) (q : nO 3 ns W (h 578) = (0, 0)) {KI KX} (H : ∀ h' v, mfr [578, 584] [19, 20] h h' → h' 578 = dO 3 ns W (h 578) → KI v eNT e ewP h') : eCi X m_X13_doesNow [vR 577] eNT e ewP h KI KX := by
  refine bk_X13_doesNow_0 X 577 eNT e ewP h _ ?_
  rw [if_pos mk577, mp587, if_pos ⟨mk587, by decide, by rw [mn587]; decide⟩, if_pos mk577, if_pos ⟨mk587, by decide, by rw [mn587]; decide⟩, if_pos mk577, if_pos ⟨mk587, by decide, by rw [mn587]; decide⟩, if_pos mk577, hs]
  rw [if_neg (by decide), if_pos (by decide), if_pos mk577]
  rw [show (0 : Int).toNat = 0 from rfl, show (1 : Int).toNat = 1 from rfl, show (2 : Int).toNat = 2 from rfl]
  rw [(show h 587 0 = ns.getD 0 0 from nu an (by omega)), (show h 587 1 = ns.getD 1 0 from nu an (by omega)), (show h 587 2 = ns.getD 2 0 from nu an (by omega))]
  rw [d_comes (lo := 1) (hi := 9) ok q]
  exact H _ _ mfr_rw8 rw8_s
theorem m_not4 (hs : h 577 28 = 103) (an : aR h 587 ns) (hl : ns.length = 3) (ok : rOk (h 578) N R S) {KI KX} (HR : ∀ x y, nO 4 ns W (h 578) = (x, y) → x ≠ 0 → KI 1 eNT e ewP (up (up h 577 5 x) 577 6 y)) (HD : nO 4 ns W (h 578) = (0, 0) → KI 0 eNT e ewP h) : eCi X m_X13_notNow [vR 577] eNT e ewP h KI KX := by
  refine bk_X13_notNow_0 X 577 eNT e ewP h _ ?_
  rw [if_pos mk577, mp587, if_pos ⟨mk587, by decide, by rw [mn587]; decide⟩, if_pos mk577, if_pos ⟨mk587, by decide, by rw [mn587]; decide⟩, if_pos mk577, if_pos ⟨mk587, by decide, by rw [mn587]; decide⟩, if_pos mk577, hs]
  rw [if_neg (by decide), if_neg (by decide), if_neg (by decide), if_neg (by decide), if_neg (by decide), if_pos (by decide)]
  rw [if_pos mk577]
  rw [show (0 : Int).toNat = 0 from rfl, show (1 : Int).toNat = 1 from rfl, show (2 : Int).toNat = 2 from rfl]
  rw [(show h 587 0 = ns.getD 0 0 from nu an (by omega)), (show h 587 1 = ns.getD 1 0 from nu an (by omega)), (show h 587 2 = ns.getD 2 0 from nu an (by omega))]
  exact n_thing ok HR HD
theorem m_do4 (hs : h 577 28 = 103) (an : aR h 587 ns) (hl : ns.length = 3) (ok : rOk (h 578) N R S) (q : nO 4 ns W (h 578) = (0, 0)) {KI KX} (H : ∀ h' v, mfr [578, 584] [19, 20] h h' → h' 578 = dO 4 ns W (h 578) → KI v eNT e ewP h') : eCi X m_X13_doesNow [vR 577] eNT e ewP h KI KX := by
  refine bk_X13_doesNow_0 X 577 eNT e ewP h _ ?_
  rw [if_pos mk577, mp587, if_pos ⟨mk587, by decide, by rw [mn587]; decide⟩, if_pos mk577, if_pos ⟨mk587, by decide, by rw [mn587]; decide⟩, if_pos mk577, if_pos ⟨mk587, by decide, by rw [mn587]; decide⟩, if_pos mk577, hs]
  rw [if_neg (by decide), if_neg (by decide), if_neg (by decide), if_neg (by decide), if_neg (by decide), if_pos (by decide), if_pos mk577]
  rw [show (0 : Int).toNat = 0 from rfl, show (1 : Int).toNat = 1 from rfl, show (2 : Int).toNat = 2 from rfl]
  rw [(show h 587 0 = ns.getD 0 0 from nu an (by omega)), (show h 587 1 = ns.getD 1 0 from nu an (by omega)), (show h 587 2 = ns.getD 2 0 from nu an (by omega))]
  rw [d_comes (lo := 97) (hi := 122) ok q]
  exact H _ _ mfr_rw8 rw8_s
theorem m_not5 (hs : h 577 28 = 109) (an : aR h 587 ns) (hl : ns.length = 3) (ok : rOk (h 578) N R S) {KI KX} (HR : ∀ x y, nO 5 ns W (h 578) = (x, y) → x ≠ 0 → KI 1 eNT e ewP (up (up h 577 5 x) 577 6 y)) (HD : nO 5 ns W (h 578) = (0, 0) → KI 0 eNT e ewP h) : eCi X m_X13_notNow [vR 577] eNT e ewP h KI KX := by
  refine bk_X13_notNow_0 X 577 eNT e ewP h _ ?_
  rw [if_pos mk577, mp587, if_pos ⟨mk587, by decide, by rw [mn587]; decide⟩, if_pos mk577, if_pos ⟨mk587, by decide, by rw [mn587]; decide⟩, if_pos mk577, if_pos ⟨mk587, by decide, by rw [mn587]; decide⟩, if_pos mk577, hs]
  rw [if_neg (by decide), if_neg (by decide), if_neg (by decide), if_neg (by decide), if_neg (by decide), if_neg (by decide), if_neg (by decide), if_neg (by decide), if_neg (by decide), if_neg (by decide), if_neg (by decide), if_pos (by decide)]
  rw [if_pos mk577]
  rw [show (0 : Int).toNat = 0 from rfl, show (1 : Int).toNat = 1 from rfl, show (2 : Int).toNat = 2 from rfl]
  rw [(show h 587 0 = ns.getD 0 0 from nu an (by omega)), (show h 587 1 = ns.getD 1 0 from nu an (by omega)), (show h 587 2 = ns.getD 2 0 from nu an (by omega))]
  exact n_thing ok HR HD
theorem m_do5 (hs : h 577 28 = 109) (an : aR h 587 ns) (hl : ns.length = 3) (ok : rOk (h 578) N R S) (q : nO 5 ns W (h 578) = (0, 0)) {KI KX} (H : ∀ h' v, mfr [578, 584] [19, 20] h h' → h' 578 = dO 5 ns W (h 578) → KI v eNT e ewP h') : eCi X m_X13_doesNow [vR 577] eNT e ewP h KI KX := by
  refine bk_X13_doesNow_0 X 577 eNT e ewP h _ ?_
  rw [if_pos mk577, mp587, if_pos ⟨mk587, by decide, by rw [mn587]; decide⟩, if_pos mk577, if_pos ⟨mk587, by decide, by rw [mn587]; decide⟩, if_pos mk577, if_pos ⟨mk587, by decide, by rw [mn587]; decide⟩, if_pos mk577, hs]
  rw [if_neg (by decide), if_neg (by decide), if_neg (by decide), if_neg (by decide), if_neg (by decide), if_neg (by decide), if_neg (by decide), if_neg (by decide), if_neg (by decide), if_neg (by decide), if_neg (by decide), if_pos (by decide), if_pos mk577]
  rw [show (0 : Int).toNat = 0 from rfl, show (1 : Int).toNat = 1 from rfl, show (2 : Int).toNat = 2 from rfl]
  rw [(show h 587 0 = ns.getD 0 0 from nu an (by omega)), (show h 587 1 = ns.getD 1 0 from nu an (by omega)), (show h 587 2 = ns.getD 2 0 from nu an (by omega))]
  rw [d_comes (lo := 1) (hi := 9) ok q]
  exact H _ _ mfr_rw8 rw8_s
theorem m_not6 (hs : h 577 28 = 116) (an : aR h 587 ns) (hl : ns.length = 2) (ok : rOk (h 578) N R S) {KI KX} (HR : ∀ x y, nO 6 ns W (h 578) = (x, y) → x ≠ 0 → KI 1 eNT e ewP (up (up h 577 5 x) 577 6 y)) (HD : nO 6 ns W (h 578) = (0, 0) → KI 0 eNT e ewP h) : eCi X m_X13_notNow [vR 577] eNT e ewP h KI KX := by
  refine bk_X13_notNow_0 X 577 eNT e ewP h _ ?_
  rw [if_pos mk577, mp587, if_pos ⟨mk587, by decide, by rw [mn587]; decide⟩, if_pos mk577, if_pos ⟨mk587, by decide, by rw [mn587]; decide⟩, if_pos mk577, if_pos ⟨mk587, by decide, by rw [mn587]; decide⟩, if_pos mk577, hs]
  rw [if_neg (by decide), if_neg (by decide), if_neg (by decide), if_neg (by decide), if_neg (by decide), if_neg (by decide), if_neg (by decide), if_neg (by decide), if_neg (by decide), if_neg (by decide), if_neg (by decide), if_neg (by decide), if_neg (by decide), if_neg (by decide), if_neg (by decide), if_neg (by decide), if_neg (by decide), if_neg (by decide), if_pos (by decide)]
  rw [if_pos mk577]
  rw [show (0 : Int).toNat = 0 from rfl, show (1 : Int).toNat = 1 from rfl]
  rw [(show h 587 0 = ns.getD 0 0 from nu an (by omega)), (show h 587 1 = ns.getD 1 0 from nu an (by omega))]
  exact n_take ok HR HD
theorem m_do6 (hs : h 577 28 = 116) (an : aR h 587 ns) (hl : ns.length = 2) (ok : rOk (h 578) N R S) (q : nO 6 ns W (h 578) = (0, 0)) {KI KX} (H : ∀ h' v, mfr [578, 584] [19, 20] h h' → h' 578 = dO 6 ns W (h 578) → KI v eNT e ewP h') : eCi X m_X13_doesNow [vR 577] eNT e ewP h KI KX := by
  refine bk_X13_doesNow_0 X 577 eNT e ewP h _ ?_
  rw [if_pos mk577, mp587, if_pos ⟨mk587, by decide, by rw [mn587]; decide⟩, if_pos mk577, if_pos ⟨mk587, by decide, by rw [mn587]; decide⟩, if_pos mk577, if_pos ⟨mk587, by decide, by rw [mn587]; decide⟩, if_pos mk577, hs]
  rw [if_neg (by decide), if_neg (by decide), if_neg (by decide), if_neg (by decide), if_neg (by decide), if_neg (by decide), if_neg (by decide), if_neg (by decide), if_neg (by decide), if_neg (by decide), if_neg (by decide), if_neg (by decide), if_neg (by decide), if_neg (by decide), if_neg (by decide), if_neg (by decide), if_neg (by decide), if_neg (by decide), if_pos (by decide), if_pos mk577]
  rw [show (0 : Int).toNat = 0 from rfl, show (1 : Int).toNat = 1 from rfl]
  rw [(show h 587 0 = ns.getD 0 0 from nu an (by omega)), (show h 587 1 = ns.getD 1 0 from nu an (by omega))]
  rw [d_take ok q]
  exact H _ _ mfr_rw8 rw8_s
theorem m_not7 (hs : h 577 28 = 119) (an : aR h 587 ns) (hl : ns.length = 0) (ok : rOk (h 578) N R S) {KI KX} (HR : ∀ x y, nO 7 ns W (h 578) = (x, y) → x ≠ 0 → KI 1 eNT e ewP (up (up h 577 5 x) 577 6 y)) (HD : nO 7 ns W (h 578) = (0, 0) → KI 0 eNT e ewP h) : eCi X m_X13_notNow [vR 577] eNT e ewP h KI KX := by
  refine bk_X13_notNow_0 X 577 eNT e ewP h _ ?_
  rw [if_pos mk577, mp587, if_pos ⟨mk587, by decide, by rw [mn587]; decide⟩, if_pos mk577, if_pos ⟨mk587, by decide, by rw [mn587]; decide⟩, if_pos mk577, if_pos ⟨mk587, by decide, by rw [mn587]; decide⟩, if_pos mk577, hs]
  rw [if_neg (by decide), if_neg (by decide), if_neg (by decide), if_neg (by decide), if_neg (by decide), if_neg (by decide), if_neg (by decide), if_neg (by decide), if_neg (by decide), if_neg (by decide), if_neg (by decide), if_neg (by decide), if_neg (by decide), if_neg (by decide), if_neg (by decide), if_neg (by decide), if_neg (by decide), if_neg (by decide), if_neg (by decide), if_neg (by decide), if_neg (by decide), if_pos (by decide)]
  exact HD rfl
theorem m_do7 (hs : h 577 28 = 119) (an : aR h 587 ns) (hl : ns.length = 0) (ok : rOk (h 578) N R S) (q : nO 7 ns W (h 578) = (0, 0)) {KI KX} (H : ∀ h' v, mfr [578, 584] [19, 20] h h' → h' 578 = dO 7 ns W (h 578) → KI v eNT e ewP h') : eCi X m_X13_doesNow [vR 577] eNT e ewP h KI KX := by
  refine bk_X13_doesNow_0 X 577 eNT e ewP h _ ?_
  rw [if_pos mk577, mp587, if_pos ⟨mk587, by decide, by rw [mn587]; decide⟩, if_pos mk577, if_pos ⟨mk587, by decide, by rw [mn587]; decide⟩, if_pos mk577, if_pos ⟨mk587, by decide, by rw [mn587]; decide⟩, if_pos mk577, hs]
  rw [if_neg (by decide), if_neg (by decide), if_neg (by decide), if_neg (by decide), if_neg (by decide), if_neg (by decide), if_neg (by decide), if_neg (by decide), if_neg (by decide), if_neg (by decide), if_neg (by decide), if_neg (by decide), if_neg (by decide), if_neg (by decide), if_neg (by decide), if_neg (by decide), if_neg (by decide), if_neg (by decide), if_neg (by decide), if_neg (by decide), if_neg (by decide), if_pos (by decide), if_pos mk577]
  rw [m_wakes ok]
  exact H _ _ mfr_rw8 rw8_s
theorem m_not8 (hs : h 577 28 = 114) (an : aR h 587 ns) (hl : ns.length = 1) (ok : rOk (h 578) N R S) {KI KX} (HR : ∀ x y, nO 8 ns W (h 578) = (x, y) → x ≠ 0 → KI 1 eNT e ewP (up (up h 577 5 x) 577 6 y)) (HD : nO 8 ns W (h 578) = (0, 0) → KI 0 eNT e ewP h) : eCi X m_X13_notNow [vR 577] eNT e ewP h KI KX := by
  refine bk_X13_notNow_0 X 577 eNT e ewP h _ ?_
  rw [if_pos mk577, mp587, if_pos ⟨mk587, by decide, by rw [mn587]; decide⟩, if_pos mk577, if_pos ⟨mk587, by decide, by rw [mn587]; decide⟩, if_pos mk577, if_pos ⟨mk587, by decide, by rw [mn587]; decide⟩, if_pos mk577, hs]
  rw [if_neg (by decide), if_neg (by decide), if_neg (by decide), if_neg (by decide), if_neg (by decide), if_neg (by decide), if_neg (by decide), if_neg (by decide), if_neg (by decide), if_neg (by decide), if_neg (by decide), if_neg (by decide), if_neg (by decide), if_neg (by decide), if_neg (by decide), if_neg (by decide), if_pos (by decide)]
  rw [if_pos mk577]
  rw [show (0 : Int).toNat = 0 from rfl]
  rw [(show h 587 0 = ns.getD 0 0 from nu an (by omega))]
  exact n_rope ok HR HD
theorem m_do8 (hs : h 577 28 = 114) (an : aR h 587 ns) (hl : ns.length = 1) (ok : rOk (h 578) N R S) (q : nO 8 ns W (h 578) = (0, 0)) {KI KX} (H : ∀ h' v, mfr [578, 584] [19, 20] h h' → h' 578 = dO 8 ns W (h 578) → KI v eNT e ewP h') : eCi X m_X13_doesNow [vR 577] eNT e ewP h KI KX := by
  refine bk_X13_doesNow_0 X 577 eNT e ewP h _ ?_
  rw [if_pos mk577, mp587, if_pos ⟨mk587, by decide, by rw [mn587]; decide⟩, if_pos mk577, if_pos ⟨mk587, by decide, by rw [mn587]; decide⟩, if_pos mk577, if_pos ⟨mk587, by decide, by rw [mn587]; decide⟩, if_pos mk577, hs]
  rw [if_neg (by decide), if_neg (by decide), if_neg (by decide), if_neg (by decide), if_neg (by decide), if_neg (by decide), if_neg (by decide), if_neg (by decide), if_neg (by decide), if_neg (by decide), if_neg (by decide), if_neg (by decide), if_neg (by decide), if_neg (by decide), if_neg (by decide), if_neg (by decide), if_pos (by decide), if_pos mk577]
  rw [show (0 : Int).toNat = 0 from rfl]
  rw [(show h 587 0 = ns.getD 0 0 from nu an (by omega))]
  rw [d_rope ok q]
  exact H _ _ mfr_rw8 rw8_s
theorem m_not9 (hs : h 577 28 = 98) (an : aR h 587 ns) (hl : ns.length = 2) (ok : rOk (h 578) N R S) {KI KX} (HR : ∀ x y, nO 9 ns W (h 578) = (x, y) → x ≠ 0 → KI 1 eNT e ewP (up (up h 577 5 x) 577 6 y)) (HD : nO 9 ns W (h 578) = (0, 0) → KI 0 eNT e ewP h) : eCi X m_X13_notNow [vR 577] eNT e ewP h KI KX := by
  refine bk_X13_notNow_0 X 577 eNT e ewP h _ ?_
  rw [if_pos mk577, mp587, if_pos ⟨mk587, by decide, by rw [mn587]; decide⟩, if_pos mk577, if_pos ⟨mk587, by decide, by rw [mn587]; decide⟩, if_pos mk577, if_pos ⟨mk587, by decide, by rw [mn587]; decide⟩, if_pos mk577, hs]
  rw [if_pos (by decide)]
  rw [if_pos mk577]
  rw [show (0 : Int).toNat = 0 from rfl, show (1 : Int).toNat = 1 from rfl]
  rw [(show h 587 0 = ns.getD 0 0 from nu an (by omega)), (show h 587 1 = ns.getD 1 0 from nu an (by omega))]
  exact n_bind ok HR HD
theorem m_do9 (hs : h 577 28 = 98) (an : aR h 587 ns) (hl : ns.length = 2) (ok : rOk (h 578) N R S) (q : nO 9 ns W (h 578) = (0, 0)) {KI KX} (H : ∀ h' v, mfr [578, 584] [19, 20] h h' → h' 578 = dO 9 ns W (h 578) → KI v eNT e ewP h') : eCi X m_X13_doesNow [vR 577] eNT e ewP h KI KX := by
  refine bk_X13_doesNow_0 X 577 eNT e ewP h _ ?_
  rw [if_pos mk577, mp587, if_pos ⟨mk587, by decide, by rw [mn587]; decide⟩, if_pos mk577, if_pos ⟨mk587, by decide, by rw [mn587]; decide⟩, if_pos mk577, if_pos ⟨mk587, by decide, by rw [mn587]; decide⟩, if_pos mk577, hs]
  rw [if_pos (by decide), if_pos mk577]
  rw [show (0 : Int).toNat = 0 from rfl, show (1 : Int).toNat = 1 from rfl]
  rw [(show h 587 0 = ns.getD 0 0 from nu an (by omega)), (show h 587 1 = ns.getD 1 0 from nu an (by omega))]
  rw [d_bind ok q]
  exact H _ _ mfr_rw8 rw8_s
theorem m_not10 (hs : h 577 28 = 104) (an : aR h 587 ns) (hl : ns.length = 1) (ok : rOk (h 578) N R S) {KI KX} (HR : ∀ x y, nO 10 ns W (h 578) = (x, y) → x ≠ 0 → KI 1 eNT e ewP (up (up h 577 5 x) 577 6 y)) (HD : nO 10 ns W (h 578) = (0, 0) → KI 0 eNT e ewP h) : eCi X m_X13_notNow [vR 577] eNT e ewP h KI KX := by
  refine bk_X13_notNow_0 X 577 eNT e ewP h _ ?_
  rw [if_pos mk577, mp587, if_pos ⟨mk587, by decide, by rw [mn587]; decide⟩, if_pos mk577, if_pos ⟨mk587, by decide, by rw [mn587]; decide⟩, if_pos mk577, if_pos ⟨mk587, by decide, by rw [mn587]; decide⟩, if_pos mk577, hs]
  rw [if_neg (by decide), if_neg (by decide), if_neg (by decide), if_neg (by decide), if_neg (by decide), if_neg (by decide), if_pos (by decide)]
  rw [if_pos mk577]
  rw [show (0 : Int).toNat = 0 from rfl]
  rw [(show h 587 0 = ns.getD 0 0 from nu an (by omega))]
  exact n_fish ok HR HD
theorem m_do10 (hs : h 577 28 = 104) (an : aR h 587 ns) (hl : ns.length = 1) (ok : rOk (h 578) N R S) (q : nO 10 ns W (h 578) = (0, 0)) {KI KX} (H : ∀ h' v, mfr [578, 584] [19, 20] h h' → h' 578 = dO 10 ns W (h 578) → KI v eNT e ewP h') : eCi X m_X13_doesNow [vR 577] eNT e ewP h KI KX := by
  refine bk_X13_doesNow_0 X 577 eNT e ewP h _ ?_
  rw [if_pos mk577, mp587, if_pos ⟨mk587, by decide, by rw [mn587]; decide⟩, if_pos mk577, if_pos ⟨mk587, by decide, by rw [mn587]; decide⟩, if_pos mk577, if_pos ⟨mk587, by decide, by rw [mn587]; decide⟩, if_pos mk577, hs]
  rw [if_neg (by decide), if_neg (by decide), if_neg (by decide), if_neg (by decide), if_neg (by decide), if_neg (by decide), if_pos (by decide), if_pos mk577]
  rw [show (0 : Int).toNat = 0 from rfl]
  rw [(show h 587 0 = ns.getD 0 0 from nu an (by omega))]
  rw [m_fishes ok q]
  exact H _ _ mfr_rw8 rw8_s
theorem m_not11 (hs : h 577 28 = 115) (an : aR h 587 ns) (hl : ns.length = 1) (sr : sR h W) (ok : rOk (h 578) N R S) {KI KX} (HR : ∀ x y, nO 11 ns W (h 578) = (x, y) → x ≠ 0 → KI 1 eNT e ewP (up (up h 577 5 x) 577 6 y)) (HD : nO 11 ns W (h 578) = (0, 0) → KI 0 eNT e ewP h) : eCi X m_X13_notNow [vR 577] eNT e ewP h KI KX := by
  refine bk_X13_notNow_0 X 577 eNT e ewP h _ ?_
  rw [if_pos mk577, mp587, if_pos ⟨mk587, by decide, by rw [mn587]; decide⟩, if_pos mk577, if_pos ⟨mk587, by decide, by rw [mn587]; decide⟩, if_pos mk577, if_pos ⟨mk587, by decide, by rw [mn587]; decide⟩, if_pos mk577, hs]
  rw [if_neg (by decide), if_neg (by decide), if_neg (by decide), if_neg (by decide), if_neg (by decide), if_neg (by decide), if_neg (by decide), if_neg (by decide), if_neg (by decide), if_neg (by decide), if_neg (by decide), if_neg (by decide), if_neg (by decide), if_neg (by decide), if_neg (by decide), if_neg (by decide), if_neg (by decide), if_pos (by decide)]
  rw [if_pos mk577, if_pos mk577, sr.1]
  rw [show (0 : Int).toNat = 0 from rfl]
  rw [(show h 587 0 = ns.getD 0 0 from nu an (by omega))]
  exact n_shout ok HR HD
theorem m_do11 (hs : h 577 28 = 115) (an : aR h 587 ns) (hl : ns.length = 1) (sr : sR h W) (ok : rOk (h 578) N R S) (q : nO 11 ns W (h 578) = (0, 0)) {KI KX} (H : ∀ h' v, mfr [578, 584] [19, 20] h h' → h' 578 = dO 11 ns W (h 578) → KI v eNT e ewP h') : eCi X m_X13_doesNow [vR 577] eNT e ewP h KI KX := by
  refine bk_X13_doesNow_0 X 577 eNT e ewP h _ ?_
  rw [if_pos mk577, mp587, if_pos ⟨mk587, by decide, by rw [mn587]; decide⟩, if_pos mk577, if_pos ⟨mk587, by decide, by rw [mn587]; decide⟩, if_pos mk577, if_pos ⟨mk587, by decide, by rw [mn587]; decide⟩, if_pos mk577, hs]
  rw [if_neg (by decide), if_neg (by decide), if_neg (by decide), if_neg (by decide), if_neg (by decide), if_neg (by decide), if_neg (by decide), if_neg (by decide), if_neg (by decide), if_neg (by decide), if_neg (by decide), if_neg (by decide), if_neg (by decide), if_neg (by decide), if_neg (by decide), if_neg (by decide), if_neg (by decide), if_pos (by decide), if_pos mk577]
  rw [show (0 : Int).toNat = 0 from rfl]
  rw [(show h 587 0 = ns.getD 0 0 from nu an (by omega))]
  obtain ⟨v1, v2, v3, v4, v5, v6⟩ := wl_i ok (nShout_ok q)
  have ms := @m_shouts X e h (ns.getD 0 0).toNat (wW (h 578) (ns.getD 0 0).toNat 2).toNat W v1 v3 ok.2.2.2.2.2.2.1 sr
  rw [v2] at ms
  exact ms (fun h' f g => H h' _ f g)
theorem m_notNow {o : Nat} (ho : o < 12) (hs : h 577 28 = srt o) (an : aR h 587 ns) (hl : ns.length = (if o = 0 then 2 else if o = 1 then 2 else if o = 2 then 1 else if o = 3 then 3 else if o = 4 then 3 else if o = 5 then 3 else if o = 6 then 2 else if o = 7 then 0 else if o = 8 then 1 else if o = 9 then 2 else if o = 10 then 1 else 1)) (sr : o = 11 → sR h W) (ok : rOk (h 578) N R S) {KI KX} (HR : ∀ x y, nO o ns W (h 578) = (x, y) → x ≠ 0 → KI 1 eNT e ewP (up (up h 577 5 x) 577 6 y)) (HD : nO o ns W (h 578) = (0, 0) → KI 0 eNT e ewP h) : eCi X m_X13_notNow [vR 577] eNT e ewP h KI KX := by
  have ho2 : o = 0 ∨ o = 1 ∨ o = 2 ∨ o = 3 ∨ o = 4 ∨ o = 5 ∨ o = 6 ∨ o = 7 ∨ o = 8 ∨ o = 9 ∨ o = 10 ∨ o = 11 := by clear hl; omega
  rcases ho2 with ho2 | ho2 | ho2 | ho2 | ho2 | ho2 | ho2 | ho2 | ho2 | ho2 | ho2 | ho2 <;> subst ho2
  · exact m_not0 hs an hl ok HR HD
  · exact m_not1 hs an hl ok HR HD
  · exact m_not2 hs an hl ok HR HD
  · exact m_not3 hs an hl ok HR HD
  · exact m_not4 hs an hl ok HR HD
  · exact m_not5 hs an hl ok HR HD
  · exact m_not6 hs an hl ok HR HD
  · exact m_not7 hs an hl ok HR HD
  · exact m_not8 hs an hl ok HR HD
  · exact m_not9 hs an hl ok HR HD
  · exact m_not10 hs an hl ok HR HD
  · exact m_not11 hs an hl (sr rfl) ok HR HD
theorem m_doesNow {o : Nat} (ho : o < 12) (hs : h 577 28 = srt o) (an : aR h 587 ns) (hl : ns.length = (if o = 0 then 2 else if o = 1 then 2 else if o = 2 then 1 else if o = 3 then 3 else if o = 4 then 3 else if o = 5 then 3 else if o = 6 then 2 else if o = 7 then 0 else if o = 8 then 1 else if o = 9 then 2 else if o = 10 then 1 else 1)) (sr : o = 11 → sR h W) (ok : rOk (h 578) N R S) (q : nO o ns W (h 578) = (0, 0)) {KI KX} (H : ∀ h' v, mfr [578, 584] [19, 20] h h' → h' 578 = dO o ns W (h 578) → KI v eNT e ewP h') : eCi X m_X13_doesNow [vR 577] eNT e ewP h KI KX := by
  have ho2 : o = 0 ∨ o = 1 ∨ o = 2 ∨ o = 3 ∨ o = 4 ∨ o = 5 ∨ o = 6 ∨ o = 7 ∨ o = 8 ∨ o = 9 ∨ o = 10 ∨ o = 11 := by clear hl; omega
  rcases ho2 with ho2 | ho2 | ho2 | ho2 | ho2 | ho2 | ho2 | ho2 | ho2 | ho2 | ho2 | ho2 <;> subst ho2
  · exact m_do0 hs an hl ok q H
  · exact m_do1 hs an hl ok q H
  · exact m_do2 hs an hl ok q H
  · exact m_do3 hs an hl ok q H
  · exact m_do4 hs an hl ok q H
  · exact m_do5 hs an hl ok q H
  · exact m_do6 hs an hl ok q H
  · exact m_do7 hs an hl ok q H
  · exact m_do8 hs an hl ok q H
  · exact m_do9 hs an hl ok q H
  · exact m_do10 hs an hl ok q H
  · exact m_do11 hs an hl (sr rfl) ok q H
/-- what may be another behind a text -/
abbrev dfr (h h' : Nat → Nat → Int) : Prop := mfr [578, 583, 584, 587] [5, 6, 17, 19, 20, 25, 28, 29] h h'
theorem lp_does {T : List Int} : ∀ (n i q : Nat) (h : Nat → Nat → Int), i + n ≤ 100 → rl T n q → mS h T q → okF T n q (h 578) → h 577 29 = (i : Int) → ∀ Q, (∀ j x y, obF T n q i (h 578) = .inl (j, x, y) → x ≠ 0 → ∀ h', dfr h h' → h' 577 5 = x → h' 577 6 = y → h' 577 29 = ((j : Nat) : Int) → Q (.inl (some (vI 0))) (eNT, e, ewP, h')) → (∀ w', obF T n q i (h 578) = .inr w' → ∀ h', dfr h h' → h' 578 = w' → h' 577 29 = ((i + n : Nat) : Int) → Q (.inl (some (vI 1))) (eNT, e, ewP, h')) → eP X m_X13_doesAll 8 [vR 577, vI (if n = 0 then 0 else 1)] [] (eNT, e, ewP, h) Q := by
  intro n
  induction n with
  | zero =>
    intro i q h hi _ l _ h29 Q HR HD
    refine bk_X13_doesAll_8 X 577 _ eNT e ewP h Q ?_
    rw [if_pos (by rfl), if_pos (by decide)]
    exact HD _ rfl h mfr_rfl rfl h29
  | succ n ih =>
    intro i q h hi hrl l hok h29 Q HR HD
    obtain ⟨hq, o, q1, ns, W, ho, hn⟩ := rl_s hrl
    obtain ⟨in1, in2, in3, in4, in5⟩ := (rdOrd_in hq).2 o q1 ns W ho
    obtain ⟨⟨N, R, S, ok⟩, hok2⟩ := hok
    refine bk_X13_doesAll_8 X 577 _ eNT e ewP h Q ?_
    rw [if_neg (by rw [if_neg (Nat.succ_ne_zero n)]; decide), if_pos mk577]
    have G : ∀ h1, rfr h h1 → mS h1 T q1 → h1 577 28 = srt o → aR h1 587 ns → (o = 11 → sR h1 W) → ∀ KX KY KZ, (if kn ewK eNT 577 = 13 then eCi X m_X13_notNow [vR 577] eNT e ewP h1 (fun r2 n2 e2 p2 h2 => if r2 = 0 then if kn ewK n2 577 = 13 then eCi X m_X13_doesNow [vR 577] n2 e2 p2 h2 (fun r3 n3 e3 p3 h3 => if kn ewK n3 577 = 13 then if kn ewK n3 577 = 13 then if kn ewK n3 577 = 13 then eCi X m_X13_reads [vR 577, vI 59] n3 e3 p3 (up h3 577 29 (wr ((h3 577 29) + 1))) (fun r4 n4 e4 p4 h4 => eP X m_X13_doesAll 8 [vR 577, vI r4] [] (n4, e4, p4, h4) Q) KX else False else False else False) KY else False else if (0 : Int) = 0 ∨ (0 : Int) = 1 then Q (.inl (some (vI 0))) (n2, e2, p2, h2) else False) KZ else False) := by
      intro h1 f1 s1 o1 a1 w1 KX KY KZ
      have d1 : dfr h h1 := mfr_le f1 (by decide) (by decide)
      have e8 : h1 578 = h 578 := f1.1 578 (by decide) (by decide)
      rw [if_pos mk577]
      refine m_notNow in1 o1 a1 in4 w1 (by rw [e8]; exact ok) (fun x y hx hx0 => ?_) (fun hz => ?_)
      · rw [if_neg (by decide), if_pos (by decide)]
        rw [e8] at hx
        refine HR i x y ?_ hx0 _ (mfr_tr d1 (mfr_f (mfr_f mfr_rfl (by decide)) (by decide))) (by rw [up_nk (by decide), up_eq]) up_eq (by rw [up_nk (by decide), up_nk (by decide), f1.2 29 (by decide)]; exact h29)
        rw [obF, ho]
        dsimp only
        rw [if_neg (by rw [hx]; intro z; exact hx0 (congrArg Prod.fst z)), hx]
      · rw [if_pos rfl, if_pos mk577]
        refine m_doesNow in1 o1 a1 in4 w1 (by rw [e8]; exact ok) hz (fun h2 v f2 g2 => ?_)
        rw [e8] at hz g2
        have ob : obF T (n + 1) q i (h 578) = obF T n (q1 + 1) (i + 1) (dO o ns W (h 578)) := by
          rw [obF, ho]
          dsimp only
          rw [if_pos hz]
        have okn := hok2 o q1 ns W ho hz
        rw [ob] at HR HD
        have n29 : h2 577 29 = (i : Int) := by rw [f2.2 29 (by decide), f1.2 29 (by decide)]; exact h29
        have s2 : mS h2 T q1 := ⟨by rw [f2.2 25 (by decide)]; exact s1.1, by rw [f2.2 24 (by decide)]; exact s1.2.1, s1.2.2.1, aR_h (f2.1 586 (by decide) (by decide)) s1.2.2.2⟩
        rw [if_pos mk577, if_pos mk577, if_pos mk577, n29, wi1 (by omega)]
        have s3 : mS (up h2 577 29 ((i + 1 : Nat) : Int)) T q1 := mS_k (by omega) (by omega) s2
        have d3 : dfr h (up h2 577 29 ((i + 1 : Nat) : Int)) := mfr_f (mfr_tr d1 (mfr_le f2 (by decide) (by decide))) (by decide)
        have w3 : (up h2 577 29 ((i + 1 : Nat) : Int)) 578 = dO o ns W (h 578) := by rw [up_ne (by omega)]; exact g2
        have n3 : (up h2 577 29 ((i + 1 : Nat) : Int)) 577 29 = ((i + 1 : Nat) : Int) := up_eq
        generalize (up h2 577 29 ((i + 1 : Nat) : Int)) = h3 at s3 d3 w3 n3 ⊢
        refine m_sg (by decide) s3 (fun hne => ?_) (fun heq h4 m4 s4 => ?_)
        · rcases hn with ⟨n0, -⟩ | ⟨-, heq, -⟩
          · subst n0
            refine ih (i + 1) q1 h3 (by clear in4; omega) (Or.inl rfl) s3 trivial n3 Q (fun j x y hb => by cases hb) (fun w' hb h5 f5 g5 n5 => HD w' (by rw [w3] at hb; exact hb) h5 (mfr_tr d3 f5) g5 (by rw [n5, show i + 1 + 0 = i + (0 + 1) from rfl]))
          · exact absurd heq hne
        · rcases hn with ⟨-, hne⟩ | ⟨n0, -, hrl2⟩
          · exact absurd heq hne
          · have d4 : dfr h h4 := mfr_tr d3 (mfr_le (rfr_s m4) (by decide) (by decide))
            have w4 : h4 578 = dO o ns W (h 578) := by rw [m4.1 578 (by decide)]; exact w3
            have R := ih (i + 1) (q1 + 1) h4 (by clear in4; omega) hrl2 s4 (by rw [w4]; exact okn) (by rw [m4.2 29 (by decide)]; exact n3) Q (fun j x y hb hx0 h5 f5 g5 g6 g7 => HR j x y (by rw [w4] at hb; exact hb) hx0 h5 (mfr_tr d4 f5) g5 g6 g7) (fun w' hb h5 f5 g5 n5 => HD w' (by rw [w4] at hb; exact hb) h5 (mfr_tr d4 f5) g5 (by rw [n5, show i + 1 + n = i + (n + 1) by clear in4; omega]))
            rw [if_neg n0] at R
            exact R
    exact m_readsOrder l ⟨fun f hf => (by rw [ho] at hf; cases hf), fun o' q1' ns' W' ho' h1 f1 s1 o1 a1 w1 => by rw [ho] at ho'; cases ho'; exact G h1 f1 s1 o1 a1 w1 _ _ _⟩
theorem m_doesAll {T : List Int} {n : Nat} (n0 : n ≠ 0) (n100 : n ≤ 100) (hn : rdAll T 60 0 = .inr n) (l24 : h 577 24 = (T.length : Int)) (l60 : T.length ≤ 60) (l86 : aR h 586 T) (hok : okF T n 0 (h 578)) {KI KX} (HR : ∀ j x y, obF T n 0 0 (h 578) = .inl (j, x, y) → x ≠ 0 → ∀ h', dfr h h' → h' 577 5 = x → h' 577 6 = y → h' 577 29 = ((j : Nat) : Int) → KI 0 eNT e ewP h') (HD : ∀ w', obF T n 0 0 (h 578) = .inr w' → ∀ h', dfr h h' → h' 578 = w' → h' 577 29 = (n : Int) → KI 1 eNT e ewP h') : eCi X m_X13_doesAll [vR 577] eNT e ewP h KI KX := by
  refine bk_X13_doesAll_0 X 577 eNT e ewP h _ ?_
  rw [if_pos mk577, if_pos mk577]
  have R := lp_does (X := X) (e := e) (T := T) n 0 0 (up (up h 577 29 0) 577 25 0) (by omega) (Or.inr ⟨Nat.zero_le _, 60, hn⟩) ⟨up_eq, by rw [up_nk (by decide), up_nk (by decide)]; exact l24, l60, aR_h (by rw [up_ne (by decide), up_ne (by decide)]) l86⟩ (by rw [up_ne (by decide), up_ne (by decide)]; exact hok) (by rw [up_nk (by decide), up_eq]; rfl) (fun o μ => match o, μ with
    | .inl (some (.inl x)), (n, e, p, h) => KI x n e p h
    | .inr E, (n, e, p, h) => KX E n e p h
    | _, _ => False) (fun j x y hb hx0 h5 f5 g5 g6 g7 => HR j x y (by rw [up_ne (by decide), up_ne (by decide)] at hb; exact hb) hx0 h5 (mfr_tr (mfr_f (mfr_f mfr_rfl (by decide)) (by decide)) f5) g5 g6 g7) (fun w' hb h5 f5 g5 n5 => HD w' (by rw [up_ne (by decide), up_ne (by decide)] at hb; exact hb) h5 (mfr_tr (mfr_f (mfr_f mfr_rfl (by decide)) (by decide)) f5) g5 (by rw [n5, Nat.zero_add]))
  rw [if_neg n0] at R
  exact R
/-- the whole text read -/
theorem lp_reads {T : List Int} : ∀ (k q : Nat) (h : Nat → Nat → Int), T.length < q + 2 * k → q ≤ T.length → mS h T q → ∀ Q, (∀ f, rdAll T k q = .inl f → ∀ h', rfr h h' → mS h' T f → Q (.inl (some (vI 0))) (eNT, e, ewP, h')) → (∀ n, rdAll T k q = .inr n → ∀ h', rfr h h' → Q (.inl (some (vI 1))) (eNT, e, ewP, h')) → eP X m_X13_readsAll 5 [vR 577, vI 1] [] (eNT, e, ewP, h) Q := by
  intro k
  induction k with
  | zero => intro q h hk hq; omega
  | succ k ih =>
    intro q h hk hq l Q HF HS
    refine bk_X13_readsAll_5 X 577 1 eNT e ewP h Q ?_
    rw [if_neg (by decide), if_pos mk577]
    rw [rdAll] at HF HS
    refine m_readsOrder l ⟨fun f hf h1 f1 s1 => ?_, fun o q1 ns W ho h1 f1 s1 o1 a1 w1 => ?_⟩
    · dsimp only
      rw [if_pos rfl, if_pos (by decide)]
      rw [hf] at HF
      exact HF f rfl h1 f1 s1
    · dsimp only
      obtain ⟨in1, in2, in3, -, in5⟩ := (rdOrd_in hq).2 o q1 ns W ho
      rw [ho] at HF HS
      dsimp only at HF HS
      rw [if_neg (by decide), if_pos mk577]
      refine m_sg (by decide) s1 (fun hne => ?_) (fun heq h2 m2 s2 => ?_)
      · refine bk_X13_readsAll_5 X 577 0 eNT e ewP h1 Q ?_
        rw [if_pos rfl, if_pos mk577, if_pos mk577, s1.1, s1.2.1]
        by_cases a : T.length ≤ q1
        · rw [if_pos (by omega), if_pos (by decide)]
          rw [if_pos a] at HS
          exact HS 1 rfl h1 f1
        · rw [if_neg (by omega), if_pos (by decide)]
          rw [if_neg a, if_neg hne] at HF
          exact HF q1 rfl h1 f1 s1
      · have qi := sg_in (T := T) (q := q1) (by omega)
        rw [if_neg (by omega), if_pos heq] at HF HS
        refine ih (q1 + 1) h2 (by omega) (by omega) s2 Q (fun f hf h3 f3 s3 => ?_) (fun n hn h3 f3 => ?_)
        · rw [hf] at HF
          exact HF f rfl h3 (mfr_tr (rfr_sm f1 m2) f3) s3
        · rw [hn] at HS
          exact HS (n + 1) rfl h3 (mfr_tr (rfr_sm f1 m2) f3)
theorem m_readsAll {T : List Int} (l24 : h 577 24 = (T.length : Int)) (l60 : T.length ≤ 60) (l86 : aR h 586 T) {KI KX} (HF : ∀ f, rdAll T 60 0 = .inl f → ∀ h', rfr h h' → mS h' T f → KI 0 eNT e ewP h') (HS : ∀ n, rdAll T 60 0 = .inr n → ∀ h', rfr h h' → KI 1 eNT e ewP h') : eCi X m_X13_readsAll [vR 577] eNT e ewP h KI KX := by
  refine bk_X13_readsAll_0 X 577 eNT e ewP h _ ?_
  rw [if_pos mk577]
  refine lp_reads (T := T) 60 0 _ (by omega) (Nat.zero_le _) ⟨up_eq, by rw [up_nk (by decide)]; exact l24, l60, aR_h (up_ne (by decide)) l86⟩ _ (fun f hf h1 f1 s1 => ?_) (fun n hn h1 f1 => ?_)
  · exact HF f hf h1 (mfr_tr (mfr_f mfr_rfl (by decide)) f1) s1
  · exact HS n hn h1 (mfr_tr (mfr_f mfr_rfl (by decide)) f1)
end
