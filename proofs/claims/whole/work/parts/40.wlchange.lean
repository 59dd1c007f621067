/-! what the law calls: changes of the class -/
theorem eBk_h {X : eX} {m pc E t k : Nat} {ls rest : List eV} {Q : eO → eM → Prop} {μ : eM} (hm : ewHnd m pc E = some (t, k)) (H : eP X m t (eSt ls k vJ) [] μ Q) : eBk X m pc ls rest Q (.inr E) μ := by
  unfold eBk
  simp only [hm]
  exact H
theorem ok588 : kn ewK eNT 588 = 23 := kn_ly (by decide +kernel) (by decide)
theorem on588 : ewL 588 = 1 := by decide +kernel
theorem ok589 : kn ewK eNT 589 = 24 := kn_ly (by decide +kernel) (by decide)
theorem on589 : ewL 589 = 1 := by decide +kernel
section
variable {X : eX} {e : Nat} {h : Nat → Nat → Int} {w : Nat → Int} {c : Nat} {U : Nat → Nat → Int} {b : Bool} {r : Nat → Int} {k1 k2 : Int × Int} {W I L : List Int} {f : Int}
theorem wl_dig {a1 a2 : Int} (l : CI h w c U b r k1 k2 W I L f) {KI KX} (HR : ∀ x y, nOrd 0 w a1 a2 0 W.length = (x, y) → x ≠ 0 → ∀ h', (∀ z, 577 ≤ z → h' z = h z) → CI h' w c U b r (x, y) (0, 0) W I L f → KI 1 eNT (e + 1) ewP h') (HD : nOrd 0 w a1 a2 0 W.length = (0, 0) → ∀ h', (∀ z, 577 ≤ z → z ≠ 588 → h' z = h z) → h' 588 0 = aOrd 0 w a1 a2 0 W → CI h' (dOrd 0 w a1 a2 0 W) (pC c) (pU2 c U w) b r k1 k2 W I L f → KI 0 eNT e ewP h') : eCi X m_L_dig [vR 1, vI a1, vI a2, vR 588] eNT e ewP h KI KX := by
  refine bk_L_dig_0 X 1 a1 a2 588 eNT e ewP h _ ?_
  rw [if_pos ck1]
  refine bk_X12_dig_0 X 1 a1 a2 eNT e ewP h _ ?_
  rw [if_pos ck1]
  refine c_changed (o := 0) (by decide) l (fun x y hn hx h' f1 l' => ?_) (fun hn h' f1 l' => ?_)
  · rw [eBk_thr X (by decide)]
    refine eBk_h (t := 10) (k := 4) (by decide +kernel) ?_
    exact bk_L_dig_10 X 1 a1 a2 588 _ eNT (e + 1) ewP h' _ (HR x y hn hx h' f1 l')
  · show if kn ewK eNT 588 = 23 ∧ 0 ≤ (0 : Int) ∧ 0 < (ewL 588 : Int) then _ else _
    rw [if_pos ⟨ok588, by decide, by rw [on588]; decide⟩]
    exact HD hn _ (fun z h1 h2 => by rw [up_ne h2]; exact f1 z h1) up_eq (CI_f (fun z hz => up_ne (by omega)) l')
theorem wl_deepen {a1 a2 : Int} (l : CI h w c U b r k1 k2 W I L f) {KI KX} (HR : ∀ x y, nOrd 1 w a1 a2 0 W.length = (x, y) → x ≠ 0 → ∀ h', (∀ z, 577 ≤ z → h' z = h z) → CI h' w c U b r (x, y) (0, 0) W I L f → KI 1 eNT (e + 1) ewP h') (HD : nOrd 1 w a1 a2 0 W.length = (0, 0) → ∀ h', (∀ z, 577 ≤ z → z ≠ 588 → h' z = h z) → h' 588 0 = aOrd 1 w a1 a2 0 W → CI h' (dOrd 1 w a1 a2 0 W) (pC c) (pU2 c U w) b r k1 k2 W I L f → KI 0 eNT e ewP h') : eCi X m_L_deepen [vR 1, vI a1, vI a2, vR 588] eNT e ewP h KI KX := by
  refine bk_L_deepen_0 X 1 a1 a2 588 eNT e ewP h _ ?_
  rw [if_pos ck1]
  refine bk_X12_deepen_0 X 1 a1 a2 eNT e ewP h _ ?_
  rw [if_pos ck1]
  refine c_changed (o := 1) (by decide) l (fun x y hn hx h' f1 l' => ?_) (fun hn h' f1 l' => ?_)
  · rw [eBk_thr X (by decide)]
    refine eBk_h (t := 10) (k := 4) (by decide +kernel) ?_
    exact bk_L_deepen_10 X 1 a1 a2 588 _ eNT (e + 1) ewP h' _ (HR x y hn hx h' f1 l')
  · show if kn ewK eNT 588 = 23 ∧ 0 ≤ (0 : Int) ∧ 0 < (ewL 588 : Int) then _ else _
    rw [if_pos ⟨ok588, by decide, by rw [on588]; decide⟩]
    exact HD hn _ (fun z h1 h2 => by rw [up_ne h2]; exact f1 z h1) up_eq (CI_f (fun z hz => up_ne (by omega)) l')
theorem wl_fill {a1 : Int} (l : CI h w c U b r k1 k2 W I L f) {KI KX} (HR : ∀ x y, nOrd 2 w a1 0 0 W.length = (x, y) → x ≠ 0 → ∀ h', (∀ z, 577 ≤ z → h' z = h z) → CI h' w c U b r (x, y) (0, 0) W I L f → KI 1 eNT (e + 1) ewP h') (HD : nOrd 2 w a1 0 0 W.length = (0, 0) → ∀ h', (∀ z, 577 ≤ z → z ≠ 588 → h' z = h z) → h' 588 0 = aOrd 2 w a1 0 0 W → CI h' (dOrd 2 w a1 0 0 W) (pC c) (pU2 c U w) b r k1 k2 W I L f → KI 0 eNT e ewP h') : eCi X m_L_fill [vR 1, vI a1, vR 588] eNT e ewP h KI KX := by
  refine bk_L_fill_0 X 1 a1 588 eNT e ewP h _ ?_
  rw [if_pos ck1]
  refine bk_X12_fill_0 X 1 a1 eNT e ewP h _ ?_
  rw [if_pos ck1]
  refine c_changed (o := 2) (by decide) l (fun x y hn hx h' f1 l' => ?_) (fun hn h' f1 l' => ?_)
  · rw [eBk_thr X (by decide)]
    refine eBk_h (t := 9) (k := 3) (by decide +kernel) ?_
    exact bk_L_fill_9 X 1 a1 588 _ eNT (e + 1) ewP h' _ (HR x y hn hx h' f1 l')
  · show if kn ewK eNT 588 = 23 ∧ 0 ≤ (0 : Int) ∧ 0 < (ewL 588 : Int) then _ else _
    rw [if_pos ⟨ok588, by decide, by rw [on588]; decide⟩]
    exact HD hn _ (fun z h1 h2 => by rw [up_ne h2]; exact f1 z h1) up_eq (CI_f (fun z hz => up_ne (by omega)) l')
theorem wl_coin {a1 a2 a3 : Int} (l : CI h w c U b r k1 k2 W I L f) {KI KX} (HR : ∀ x y, nOrd 3 w a1 a2 a3 W.length = (x, y) → x ≠ 0 → ∀ h', (∀ z, 577 ≤ z → h' z = h z) → CI h' w c U b r (x, y) (0, 0) W I L f → KI 1 eNT (e + 1) ewP h') (HD : nOrd 3 w a1 a2 a3 W.length = (0, 0) → ∀ h', (∀ z, 577 ≤ z → z ≠ 588 → h' z = h z) → h' 588 0 = aOrd 3 w a1 a2 a3 W → CI h' (dOrd 3 w a1 a2 a3 W) (pC c) (pU2 c U w) b r k1 k2 W I L f → KI 0 eNT e ewP h') : eCi X m_L_coin [vR 1, vI a1, vI a2, vI a3, vR 588] eNT e ewP h KI KX := by
  refine bk_L_coin_0 X 1 a1 a2 a3 588 eNT e ewP h _ ?_
  rw [if_pos ck1]
  refine bk_X12_coin_0 X 1 a1 a2 a3 eNT e ewP h _ ?_
  rw [if_pos ck1]
  refine c_changed (o := 3) (by decide) l (fun x y hn hx h' f1 l' => ?_) (fun hn h' f1 l' => ?_)
  · rw [eBk_thr X (by decide)]
    refine eBk_h (t := 11) (k := 5) (by decide +kernel) ?_
    exact bk_L_coin_11 X 1 a1 a2 a3 588 _ eNT (e + 1) ewP h' _ (HR x y hn hx h' f1 l')
  · show if kn ewK eNT 588 = 23 ∧ 0 ≤ (0 : Int) ∧ 0 < (ewL 588 : Int) then _ else _
    rw [if_pos ⟨ok588, by decide, by rw [on588]; decide⟩]
    exact HD hn _ (fun z h1 h2 => by rw [up_ne h2]; exact f1 z h1) up_eq (CI_f (fun z hz => up_ne (by omega)) l')
theorem wl_frog {a1 a2 a3 : Int} (l : CI h w c U b r k1 k2 W I L f) {KI KX} (HR : ∀ x y, nOrd 4 w a1 a2 a3 W.length = (x, y) → x ≠ 0 → ∀ h', (∀ z, 577 ≤ z → h' z = h z) → CI h' w c U b r (x, y) (0, 0) W I L f → KI 1 eNT (e + 1) ewP h') (HD : nOrd 4 w a1 a2 a3 W.length = (0, 0) → ∀ h', (∀ z, 577 ≤ z → z ≠ 588 → h' z = h z) → h' 588 0 = aOrd 4 w a1 a2 a3 W → CI h' (dOrd 4 w a1 a2 a3 W) (pC c) (pU2 c U w) b r k1 k2 W I L f → KI 0 eNT e ewP h') : eCi X m_L_frog [vR 1, vI a1, vI a2, vI a3, vR 588] eNT e ewP h KI KX := by
  refine bk_L_frog_0 X 1 a1 a2 a3 588 eNT e ewP h _ ?_
  rw [if_pos ck1]
  refine bk_X12_frog_0 X 1 a1 a2 a3 eNT e ewP h _ ?_
  rw [if_pos ck1]
  refine c_changed (o := 4) (by decide) l (fun x y hn hx h' f1 l' => ?_) (fun hn h' f1 l' => ?_)
  · rw [eBk_thr X (by decide)]
    refine eBk_h (t := 11) (k := 5) (by decide +kernel) ?_
    exact bk_L_frog_11 X 1 a1 a2 a3 588 _ eNT (e + 1) ewP h' _ (HR x y hn hx h' f1 l')
  · show if kn ewK eNT 588 = 23 ∧ 0 ≤ (0 : Int) ∧ 0 < (ewL 588 : Int) then _ else _
    rw [if_pos ⟨ok588, by decide, by rw [on588]; decide⟩]
    exact HD hn _ (fun z h1 h2 => by rw [up_ne h2]; exact f1 z h1) up_eq (CI_f (fun z hz => up_ne (by omega)) l')
theorem wl_moss {a1 a2 a3 : Int} (l : CI h w c U b r k1 k2 W I L f) {KI KX} (HR : ∀ x y, nOrd 5 w a1 a2 a3 W.length = (x, y) → x ≠ 0 → ∀ h', (∀ z, 577 ≤ z → h' z = h z) → CI h' w c U b r (x, y) (0, 0) W I L f → KI 1 eNT (e + 1) ewP h') (HD : nOrd 5 w a1 a2 a3 W.length = (0, 0) → ∀ h', (∀ z, 577 ≤ z → z ≠ 588 → h' z = h z) → h' 588 0 = aOrd 5 w a1 a2 a3 W → CI h' (dOrd 5 w a1 a2 a3 W) (pC c) (pU2 c U w) b r k1 k2 W I L f → KI 0 eNT e ewP h') : eCi X m_L_moss [vR 1, vI a1, vI a2, vI a3, vR 588] eNT e ewP h KI KX := by
  refine bk_L_moss_0 X 1 a1 a2 a3 588 eNT e ewP h _ ?_
  rw [if_pos ck1]
  refine bk_X12_moss_0 X 1 a1 a2 a3 eNT e ewP h _ ?_
  rw [if_pos ck1]
  refine c_changed (o := 5) (by decide) l (fun x y hn hx h' f1 l' => ?_) (fun hn h' f1 l' => ?_)
  · rw [eBk_thr X (by decide)]
    refine eBk_h (t := 11) (k := 5) (by decide +kernel) ?_
    exact bk_L_moss_11 X 1 a1 a2 a3 588 _ eNT (e + 1) ewP h' _ (HR x y hn hx h' f1 l')
  · show if kn ewK eNT 588 = 23 ∧ 0 ≤ (0 : Int) ∧ 0 < (ewL 588 : Int) then _ else _
    rw [if_pos ⟨ok588, by decide, by rw [on588]; decide⟩]
    exact HD hn _ (fun z h1 h2 => by rw [up_ne h2]; exact f1 z h1) up_eq (CI_f (fun z hz => up_ne (by omega)) l')
theorem wl_take {a1 a2 : Int} (l : CI h w c U b r k1 k2 W I L f) {KI KX} (HR : ∀ x y, nOrd 6 w a1 a2 0 W.length = (x, y) → x ≠ 0 → ∀ h', (∀ z, 577 ≤ z → h' z = h z) → CI h' w c U b r (x, y) (0, 0) W I L f → KI 1 eNT (e + 1) ewP h') (HD : nOrd 6 w a1 a2 0 W.length = (0, 0) → ∀ h', (∀ z, 577 ≤ z → z ≠ 588 → h' z = h z) → h' 588 0 = aOrd 6 w a1 a2 0 W → CI h' (dOrd 6 w a1 a2 0 W) (pC c) (pU2 c U w) b r k1 k2 W I L f → KI 0 eNT e ewP h') : eCi X m_L_take [vR 1, vI a1, vI a2, vR 588] eNT e ewP h KI KX := by
  refine bk_L_take_0 X 1 a1 a2 588 eNT e ewP h _ ?_
  rw [if_pos ck1]
  refine bk_X12_take_0 X 1 a1 a2 eNT e ewP h _ ?_
  rw [if_pos ck1]
  refine c_changed (o := 6) (by decide) l (fun x y hn hx h' f1 l' => ?_) (fun hn h' f1 l' => ?_)
  · rw [eBk_thr X (by decide)]
    refine eBk_h (t := 10) (k := 4) (by decide +kernel) ?_
    exact bk_L_take_10 X 1 a1 a2 588 _ eNT (e + 1) ewP h' _ (HR x y hn hx h' f1 l')
  · show if kn ewK eNT 588 = 23 ∧ 0 ≤ (0 : Int) ∧ 0 < (ewL 588 : Int) then _ else _
    rw [if_pos ⟨ok588, by decide, by rw [on588]; decide⟩]
    exact HD hn _ (fun z h1 h2 => by rw [up_ne h2]; exact f1 z h1) up_eq (CI_f (fun z hz => up_ne (by omega)) l')
theorem wl_rope {a1 : Int} (l : CI h w c U b r k1 k2 W I L f) {KI KX} (HR : ∀ x y, nOrd 8 w a1 0 0 W.length = (x, y) → x ≠ 0 → ∀ h', (∀ z, 577 ≤ z → h' z = h z) → CI h' w c U b r (x, y) (0, 0) W I L f → KI 1 eNT (e + 1) ewP h') (HD : nOrd 8 w a1 0 0 W.length = (0, 0) → ∀ h', (∀ z, 577 ≤ z → z ≠ 588 → h' z = h z) → h' 588 0 = aOrd 8 w a1 0 0 W → CI h' (dOrd 8 w a1 0 0 W) (pC c) (pU2 c U w) b r k1 k2 W I L f → KI 0 eNT e ewP h') : eCi X m_L_rope [vR 1, vI a1, vR 588] eNT e ewP h KI KX := by
  refine bk_L_rope_0 X 1 a1 588 eNT e ewP h _ ?_
  rw [if_pos ck1]
  refine bk_X12_rope_0 X 1 a1 eNT e ewP h _ ?_
  rw [if_pos ck1]
  refine c_changed (o := 8) (by decide) l (fun x y hn hx h' f1 l' => ?_) (fun hn h' f1 l' => ?_)
  · rw [eBk_thr X (by decide)]
    refine eBk_h (t := 9) (k := 3) (by decide +kernel) ?_
    exact bk_L_rope_9 X 1 a1 588 _ eNT (e + 1) ewP h' _ (HR x y hn hx h' f1 l')
  · show if kn ewK eNT 588 = 23 ∧ 0 ≤ (0 : Int) ∧ 0 < (ewL 588 : Int) then _ else _
    rw [if_pos ⟨ok588, by decide, by rw [on588]; decide⟩]
    exact HD hn _ (fun z h1 h2 => by rw [up_ne h2]; exact f1 z h1) up_eq (CI_f (fun z hz => up_ne (by omega)) l')
theorem wl_bind {a1 a2 : Int} (l : CI h w c U b r k1 k2 W I L f) {KI KX} (HR : ∀ x y, nOrd 9 w a1 a2 0 W.length = (x, y) → x ≠ 0 → ∀ h', (∀ z, 577 ≤ z → h' z = h z) → CI h' w c U b r (x, y) (0, 0) W I L f → KI 1 eNT (e + 1) ewP h') (HD : nOrd 9 w a1 a2 0 W.length = (0, 0) → ∀ h', (∀ z, 577 ≤ z → z ≠ 588 → h' z = h z) → h' 588 0 = aOrd 9 w a1 a2 0 W → CI h' (dOrd 9 w a1 a2 0 W) (pC c) (pU2 c U w) b r k1 k2 W I L f → KI 0 eNT e ewP h') : eCi X m_L_bind [vR 1, vI a1, vI a2, vR 588] eNT e ewP h KI KX := by
  refine bk_L_bind_0 X 1 a1 a2 588 eNT e ewP h _ ?_
  rw [if_pos ck1]
  refine bk_X12_bind_0 X 1 a1 a2 eNT e ewP h _ ?_
  rw [if_pos ck1]
  refine c_changed (o := 9) (by decide) l (fun x y hn hx h' f1 l' => ?_) (fun hn h' f1 l' => ?_)
  · rw [eBk_thr X (by decide)]
    refine eBk_h (t := 10) (k := 4) (by decide +kernel) ?_
    exact bk_L_bind_10 X 1 a1 a2 588 _ eNT (e + 1) ewP h' _ (HR x y hn hx h' f1 l')
  · show if kn ewK eNT 588 = 23 ∧ 0 ≤ (0 : Int) ∧ 0 < (ewL 588 : Int) then _ else _
    rw [if_pos ⟨ok588, by decide, by rw [on588]; decide⟩]
    exact HD hn _ (fun z h1 h2 => by rw [up_ne h2]; exact f1 z h1) up_eq (CI_f (fun z hz => up_ne (by omega)) l')
theorem wl_fish {a1 : Int} (l : CI h w c U b r k1 k2 W I L f) {KI KX} (HR : ∀ x y, nOrd 10 w a1 0 0 W.length = (x, y) → x ≠ 0 → ∀ h', (∀ z, 577 ≤ z → h' z = h z) → CI h' w c U b r (x, y) (0, 0) W I L f → KI 1 eNT (e + 1) ewP h') (HD : nOrd 10 w a1 0 0 W.length = (0, 0) → ∀ h', (∀ z, 577 ≤ z → z ≠ 588 → h' z = h z) → h' 588 0 = aOrd 10 w a1 0 0 W → CI h' (dOrd 10 w a1 0 0 W) (pC c) (pU2 c U w) b r k1 k2 W I L f → KI 0 eNT e ewP h') : eCi X m_L_fish [vR 1, vI a1, vR 588] eNT e ewP h KI KX := by
  refine bk_L_fish_0 X 1 a1 588 eNT e ewP h _ ?_
  rw [if_pos ck1]
  refine bk_X12_fish_0 X 1 a1 eNT e ewP h _ ?_
  rw [if_pos ck1]
  refine c_changed (o := 10) (by decide) l (fun x y hn hx h' f1 l' => ?_) (fun hn h' f1 l' => ?_)
  · rw [eBk_thr X (by decide)]
    refine eBk_h (t := 9) (k := 3) (by decide +kernel) ?_
    exact bk_L_fish_9 X 1 a1 588 _ eNT (e + 1) ewP h' _ (HR x y hn hx h' f1 l')
  · show if kn ewK eNT 588 = 23 ∧ 0 ≤ (0 : Int) ∧ 0 < (ewL 588 : Int) then _ else _
    rw [if_pos ⟨ok588, by decide, by rw [on588]; decide⟩]
    exact HD hn _ (fun z h1 h2 => by rw [up_ne h2]; exact f1 z h1) up_eq (CI_f (fun z hz => up_ne (by omega)) l')
theorem wl_shout {a1 : Int} (l : CI h w c U b r k1 k2 W I L f) {KI KX} (HR : ∀ x y, nOrd 11 w a1 0 0 W.length = (x, y) → x ≠ 0 → ∀ h', (∀ z, 577 ≤ z → h' z = h z) → CI h' w c U b r (x, y) (0, 0) W I L f → KI 1 eNT (e + 1) ewP h') (HD : nOrd 11 w a1 0 0 W.length = (0, 0) → ∀ h', (∀ z, 577 ≤ z → z ≠ 588 → h' z = h z) → h' 588 0 = aOrd 11 w a1 0 0 W → CI h' (dOrd 11 w a1 0 0 W) (pC c) (pU2 c U w) b r k1 k2 [] I L f → KI 0 eNT e ewP h') : eCi X m_L_shout [vR 1, vI a1, vR 588] eNT e ewP h KI KX := by
  refine bk_L_shout_0 X 1 a1 588 eNT e ewP h _ ?_
  rw [if_pos ck1]
  refine bk_X12_shout_0 X 1 a1 eNT e ewP h _ ?_
  rw [if_pos ck1]
  refine c_changed (o := 11) (by decide) l (fun x y hn hx h' f1 l' => ?_) (fun hn h' f1 l' => ?_)
  · rw [eBk_thr X (by decide)]
    refine eBk_h (t := 9) (k := 3) (by decide +kernel) ?_
    exact bk_L_shout_9 X 1 a1 588 _ eNT (e + 1) ewP h' _ (HR x y hn hx h' f1 l')
  · simp only [ck1, ck2, ck52, ck102, ck554, ck560, ck566, ck569, ck571, ck573, ck575, ck567, cp0, cp1, cp2, cp3, cp4, cp5, cp6, cp7, cp8, cp9, cy566, ite_true, true_and, and_true]
    obtain ⟨p1, p2, p3, p4, p5, p6⟩ := l'
    refine w_clear cl569 p5.2.2.2 (fun h2 f2 q2 => ?_)
    show if kn ewK eNT 588 = 23 ∧ 0 ≤ (0 : Int) ∧ 0 < (ewL 588 : Int) then _ else _
    rw [if_pos ⟨ok588, by decide, by rw [on588]; decide⟩]
    refine HD hn _ (fun z h1 h2 => by rw [up_ne h2, f2 z (by omega)]; exact f1 z h1) up_eq (CI_f (fun z hz => up_ne (by omega)) ⟨wR_f (fun z h3 h4 => f2 z (by omega)) p1, cH_f (fun z h3 h4 => f2 z (by omega)) p2, cV_f (by rw [f2 1 (by omega)]) (fun z h3 h4 => f2 z (by omega)) p3, cK_f (fun z h3 h4 => f2 z (by omega)) p4, ?_⟩)
    obtain ⟨q3, q4, q5, q6, q7, q8, q9⟩ := p6
    exact ⟨q2, by decide, lR_frm f2 (by omega) q4, lR_frm f2 (by omega) q5, lR_frm f2 (by omega) q6, by rw [f2 1 (by omega)]; exact q7, lCh_f (f2 _ (by omega)) q8, lCh_f (f2 _ (by omega)) q9.1, lCh_f (f2 _ (by omega)) q9.2⟩
theorem wl_wake (l : CI h w c U b r k1 k2 W I L f) {KI KX} (HD : ∀ h', (∀ z, 577 ≤ z → h' z = h z) → CI h' (dOrd 7 w 0 0 0 W) (pC c) (pU2 c U w) b r k1 k2 W I L f → KI (aOrd 7 w 0 0 0 W) eNT e ewP h') : eCi X m_X12_wake [vR 1] eNT e ewP h KI KX := by
  refine bk_X12_wake_0 X 1 eNT e ewP h _ ?_
  rw [if_pos ck1]
  refine c_changed (o := 7) (by decide) l (fun x y hn hx h' f1 l' => ?_) (fun hn h' f1 l' => HD h' f1 l')
  exact absurd (congrArg Prod.fst hn).symm hx
end
