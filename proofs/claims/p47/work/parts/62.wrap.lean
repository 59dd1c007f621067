/-! the law's own methods that call one of the class's -/
abbrev jT1 : Int := -4000000000000000001
abbrev jT2 : Int := -4000000000000000002
/-- the class's state, but for what nobody asks here: the reasons, the line told, the fault's place -/
def LI (h : Nat → Nat → Int) (w : Nat → Int) (c : Nat) (U : Nat → Nat → Int) (b : Bool) (r : Nat → Int) (W I : List Int) : Prop := ∃ k1 k2 L f, CI h w c U b r k1 k2 W I L f
def gJ (g : Int × Int) : Int := if g.1 = 0 then g.2 else if g.1 = 1 then jT1 else jT2
theorem gJ_0 {g : Int × Int} (q : g.1 = 0) : gJ g = g.2 := if_pos q
theorem gJ_1 {g : Int × Int} (q0 : ¬ g.1 = 0) (q : g.1 = 1) : gJ g = jT1 := by unfold gJ; rw [if_neg q0, if_pos q]
theorem gJ_2 {g : Int × Int} (q0 : ¬ g.1 = 0) (q : ¬ g.1 = 1) : gJ g = jT2 := by unfold gJ; rw [if_neg q0, if_neg q]
section
variable {X : eX} {e : Nat} {h : Nat → Nat → Int} {w : Nat → Int} {c : Nat} {U : Nat → Nat → Int} {b : Bool} {r : Nat → Int} {k1 k2 : Int × Int} {W I L : List Int} {f : Int}
theorem j_dig {a1 a2 : Int} (l : LI h w c U b r W I) {KJ KX} (HR : (nOrd 0 w a1 a2 0 W.length).1 ≠ 0 → ∀ h', LI h' w c U b r W I → KJ jT1 eNT (e + 1) ewP h') (HD : nOrd 0 w a1 a2 0 W.length = (0, 0) → ∀ h', LI h' (dOrd 0 w a1 a2 0 W) (pC c) (pU2 c U w) b r W I → KJ (aOrd 0 w a1 a2 0 W) eNT e ewP h') : eCj X m_L_dig [vR 1, vI a1, vI a2] eNT e ewP h KJ KX := by
  obtain ⟨k1, k2, L, f, l⟩ := l
  refine bk_L_dig_0 X 1 a1 a2 eNT e ewP h _ ?_
  rw [if_pos ck1]
  refine bk_X12_dig_0 X 1 a1 a2 eNT e ewP h _ ?_
  rw [if_pos ck1]
  refine c_changed (o := 0) (by decide) l (fun x y hn hx h' f1 l' => ?_) (fun hn h' f1 l' => ?_)
  · rw [eBk_thr X (by decide)]
    refine eBk_h (t := 7) (k := 3) (by decide +kernel) ?_
    exact bk_L_dig_7 X 1 a1 a2 _ eNT (e + 1) ewP h' _ (HR (by rw [hn]; exact hx) h' ⟨_, _, _, _, l'⟩)
  · exact HD hn _ ⟨_, _, _, _, l'⟩
theorem j_deepen {a1 a2 : Int} (l : LI h w c U b r W I) {KJ KX} (HR : (nOrd 1 w a1 a2 0 W.length).1 ≠ 0 → ∀ h', LI h' w c U b r W I → KJ jT1 eNT (e + 1) ewP h') (HD : nOrd 1 w a1 a2 0 W.length = (0, 0) → ∀ h', LI h' (dOrd 1 w a1 a2 0 W) (pC c) (pU2 c U w) b r W I → KJ (aOrd 1 w a1 a2 0 W) eNT e ewP h') : eCj X m_L_deepen [vR 1, vI a1, vI a2] eNT e ewP h KJ KX := by
  obtain ⟨k1, k2, L, f, l⟩ := l
  refine bk_L_deepen_0 X 1 a1 a2 eNT e ewP h _ ?_
  rw [if_pos ck1]
  refine bk_X12_deepen_0 X 1 a1 a2 eNT e ewP h _ ?_
  rw [if_pos ck1]
  refine c_changed (o := 1) (by decide) l (fun x y hn hx h' f1 l' => ?_) (fun hn h' f1 l' => ?_)
  · rw [eBk_thr X (by decide)]
    refine eBk_h (t := 7) (k := 3) (by decide +kernel) ?_
    exact bk_L_deepen_7 X 1 a1 a2 _ eNT (e + 1) ewP h' _ (HR (by rw [hn]; exact hx) h' ⟨_, _, _, _, l'⟩)
  · exact HD hn _ ⟨_, _, _, _, l'⟩
theorem j_fill {a1 : Int} (l : LI h w c U b r W I) {KJ KX} (HR : (nOrd 2 w a1 0 0 W.length).1 ≠ 0 → ∀ h', LI h' w c U b r W I → KJ jT1 eNT (e + 1) ewP h') (HD : nOrd 2 w a1 0 0 W.length = (0, 0) → ∀ h', LI h' (dOrd 2 w a1 0 0 W) (pC c) (pU2 c U w) b r W I → KJ (aOrd 2 w a1 0 0 W) eNT e ewP h') : eCj X m_L_fill [vR 1, vI a1] eNT e ewP h KJ KX := by
  obtain ⟨k1, k2, L, f, l⟩ := l
  refine bk_L_fill_0 X 1 a1 eNT e ewP h _ ?_
  rw [if_pos ck1]
  refine bk_X12_fill_0 X 1 a1 eNT e ewP h _ ?_
  rw [if_pos ck1]
  refine c_changed (o := 2) (by decide) l (fun x y hn hx h' f1 l' => ?_) (fun hn h' f1 l' => ?_)
  · rw [eBk_thr X (by decide)]
    refine eBk_h (t := 6) (k := 2) (by decide +kernel) ?_
    exact bk_L_fill_6 X 1 a1 _ eNT (e + 1) ewP h' _ (HR (by rw [hn]; exact hx) h' ⟨_, _, _, _, l'⟩)
  · exact HD hn _ ⟨_, _, _, _, l'⟩
theorem j_coin {a1 a2 a3 : Int} (l : LI h w c U b r W I) {KJ KX} (HR : (nOrd 3 w a1 a2 a3 W.length).1 ≠ 0 → ∀ h', LI h' w c U b r W I → KJ jT1 eNT (e + 1) ewP h') (HD : nOrd 3 w a1 a2 a3 W.length = (0, 0) → ∀ h', LI h' (dOrd 3 w a1 a2 a3 W) (pC c) (pU2 c U w) b r W I → KJ (aOrd 3 w a1 a2 a3 W) eNT e ewP h') : eCj X m_L_coin [vR 1, vI a1, vI a2, vI a3] eNT e ewP h KJ KX := by
  obtain ⟨k1, k2, L, f, l⟩ := l
  refine bk_L_coin_0 X 1 a1 a2 a3 eNT e ewP h _ ?_
  rw [if_pos ck1]
  refine bk_X12_coin_0 X 1 a1 a2 a3 eNT e ewP h _ ?_
  rw [if_pos ck1]
  refine c_changed (o := 3) (by decide) l (fun x y hn hx h' f1 l' => ?_) (fun hn h' f1 l' => ?_)
  · rw [eBk_thr X (by decide)]
    refine eBk_h (t := 8) (k := 4) (by decide +kernel) ?_
    exact bk_L_coin_8 X 1 a1 a2 a3 _ eNT (e + 1) ewP h' _ (HR (by rw [hn]; exact hx) h' ⟨_, _, _, _, l'⟩)
  · exact HD hn _ ⟨_, _, _, _, l'⟩
theorem j_frog {a1 a2 a3 : Int} (l : LI h w c U b r W I) {KJ KX} (HR : (nOrd 4 w a1 a2 a3 W.length).1 ≠ 0 → ∀ h', LI h' w c U b r W I → KJ jT1 eNT (e + 1) ewP h') (HD : nOrd 4 w a1 a2 a3 W.length = (0, 0) → ∀ h', LI h' (dOrd 4 w a1 a2 a3 W) (pC c) (pU2 c U w) b r W I → KJ (aOrd 4 w a1 a2 a3 W) eNT e ewP h') : eCj X m_L_frog [vR 1, vI a1, vI a2, vI a3] eNT e ewP h KJ KX := by
  obtain ⟨k1, k2, L, f, l⟩ := l
  refine bk_L_frog_0 X 1 a1 a2 a3 eNT e ewP h _ ?_
  rw [if_pos ck1]
  refine bk_X12_frog_0 X 1 a1 a2 a3 eNT e ewP h _ ?_
  rw [if_pos ck1]
  refine c_changed (o := 4) (by decide) l (fun x y hn hx h' f1 l' => ?_) (fun hn h' f1 l' => ?_)
  · rw [eBk_thr X (by decide)]
    refine eBk_h (t := 8) (k := 4) (by decide +kernel) ?_
    exact bk_L_frog_8 X 1 a1 a2 a3 _ eNT (e + 1) ewP h' _ (HR (by rw [hn]; exact hx) h' ⟨_, _, _, _, l'⟩)
  · exact HD hn _ ⟨_, _, _, _, l'⟩
theorem j_moss {a1 a2 a3 : Int} (l : LI h w c U b r W I) {KJ KX} (HR : (nOrd 5 w a1 a2 a3 W.length).1 ≠ 0 → ∀ h', LI h' w c U b r W I → KJ jT1 eNT (e + 1) ewP h') (HD : nOrd 5 w a1 a2 a3 W.length = (0, 0) → ∀ h', LI h' (dOrd 5 w a1 a2 a3 W) (pC c) (pU2 c U w) b r W I → KJ (aOrd 5 w a1 a2 a3 W) eNT e ewP h') : eCj X m_L_moss [vR 1, vI a1, vI a2, vI a3] eNT e ewP h KJ KX := by
  obtain ⟨k1, k2, L, f, l⟩ := l
  refine bk_L_moss_0 X 1 a1 a2 a3 eNT e ewP h _ ?_
  rw [if_pos ck1]
  refine bk_X12_moss_0 X 1 a1 a2 a3 eNT e ewP h _ ?_
  rw [if_pos ck1]
  refine c_changed (o := 5) (by decide) l (fun x y hn hx h' f1 l' => ?_) (fun hn h' f1 l' => ?_)
  · rw [eBk_thr X (by decide)]
    refine eBk_h (t := 8) (k := 4) (by decide +kernel) ?_
    exact bk_L_moss_8 X 1 a1 a2 a3 _ eNT (e + 1) ewP h' _ (HR (by rw [hn]; exact hx) h' ⟨_, _, _, _, l'⟩)
  · exact HD hn _ ⟨_, _, _, _, l'⟩
theorem j_take {a1 a2 : Int} (l : LI h w c U b r W I) {KJ KX} (HR : (nOrd 6 w a1 a2 0 W.length).1 ≠ 0 → ∀ h', LI h' w c U b r W I → KJ jT1 eNT (e + 1) ewP h') (HD : nOrd 6 w a1 a2 0 W.length = (0, 0) → ∀ h', LI h' (dOrd 6 w a1 a2 0 W) (pC c) (pU2 c U w) b r W I → KJ (aOrd 6 w a1 a2 0 W) eNT e ewP h') : eCj X m_L_take [vR 1, vI a1, vI a2] eNT e ewP h KJ KX := by
  obtain ⟨k1, k2, L, f, l⟩ := l
  refine bk_L_take_0 X 1 a1 a2 eNT e ewP h _ ?_
  rw [if_pos ck1]
  refine bk_X12_take_0 X 1 a1 a2 eNT e ewP h _ ?_
  rw [if_pos ck1]
  refine c_changed (o := 6) (by decide) l (fun x y hn hx h' f1 l' => ?_) (fun hn h' f1 l' => ?_)
  · rw [eBk_thr X (by decide)]
    refine eBk_h (t := 7) (k := 3) (by decide +kernel) ?_
    exact bk_L_take_7 X 1 a1 a2 _ eNT (e + 1) ewP h' _ (HR (by rw [hn]; exact hx) h' ⟨_, _, _, _, l'⟩)
  · exact HD hn _ ⟨_, _, _, _, l'⟩
theorem j_rope {a1 : Int} (l : LI h w c U b r W I) {KJ KX} (HR : (nOrd 8 w a1 0 0 W.length).1 ≠ 0 → ∀ h', LI h' w c U b r W I → KJ jT1 eNT (e + 1) ewP h') (HD : nOrd 8 w a1 0 0 W.length = (0, 0) → ∀ h', LI h' (dOrd 8 w a1 0 0 W) (pC c) (pU2 c U w) b r W I → KJ (aOrd 8 w a1 0 0 W) eNT e ewP h') : eCj X m_L_rope [vR 1, vI a1] eNT e ewP h KJ KX := by
  obtain ⟨k1, k2, L, f, l⟩ := l
  refine bk_L_rope_0 X 1 a1 eNT e ewP h _ ?_
  rw [if_pos ck1]
  refine bk_X12_rope_0 X 1 a1 eNT e ewP h _ ?_
  rw [if_pos ck1]
  refine c_changed (o := 8) (by decide) l (fun x y hn hx h' f1 l' => ?_) (fun hn h' f1 l' => ?_)
  · rw [eBk_thr X (by decide)]
    refine eBk_h (t := 6) (k := 2) (by decide +kernel) ?_
    exact bk_L_rope_6 X 1 a1 _ eNT (e + 1) ewP h' _ (HR (by rw [hn]; exact hx) h' ⟨_, _, _, _, l'⟩)
  · exact HD hn _ ⟨_, _, _, _, l'⟩
theorem j_bind {a1 a2 : Int} (l : LI h w c U b r W I) {KJ KX} (HR : (nOrd 9 w a1 a2 0 W.length).1 ≠ 0 → ∀ h', LI h' w c U b r W I → KJ jT1 eNT (e + 1) ewP h') (HD : nOrd 9 w a1 a2 0 W.length = (0, 0) → ∀ h', LI h' (dOrd 9 w a1 a2 0 W) (pC c) (pU2 c U w) b r W I → KJ (aOrd 9 w a1 a2 0 W) eNT e ewP h') : eCj X m_L_bind [vR 1, vI a1, vI a2] eNT e ewP h KJ KX := by
  obtain ⟨k1, k2, L, f, l⟩ := l
  refine bk_L_bind_0 X 1 a1 a2 eNT e ewP h _ ?_
  rw [if_pos ck1]
  refine bk_X12_bind_0 X 1 a1 a2 eNT e ewP h _ ?_
  rw [if_pos ck1]
  refine c_changed (o := 9) (by decide) l (fun x y hn hx h' f1 l' => ?_) (fun hn h' f1 l' => ?_)
  · rw [eBk_thr X (by decide)]
    refine eBk_h (t := 7) (k := 3) (by decide +kernel) ?_
    exact bk_L_bind_7 X 1 a1 a2 _ eNT (e + 1) ewP h' _ (HR (by rw [hn]; exact hx) h' ⟨_, _, _, _, l'⟩)
  · exact HD hn _ ⟨_, _, _, _, l'⟩
theorem j_fish {a1 : Int} (l : LI h w c U b r W I) {KJ KX} (HR : (nOrd 10 w a1 0 0 W.length).1 ≠ 0 → ∀ h', LI h' w c U b r W I → KJ jT1 eNT (e + 1) ewP h') (HD : nOrd 10 w a1 0 0 W.length = (0, 0) → ∀ h', LI h' (dOrd 10 w a1 0 0 W) (pC c) (pU2 c U w) b r W I → KJ (aOrd 10 w a1 0 0 W) eNT e ewP h') : eCj X m_L_fish [vR 1, vI a1] eNT e ewP h KJ KX := by
  obtain ⟨k1, k2, L, f, l⟩ := l
  refine bk_L_fish_0 X 1 a1 eNT e ewP h _ ?_
  rw [if_pos ck1]
  refine bk_X12_fish_0 X 1 a1 eNT e ewP h _ ?_
  rw [if_pos ck1]
  refine c_changed (o := 10) (by decide) l (fun x y hn hx h' f1 l' => ?_) (fun hn h' f1 l' => ?_)
  · rw [eBk_thr X (by decide)]
    refine eBk_h (t := 6) (k := 2) (by decide +kernel) ?_
    exact bk_L_fish_6 X 1 a1 _ eNT (e + 1) ewP h' _ (HR (by rw [hn]; exact hx) h' ⟨_, _, _, _, l'⟩)
  · exact HD hn _ ⟨_, _, _, _, l'⟩
theorem j_shout {a1 : Int} (l : LI h w c U b r W I) {KJ KX} (HR : (nOrd 11 w a1 0 0 W.length).1 ≠ 0 → ∀ h', LI h' w c U b r W I → KJ jT1 eNT (e + 1) ewP h') (HD : nOrd 11 w a1 0 0 W.length = (0, 0) → ∀ h', LI h' (dOrd 11 w a1 0 0 W) (pC c) (pU2 c U w) b r [] I → KJ (aOrd 11 w a1 0 0 W) eNT e ewP h') : eCj X m_L_shout [vR 1, vI a1] eNT e ewP h KJ KX := by
  obtain ⟨k1, k2, L, f, l⟩ := l
  refine bk_L_shout_0 X 1 a1 eNT e ewP h _ ?_
  rw [if_pos ck1]
  refine bk_X12_shout_0 X 1 a1 eNT e ewP h _ ?_
  rw [if_pos ck1]
  refine c_changed (o := 11) (by decide) l (fun x y hn hx h' f1 l' => ?_) (fun hn h' f1 l' => ?_)
  · rw [eBk_thr X (by decide)]
    refine eBk_h (t := 6) (k := 2) (by decide +kernel) ?_
    exact bk_L_shout_6 X 1 a1 _ eNT (e + 1) ewP h' _ (HR (by rw [hn]; exact hx) h' ⟨_, _, _, _, l'⟩)
  · simp only [ck1, ck2, ck52, ck102, ck554, ck560, ck566, ck569, ck571, ck573, ck575, ck567, cp0, cp1, cp2, cp3, cp4, cp5, cp6, cp7, cp8, cp9, cy566, ite_true, true_and, and_true]
    obtain ⟨p1, p2, p3, p4, p5, p6⟩ := l'
    refine w_clear cl569 p5.2.2.2 (fun h2 f2 q2 => ?_)
    refine HD hn _ ⟨k1, k2, L, f, wR_f (fun z h3 h4 => f2 z (by omega)) p1, cH_f (fun z h3 h4 => f2 z (by omega)) p2, cV_f (by rw [f2 1 (by omega)]) (fun z h3 h4 => f2 z (by omega)) p3, cK_f (fun z h3 h4 => f2 z (by omega)) p4, ?_⟩
    obtain ⟨q3, q4, q5, q6, q7, q8, q9⟩ := p6
    exact ⟨q2, by decide, lR_frm f2 (by omega) q4, lR_frm f2 (by omega) q5, lR_frm f2 (by omega) q6, by rw [f2 1 (by omega)]; exact q7, lCh_f (f2 _ (by omega)) q8, lCh_f (f2 _ (by omega)) q9.1, lCh_f (f2 _ (by omega)) q9.2⟩
theorem j_wellOf {x y : Int} (l : LI h w c U b r W I) {KJ KX} (H : ∀ h' e', e ≤ e' → e' ≤ e + 1 → LI h' w c U b r W I → KJ (gJ (gW w x y)) eNT e' ewP h') : eCj X m_L_wellOf [vR 1, vI x, vI y] eNT e ewP h KJ KX := by
  obtain ⟨k1, k2, L, f, l⟩ := l
  refine bk_L_wellOf_0 X 1 x y eNT e ewP h _ ?_
  rw [if_pos ck1]
  refine cg_wellOf l.1 ?_
  unfold gC
  by_cases g0 : (gW w x y).1 = 0
  · rw [if_pos g0]
    have H1 := H h e (Nat.le_refl _) (Nat.le_succ _) ⟨_, _, _, _, l⟩
    rw [gJ_0 g0] at H1
    exact H1
  rw [if_neg g0]
  by_cases g1 : (gW w x y).1 = 1
  · rw [if_pos g1]
    have H1 := H h (e + 1) (Nat.le_succ _) (Nat.le_refl _) ⟨_, _, _, _, l⟩
    rw [gJ_1 g0 g1] at H1
    refine eBk_h (t := 7) (k := 3) (by decide +kernel) ?_
    exact bk_L_wellOf_7 X 1 x y _ eNT (e + 1) ewP h _ H1
  · rw [if_neg g1]
    have H1 := H h (e + 1) (Nat.le_succ _) (Nat.le_refl _) ⟨_, _, _, _, l⟩
    rw [gJ_2 g0 g1] at H1
    refine eBk_h (t := 10) (k := 3) (by decide +kernel) ?_
    exact bk_L_wellOf_10 X 1 x y _ eNT (e + 1) ewP h _ H1
theorem j_thingOf {x t y : Int} (l : LI h w c U b r W I) {KJ KX} (H : ∀ h' e', e ≤ e' → e' ≤ e + 1 → LI h' w c U b r W I → KJ (gJ (gT w x t y)) eNT e' ewP h') : eCj X m_L_thingOf [vR 1, vI x, vI t, vI y] eNT e ewP h KJ KX := by
  obtain ⟨k1, k2, L, f, l⟩ := l
  refine bk_L_thingOf_0 X 1 x t y eNT e ewP h _ ?_
  rw [if_pos ck1]
  refine cg_thingOf l.1 ?_
  unfold gC
  by_cases g0 : (gT w x t y).1 = 0
  · rw [if_pos g0]
    have H1 := H h e (Nat.le_refl _) (Nat.le_succ _) ⟨_, _, _, _, l⟩
    rw [gJ_0 g0] at H1
    exact H1
  rw [if_neg g0]
  by_cases g1 : (gT w x t y).1 = 1
  · rw [if_pos g1]
    have H1 := H h (e + 1) (Nat.le_succ _) (Nat.le_refl _) ⟨_, _, _, _, l⟩
    rw [gJ_1 g0 g1] at H1
    refine eBk_h (t := 8) (k := 4) (by decide +kernel) ?_
    exact bk_L_thingOf_8 X 1 x t y _ eNT (e + 1) ewP h _ H1
  · rw [if_neg g1]
    have H1 := H h (e + 1) (Nat.le_succ _) (Nat.le_refl _) ⟨_, _, _, _, l⟩
    rw [gJ_2 g0 g1] at H1
    refine eBk_h (t := 11) (k := 4) (by decide +kernel) ?_
    exact bk_L_thingOf_11 X 1 x t y _ eNT (e + 1) ewP h _ H1
theorem j_ropeOf {x y : Int} (l : LI h w c U b r W I) {KJ KX} (H : ∀ h' e', e ≤ e' → e' ≤ e + 1 → LI h' w c U b r W I → KJ (gJ (gR w x y)) eNT e' ewP h') : eCj X m_L_ropeOf [vR 1, vI x, vI y] eNT e ewP h KJ KX := by
  obtain ⟨k1, k2, L, f, l⟩ := l
  refine bk_L_ropeOf_0 X 1 x y eNT e ewP h _ ?_
  rw [if_pos ck1]
  refine cg_ropeOf l.1 ?_
  unfold gC
  by_cases g0 : (gR w x y).1 = 0
  · rw [if_pos g0]
    have H1 := H h e (Nat.le_refl _) (Nat.le_succ _) ⟨_, _, _, _, l⟩
    rw [gJ_0 g0] at H1
    exact H1
  rw [if_neg g0]
  by_cases g1 : (gR w x y).1 = 1
  · rw [if_pos g1]
    have H1 := H h (e + 1) (Nat.le_succ _) (Nat.le_refl _) ⟨_, _, _, _, l⟩
    rw [gJ_1 g0 g1] at H1
    refine eBk_h (t := 7) (k := 3) (by decide +kernel) ?_
    exact bk_L_ropeOf_7 X 1 x y _ eNT (e + 1) ewP h _ H1
  · rw [if_neg g1]
    have H1 := H h (e + 1) (Nat.le_succ _) (Nat.le_refl _) ⟨_, _, _, _, l⟩
    rw [gJ_2 g0 g1] at H1
    refine eBk_h (t := 10) (k := 3) (by decide +kernel) ?_
    exact bk_L_ropeOf_10 X 1 x y _ eNT (e + 1) ewP h _ H1
theorem j_bookOf {x y : Int} (l : LI h w c U b r W I) {KJ KX} (H : ∀ h' e', e ≤ e' → e' ≤ e + 1 → LI h' w c U b r W I → KJ (gJ (gB w x y)) eNT e' ewP h') : eCj X m_L_bookOf [vR 1, vI x, vI y] eNT e ewP h KJ KX := by
  obtain ⟨k1, k2, L, f, l⟩ := l
  refine bk_L_bookOf_0 X 1 x y eNT e ewP h _ ?_
  rw [if_pos ck1]
  refine cg_bookOf l.1 ?_
  unfold gC
  by_cases g0 : (gB w x y).1 = 0
  · rw [if_pos g0]
    have H1 := H h e (Nat.le_refl _) (Nat.le_succ _) ⟨_, _, _, _, l⟩
    rw [gJ_0 g0] at H1
    exact H1
  rw [if_neg g0]
  by_cases g1 : (gB w x y).1 = 1
  · rw [if_pos g1]
    have H1 := H h (e + 1) (Nat.le_succ _) (Nat.le_refl _) ⟨_, _, _, _, l⟩
    rw [gJ_1 g0 g1] at H1
    refine eBk_h (t := 7) (k := 3) (by decide +kernel) ?_
    exact bk_L_bookOf_7 X 1 x y _ eNT (e + 1) ewP h _ H1
  · rw [if_neg g1]
    have H1 := H h (e + 1) (Nat.le_succ _) (Nat.le_refl _) ⟨_, _, _, _, l⟩
    rw [gJ_2 g0 g1] at H1
    refine eBk_h (t := 10) (k := 3) (by decide +kernel) ?_
    exact bk_L_bookOf_10 X 1 x y _ eNT (e + 1) ewP h _ H1
theorem j_timeAgain {x : Int} (l : LI h w c U b r W I) {KJ KX} (H : ∀ h' e', e ≤ e' → e' ≤ e + 1 → LI h' w c U b r W I → KJ (gJ (gTi w x)) eNT e' ewP h') : eCj X m_L_timeAgain [vR 1, vI x] eNT e ewP h KJ KX := by
  obtain ⟨k1, k2, L, f, l⟩ := l
  refine bk_L_timeAgain_0 X 1 x eNT e ewP h _ ?_
  rw [if_pos ck1]
  refine cg_timeAgain l.1 ?_
  have g01 : (gTi w x).1 = 0 ∨ (gTi w x).1 = 1 := by
    unfold gTi
    repeat' split
    all_goals first | exact Or.inl rfl | exact Or.inr rfl | (exfalso; omega)
  unfold gC
  by_cases g0 : (gTi w x).1 = 0
  · rw [if_pos g0]
    have H1 := H h e (Nat.le_refl _) (Nat.le_succ _) ⟨_, _, _, _, l⟩
    rw [gJ_0 g0] at H1
    exact H1
  rw [if_neg g0]
  by_cases g1 : (gTi w x).1 = 1
  · rw [if_pos g1]
    have H1 := H h (e + 1) (Nat.le_succ _) (Nat.le_refl _) ⟨_, _, _, _, l⟩
    rw [gJ_1 g0 g1] at H1
    refine eBk_h (t := 6) (k := 2) (by decide +kernel) ?_
    exact bk_L_timeAgain_6 X 1 x _ eNT (e + 1) ewP h _ H1
  · exact absurd (g01.resolve_left g0) g1
theorem j_echoLength {x : Int} (l : LI h w c U b r W I) {KJ KX} (H : ∀ h' e', e ≤ e' → e' ≤ e + 1 → LI h' w c U b r W I → KJ (gJ (gEL w W x)) eNT e' ewP h') : eCj X m_L_echoLength [vR 1, vI x] eNT e ewP h KJ KX := by
  obtain ⟨k1, k2, L, f, l⟩ := l
  refine bk_L_echoLength_0 X 1 x eNT e ewP h _ ?_
  rw [if_pos ck1]
  refine cg_echoLength l (fun h' _ l' => ?_)
  unfold gC
  by_cases g0 : (gEL w W x).1 = 0
  · rw [if_pos g0]
    have H1 := H h' e (Nat.le_refl _) (Nat.le_succ _) ⟨_, _, _, _, l'⟩
    rw [gJ_0 g0] at H1
    exact H1
  rw [if_neg g0]
  by_cases g1 : (gEL w W x).1 = 1
  · rw [if_pos g1]
    have H1 := H h' (e + 1) (Nat.le_succ _) (Nat.le_refl _) ⟨_, _, _, _, l'⟩
    rw [gJ_1 g0 g1] at H1
    refine eBk_h (t := 6) (k := 2) (by decide +kernel) ?_
    exact bk_L_echoLength_6 X 1 x _ eNT (e + 1) ewP h' _ H1
  · rw [if_neg g1]
    have H1 := H h' (e + 1) (Nat.le_succ _) (Nat.le_refl _) ⟨_, _, _, _, l'⟩
    rw [gJ_2 g0 g1] at H1
    refine eBk_h (t := 9) (k := 2) (by decide +kernel) ?_
    exact bk_L_echoLength_9 X 1 x _ eNT (e + 1) ewP h' _ H1
theorem j_echoLetter {x y : Int} (l : LI h w c U b r W I) {KJ KX} (H : ∀ h' e', e ≤ e' → e' ≤ e + 1 → LI h' w c U b r W I → KJ (gJ (gEC w W x y)) eNT e' ewP h') : eCj X m_L_echoLetter [vR 1, vI x, vI y] eNT e ewP h KJ KX := by
  obtain ⟨k1, k2, L, f, l⟩ := l
  refine bk_L_echoLetter_0 X 1 x y eNT e ewP h _ ?_
  rw [if_pos ck1]
  refine cg_echoLetter l (fun h' _ l' => ?_)
  unfold gC
  by_cases g0 : (gEC w W x y).1 = 0
  · rw [if_pos g0]
    have H1 := H h' e (Nat.le_refl _) (Nat.le_succ _) ⟨_, _, _, _, l'⟩
    rw [gJ_0 g0] at H1
    exact H1
  rw [if_neg g0]
  by_cases g1 : (gEC w W x y).1 = 1
  · rw [if_pos g1]
    have H1 := H h' (e + 1) (Nat.le_succ _) (Nat.le_refl _) ⟨_, _, _, _, l'⟩
    rw [gJ_1 g0 g1] at H1
    refine eBk_h (t := 7) (k := 3) (by decide +kernel) ?_
    exact bk_L_echoLetter_7 X 1 x y _ eNT (e + 1) ewP h' _ H1
  · rw [if_neg g1]
    have H1 := H h' (e + 1) (Nat.le_succ _) (Nat.le_refl _) ⟨_, _, _, _, l'⟩
    rw [gJ_2 g0 g1] at H1
    refine eBk_h (t := 10) (k := 3) (by decide +kernel) ?_
    exact bk_L_echoLetter_10 X 1 x y _ eNT (e + 1) ewP h' _ H1
theorem j_losses {x : Int} (l : LI h w c U b r W I) {KJ KX} (H : ∀ h' e', e ≤ e' → e' ≤ e + 1 → LI h' w c U b r W I → KJ (gJ (gLo w W x)) eNT e' ewP h') : eCj X m_L_losses [vR 1, vI x] eNT e ewP h KJ KX := by
  obtain ⟨k1, k2, L, f, l⟩ := l
  refine bk_L_losses_0 X 1 x eNT e ewP h _ ?_
  rw [if_pos ck1]
  refine cg_losses l (fun h' _ l' => ?_)
  unfold gC
  by_cases g0 : (gLo w W x).1 = 0
  · rw [if_pos g0]
    have H1 := H h' e (Nat.le_refl _) (Nat.le_succ _) ⟨_, _, _, _, l'⟩
    rw [gJ_0 g0] at H1
    exact H1
  rw [if_neg g0]
  by_cases g1 : (gLo w W x).1 = 1
  · rw [if_pos g1]
    have H1 := H h' (e + 1) (Nat.le_succ _) (Nat.le_refl _) ⟨_, _, _, _, l'⟩
    rw [gJ_1 g0 g1] at H1
    refine eBk_h (t := 6) (k := 2) (by decide +kernel) ?_
    exact bk_L_losses_6 X 1 x _ eNT (e + 1) ewP h' _ H1
  · rw [if_neg g1]
    have H1 := H h' (e + 1) (Nat.le_succ _) (Nat.le_refl _) ⟨_, _, _, _, l'⟩
    rw [gJ_2 g0 g1] at H1
    refine eBk_h (t := 9) (k := 2) (by decide +kernel) ?_
    exact bk_L_losses_9 X 1 x _ eNT (e + 1) ewP h' _ H1
theorem j_wouldGrade {x : Int} (l : LI h w c U b r W I) {KJ KX} (H : ∀ h' e', e ≤ e' → e' ≤ e + 1 → LI h' w c U b r W I → KJ (gJ (gWG w W x)) eNT e' ewP h') : eCj X m_L_wouldGrade [vR 1, vI x] eNT e ewP h KJ KX := by
  obtain ⟨k1, k2, L, f, l⟩ := l
  refine bk_L_wouldGrade_0 X 1 x eNT e ewP h _ ?_
  rw [if_pos ck1]
  refine cg_wouldGrade l (fun h' _ l' => ?_)
  unfold gC
  by_cases g0 : (gWG w W x).1 = 0
  · rw [if_pos g0]
    have H1 := H h' e (Nat.le_refl _) (Nat.le_succ _) ⟨_, _, _, _, l'⟩
    rw [gJ_0 g0] at H1
    exact H1
  rw [if_neg g0]
  by_cases g1 : (gWG w W x).1 = 1
  · rw [if_pos g1]
    have H1 := H h' (e + 1) (Nat.le_succ _) (Nat.le_refl _) ⟨_, _, _, _, l'⟩
    rw [gJ_1 g0 g1] at H1
    refine eBk_h (t := 6) (k := 2) (by decide +kernel) ?_
    exact bk_L_wouldGrade_6 X 1 x _ eNT (e + 1) ewP h' _ H1
  · rw [if_neg g1]
    have H1 := H h' (e + 1) (Nat.le_succ _) (Nat.le_refl _) ⟨_, _, _, _, l'⟩
    rw [gJ_2 g0 g1] at H1
    refine eBk_h (t := 9) (k := 2) (by decide +kernel) ?_
    exact bk_L_wouldGrade_9 X 1 x _ eNT (e + 1) ewP h' _ H1
theorem j_time {x : Int} (l : LI h w c U b r W I) {KJ KX} (H : ∀ h' e', e ≤ e' → e' ≤ e + 1 → LI h' w c U b r W I → KJ (gJ (gTi w x)) eNT e' ewP h') : eCj X m_L_time [vR 1, vI x] eNT e ewP h KJ KX := by
  obtain ⟨k1, k2, L, f, l⟩ := l
  refine bk_L_time_0 X 1 x eNT e ewP h _ ?_
  rw [if_pos ck1]
  refine cg_time l (fun h' _ l' => ?_)
  have g01 : (gTi w x).1 = 0 ∨ (gTi w x).1 = 1 := by
    unfold gTi
    repeat' split
    all_goals first | exact Or.inl rfl | exact Or.inr rfl | (exfalso; omega)
  unfold gC
  by_cases g0 : (gTi w x).1 = 0
  · rw [if_pos g0]
    have H1 := H h' e (Nat.le_refl _) (Nat.le_succ _) ⟨_, _, _, _, l'⟩
    rw [gJ_0 g0] at H1
    exact H1
  rw [if_neg g0]
  by_cases g1 : (gTi w x).1 = 1
  · rw [if_pos g1]
    have H1 := H h' (e + 1) (Nat.le_succ _) (Nat.le_refl _) ⟨_, _, _, _, l'⟩
    rw [gJ_1 g0 g1] at H1
    refine eBk_h (t := 6) (k := 2) (by decide +kernel) ?_
    exact bk_L_time_6 X 1 x _ eNT (e + 1) ewP h' _ H1
  · exact absurd (g01.resolve_left g0) g1
theorem j_reach {x : Int} (l : LI h w c U b r W I) {KJ KX} (H : ∀ h' e', e ≤ e' → e' ≤ e + 1 → LI h' w c U b r W I → KJ (gJ (gRe w x)) eNT e' ewP h') : eCj X m_L_reach [vR 1, vI x] eNT e ewP h KJ KX := by
  obtain ⟨k1, k2, L, f, l⟩ := l
  refine bk_L_reach_0 X 1 x eNT e ewP h _ ?_
  rw [if_pos ck1]
  refine cg_reach l (fun h' _ l' => ?_)
  unfold gC
  by_cases g0 : (gRe w x).1 = 0
  · rw [if_pos g0]
    have H1 := H h' e (Nat.le_refl _) (Nat.le_succ _) ⟨_, _, _, _, l'⟩
    rw [gJ_0 g0] at H1
    exact H1
  rw [if_neg g0]
  by_cases g1 : (gRe w x).1 = 1
  · rw [if_pos g1]
    have H1 := H h' (e + 1) (Nat.le_succ _) (Nat.le_refl _) ⟨_, _, _, _, l'⟩
    rw [gJ_1 g0 g1] at H1
    refine eBk_h (t := 6) (k := 2) (by decide +kernel) ?_
    exact bk_L_reach_6 X 1 x _ eNT (e + 1) ewP h' _ H1
  · rw [if_neg g1]
    have H1 := H h' (e + 1) (Nat.le_succ _) (Nat.le_refl _) ⟨_, _, _, _, l'⟩
    rw [gJ_2 g0 g1] at H1
    refine eBk_h (t := 9) (k := 2) (by decide +kernel) ?_
    exact bk_L_reach_9 X 1 x _ eNT (e + 1) ewP h' _ H1
theorem j_account {x : Int} (l : LI h w c U b r W I) (hx : 0 ≤ x ∧ x ≤ 13) {KJ KX} (H : ∀ h' e', e ≤ e' → e' ≤ e + 1 → LI h' w c U b r W I → KJ (gJ (gAc w W I c x)) eNT e' ewP h') : eCj X m_L_account [vR 1, vI x] eNT e ewP h KJ KX := by
  obtain ⟨k1, k2, L, f, l⟩ := l
  refine bk_L_account_0 X 1 x eNT e ewP h _ ?_
  rw [if_pos ck1]
  refine cg_account l (fun h' _ l' => ?_)
  have g01 : (gAc w W I c x).1 = 0 ∨ (gAc w W I c x).1 = 1 := by
    have h14 : x = 0 ∨ x = 1 ∨ x = 2 ∨ x = 3 ∨ x = 4 ∨ x = 5 ∨ x = 6 ∨ x = 7 ∨ x = 8 ∨ x = 9 ∨ x = 10 ∨ x = 11 ∨ x = 12 ∨ x = 13 := by omega
    rcases h14 with rfl | rfl | rfl | rfl | rfl | rfl | rfl | rfl | rfl | rfl | rfl | rfl | rfl | rfl <;> exact Or.inl rfl
  unfold gC
  by_cases g0 : (gAc w W I c x).1 = 0
  · rw [if_pos g0]
    have H1 := H h' e (Nat.le_refl _) (Nat.le_succ _) ⟨_, _, _, _, l'⟩
    rw [gJ_0 g0] at H1
    exact H1
  rw [if_neg g0]
  by_cases g1 : (gAc w W I c x).1 = 1
  · rw [if_pos g1]
    have H1 := H h' (e + 1) (Nat.le_succ _) (Nat.le_refl _) ⟨_, _, _, _, l'⟩
    rw [gJ_1 g0 g1] at H1
    refine eBk_h (t := 6) (k := 2) (by decide +kernel) ?_
    exact bk_L_account_6 X 1 x _ eNT (e + 1) ewP h' _ H1
  · exact absurd (g01.resolve_left g0) g1
theorem j_bestWell (l : LI h w c U b r W I) {KJ KX} (H : ∀ h' e', e ≤ e' → e' ≤ e + 1 → LI h' w c U b r W I → KJ (gJ (gBW w W)) eNT e' ewP h') : eCj X m_L_bestWell [vR 1] eNT e ewP h KJ KX := by
  obtain ⟨k1, k2, L, f, l⟩ := l
  refine bk_L_bestWell_0 X 1  eNT e ewP h _ ?_
  rw [if_pos ck1]
  refine cg_bestWell l (fun h' _ l' => ?_)
  have g01 : (gBW w W).1 = 0 ∨ (gBW w W).1 = 1 := by
    unfold gBW
    repeat' split
    all_goals first | exact Or.inl rfl | exact Or.inr rfl | (exfalso; omega)
  unfold gC
  by_cases g0 : (gBW w W).1 = 0
  · rw [if_pos g0]
    have H1 := H h' e (Nat.le_refl _) (Nat.le_succ _) ⟨_, _, _, _, l'⟩
    rw [gJ_0 g0] at H1
    exact H1
  rw [if_neg g0]
  by_cases g1 : (gBW w W).1 = 1
  · rw [if_pos g1]
    have H1 := H h' (e + 1) (Nat.le_succ _) (Nat.le_refl _) ⟨_, _, _, _, l'⟩
    rw [gJ_1 g0 g1] at H1
    refine eBk_h (t := 5) (k := 1) (by decide +kernel) ?_
    exact bk_L_bestWell_5 X 1  _ eNT (e + 1) ewP h' _ H1
  · exact absurd (g01.resolve_left g0) g1
theorem j_ranked {y x : Int} (l : LI h w c U b r W I) {KJ KX} (H : ∀ h' e', e ≤ e' → e' ≤ e + 1 → LI h' w c U b r W I → KJ (gJ (gRk w y x)) eNT e' ewP h') : eCj X m_L_ranked [vR 1, vI y, vI x] eNT e ewP h KJ KX := by
  obtain ⟨k1, k2, L, f, l⟩ := l
  refine bk_L_ranked_0 X 1 y x eNT e ewP h _ ?_
  rw [if_pos ck1]
  refine cg_ranked l (fun h' _ l' => ?_)
  unfold gC
  by_cases g0 : (gRk w y x).1 = 0
  · rw [if_pos g0]
    have H1 := H h' e (Nat.le_refl _) (Nat.le_succ _) ⟨_, _, _, _, l'⟩
    rw [gJ_0 g0] at H1
    exact H1
  rw [if_neg g0]
  by_cases g1 : (gRk w y x).1 = 1
  · rw [if_pos g1]
    have H1 := H h' (e + 1) (Nat.le_succ _) (Nat.le_refl _) ⟨_, _, _, _, l'⟩
    rw [gJ_1 g0 g1] at H1
    refine eBk_h (t := 7) (k := 3) (by decide +kernel) ?_
    exact bk_L_ranked_7 X 1 y x _ eNT (e + 1) ewP h' _ H1
  · rw [if_neg g1]
    have H1 := H h' (e + 1) (Nat.le_succ _) (Nat.le_refl _) ⟨_, _, _, _, l'⟩
    rw [gJ_2 g0 g1] at H1
    refine eBk_h (t := 10) (k := 3) (by decide +kernel) ?_
    exact bk_L_ranked_10 X 1 y x _ eNT (e + 1) ewP h' _ H1
theorem j_isLater {x y : Int} (l : LI h w c U b r W I) {KJ KX} (H : ∀ h' e', e ≤ e' → e' ≤ e + 1 → LI h' w c U b r W I → KJ (gJ (gIL w x y)) eNT e' ewP h') : eCj X m_L_isLater [vR 1, vI x, vI y] eNT e ewP h KJ KX := by
  obtain ⟨k1, k2, L, f, l⟩ := l
  refine bk_L_isLater_0 X 1 x y eNT e ewP h _ ?_
  rw [if_pos ck1]
  refine cg_isLater l (fun h' _ l' => ?_)
  have g01 : (gIL w x y).1 = 0 ∨ (gIL w x y).1 = 1 := by
    unfold gIL
    repeat' split
    all_goals first | exact Or.inl rfl | exact Or.inr rfl | (exfalso; omega)
  unfold gC
  by_cases g0 : (gIL w x y).1 = 0
  · rw [if_pos g0]
    have H1 := H h' e (Nat.le_refl _) (Nat.le_succ _) ⟨_, _, _, _, l'⟩
    rw [gJ_0 g0] at H1
    have gv : (gIL w x y).2 = 0 ∨ (gIL w x y).2 = 1 := by
      unfold gIL
      repeat' split
      all_goals first | exact Or.inl rfl | exact Or.inr rfl
    rcases gv with gv | gv
    · rw [gv] at H1 ⊢; exact H1
    · rw [gv] at H1 ⊢; exact H1
  rw [if_neg g0]
  by_cases g1 : (gIL w x y).1 = 1
  · rw [if_pos g1]
    have H1 := H h' (e + 1) (Nat.le_succ _) (Nat.le_refl _) ⟨_, _, _, _, l'⟩
    rw [gJ_1 g0 g1] at H1
    refine eBk_h (t := 10) (k := 3) (by decide +kernel) ?_
    exact bk_L_isLater_10 X 1 x y _ eNT (e + 1) ewP h' _ H1
  · exact absurd (g01.resolve_left g0) g1
end
