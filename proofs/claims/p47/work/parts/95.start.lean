/-! the start: the constructors -/
/-- the cells a..b have got their pointers -/
def seg (a b : Nat) (p : Nat → Nat → Nat) : Nat → Nat → Nat := fun z => if a ≤ z ∧ z ≤ b then ewP z else p z
/-- nothing is written from cell a on -/
def hZ (a : Nat) (h : Nat → Nat → Int) : Prop := ∀ z, a ≤ z → h z = fun _ => 0
theorem zr_h {a z : Nat} {h : Nat → Nat → Int} (q : hZ a h) (hz : a ≤ z) : zr h z 0 = h := by
  funext y k
  unfold zr
  split
  · next e => rw [e, q z hz]
  · rfl
theorem upP_eq {p : Nat → Nat → Nat} {c k v : Nat} : up p c k v c k = v := by unfold up; rw [if_pos ⟨rfl, rfl⟩]
theorem upP_ne {p : Nat → Nat → Nat} {c k v z : Nat} (q : z ≠ c) : up p c k v z = p z := by funext j; unfold up; rw [if_neg (fun y => q y.1)]
theorem upP_nk {p : Nat → Nat → Nat} {c k v j : Nat} (q : j ≠ k) : up p c k v c j = p c j := by unfold up; rw [if_neg (fun y => q y.2)]
theorem kn_lt {n a k : Nat} (q : a ≤ n) (h : ewK a = k) : kn ewK n a = k := by unfold kn; rw [if_pos q, h]
theorem ewP_row (a k : Nat) : ((ptTbl.getD (a / 32) []).getD (a % 32) []).length ≤ k → ewP a k = 0 := by
  intro q
  unfold ewP
  rw [List.getD_eq_getElem?_getD, List.getElem?_eq_none q]; rfl
theorem pl_ok : ∀ a, a < 600 → ((ptTbl.getD (a / 32) []).getD (a % 32) []).length ≤ (if ewK a = 12 then 10 else if ewK a = 11 then 3 else if ewK a = 10 then 4 else if ewK a = 13 then 28 else if ewK a = 30 then 8 else if ewK a = 31 then 3 else if ewK a = 32 then 9 else if ewK a = 1 then 2 else if ewK a = 2 then 1 else if ewK a = 3 then 3 else if ewK a = 4 then 1 else if ewK a = 6 then 3 else if ewK a = 9 then 1 else 0) := by decide +kernel
section
variable {X : eX} {p : Nat → Nat → Nat} {h : Nat → Nat → Int}
theorem st_4 {a : Nat} (ha : ewK a = 4) (hb : ewK (a + 1) = 21) (hL : ewL (a + 1) = 60) (p0 : p a = fun _ => 0) (q : hZ a h) (h6 : a + 1 < 600) (pa : ewP a 0 = a + 1) (KV KX) : eCv X m_X4_init [vR a] a 0 p h KV KX = KV (a + 1) 0 (seg a (a + 1) p) h := by
  refine eCv_eq X (fun Q H => ?_) KV KX
  refine bk_X4_init_0 X a a 0 p h Q ?_
  have a0 : ¬ a = 0 := by intro z; subst z; exact absurd ha (by decide +kernel)
  have ka : kn ewK (a + 1) a = 4 := kn_lt (by omega) ha
  rw [if_neg a0, if_pos ⟨hb, by rw [hL]; rfl, rfl⟩, if_pos ⟨ka, Nat.le_refl _⟩, zr_h q (by omega)]
  have e1 : up (zr p (a + 1) 0) a 0 (a + 1) = seg a (a + 1) p := by
    funext z k
    unfold seg
    by_cases z1 : z = a
    · subst z1
      rw [if_pos ⟨by omega, by omega⟩]
      by_cases k0 : k = 0
      · subst k0; rw [upP_eq, pa]
      · rw [upP_nk k0]
        have := pl_ok z (by omega)
        rw [ewP_row z k (Nat.le_trans this (by rw [ha]; simp; omega))]
        unfold zr
        rw [if_neg (by omega), p0]
    · rw [upP_ne z1]
      unfold zr
      by_cases z2 : z = a + 1
      · rw [if_pos z2, if_pos ⟨by omega, by omega⟩]
        have := pl_ok z (by omega)
        rw [ewP_row z k (Nat.le_trans this (by rw [z2, hb]; simp))]
      · rw [if_neg z2, if_neg (by omega)]
  rw [e1]
  exact H
theorem st_10 {a : Nat} (ha : ewK a = 10) (q : hZ a h) (p0 : p a = fun _ => 0) (h6 : a + 4 < 600) (KV KX) : eCv X m_X10_init [vR a] a 0 p h KV KX = KV (a + 4) 0 (seg a (a + 4) p) h := by
  refine eCv_eq X (fun Q H => ?_) KV KX
  refine bk_X10_init_0 X a a 0 p h Q ?_
  have a0 : ¬ a = 0 := by intro z; subst z; exact absurd ha (by decide +kernel)
  obtain ⟨h1, h2, h3, h4, h5, h6', h7, h8, h9, h10, h11, h12⟩ := ly_10 a (ly_out a (by rw [ha]; decide)) ha
  have kk : ∀ j, a ≤ j → kn ewK j a = 10 := fun j hj => kn_lt hj ha
  rw [if_neg a0, if_pos ⟨h5, by rw [h9]; rfl, rfl⟩, if_pos ⟨kk _ (by omega), Nat.le_refl _⟩, if_pos ⟨h6', by rw [h10]; rfl, rfl⟩, if_pos ⟨kk _ (by omega), Nat.le_refl _⟩, if_pos ⟨h7, by rw [h11]; rfl, rfl⟩, if_pos ⟨kk _ (by omega), Nat.le_refl _⟩, if_pos ⟨h8, by rw [h12]; rfl, rfl⟩, if_pos ⟨kk _ (by omega), Nat.le_refl _⟩]
  rw [zr_h q (by omega), zr_h q (by omega), zr_h q (by omega), zr_h q (by omega)]
  have e1 : up (zr (up (zr (up (zr (up (zr p (a + 1) 0) a 0 (a + 1)) (a + 1 + 1) 0) a 1 (a + 1 + 1)) (a + 1 + 1 + 1) 0) a 2 (a + 1 + 1 + 1)) (a + 1 + 1 + 1 + 1) 0) a 3 (a + 1 + 1 + 1 + 1) = seg a (a + 4) p := by
    funext z k
    have r0 : 4 ≤ k → ewP a k = 0 := fun hk => ewP_row a k (Nat.le_trans (pl_ok a (by omega)) (by rw [ha]; simp; omega))
    have r1 : ewP (a + 1) k = 0 := ewP_row _ k (Nat.le_trans (pl_ok _ (by omega)) (by rw [h5]; simp))
    have r2 : ewP (a + 2) k = 0 := ewP_row _ k (Nat.le_trans (pl_ok _ (by omega)) (by rw [h6']; simp))
    have r3 : ewP (a + 3) k = 0 := ewP_row _ k (Nat.le_trans (pl_ok _ (by omega)) (by rw [h7]; simp))
    have r4 : ewP (a + 4) k = 0 := ewP_row _ k (Nat.le_trans (pl_ok _ (by omega)) (by rw [h8]; simp))
    unfold seg
    by_cases zi : a ≤ z ∧ z ≤ a + 4
    · rw [if_pos zi]
      have : z = a ∨ z = a + 1 ∨ z = a + 2 ∨ z = a + 3 ∨ z = a + 4 := by omega
      rcases this with rfl | rfl | rfl | rfl | rfl
      · have : k = 0 ∨ k = 1 ∨ k = 2 ∨ k = 3 ∨ 4 ≤ k := by omega
        rcases this with rfl | rfl | rfl | rfl | hk
        · rw [h1]; simp [up, zr] <;> (repeat' split) <;> omega
        · rw [h2]; simp [up, zr] <;> (repeat' split) <;> omega
        · rw [h3]; simp [up, zr] <;> (repeat' split) <;> omega
        · rw [h4]; simp [up, zr] <;> (repeat' split) <;> omega
        · rw [r0 hk]; simp [up, zr, p0, show k ≠ 0 by omega, show k ≠ 1 by omega, show k ≠ 2 by omega, show k ≠ 3 by omega]
      · rw [r1]; simp [up, zr]
      · rw [r2]; simp [up, zr]
      · rw [r3]; simp [up, zr]
      · rw [r4]; simp [up, zr]
    · rw [if_neg zi]
      simp only [up, zr]
      rw [if_neg (by omega), if_neg (by omega), if_neg (by omega), if_neg (by omega), if_neg (by omega), if_neg (by omega), if_neg (by omega), if_neg (by omega)]
  rw [e1]
  exact H
theorem st_7 {a : Nat} (a0 : a ≠ 0) (KV KX) : eCv X m_X7_init [vR a] a 0 p h KV KX = KV a 0 p h := by
  refine eCv_eq X (fun Q H => ?_) KV KX
  refine bk_X7_init_0 X a a 0 p h Q ?_
  rw [if_neg a0]
  exact H
theorem st_8 {a : Nat} (a0 : a ≠ 0) (KV KX) : eCv X m_X8_init [vR a] a 0 p h KV KX = KV a 0 p h := by
  refine eCv_eq X (fun Q H => ?_) KV KX
  refine bk_X8_init_0 X a a 0 p h Q ?_
  rw [if_neg a0]
  exact H
theorem seg_of {a b : Nat} {p p' : Nat → Nat → Nat} (q1 : ∀ z, a ≤ z → z ≤ b → p' z = ewP z) (q2 : ∀ z, (z < a ∨ b < z) → p' z = p z) : p' = seg a b p := by
  funext z
  unfold seg
  by_cases q : a ≤ z ∧ z ≤ b
  · rw [if_pos q]; exact q1 z q.1 q.2
  · rw [if_neg q]; exact q2 z (by omega)
theorem seg_in {a b z : Nat} {p : Nat → Nat → Nat} (q1 : a ≤ z) (q2 : z ≤ b) : seg a b p z = ewP z := by unfold seg; rw [if_pos ⟨q1, q2⟩]
theorem seg_out {a b z : Nat} {p : Nat → Nat → Nat} (q : z < a ∨ b < z) : seg a b p z = p z := by unfold seg; rw [if_neg (by omega)]
theorem zrP_eq {p : Nat → Nat → Nat} {a : Nat} : zr p a 0 a = fun _ => 0 := by funext k; unfold zr; rw [if_pos rfl]
theorem zrP_ne {p : Nat → Nat → Nat} {a z : Nat} (q : z ≠ a) : zr p a 0 z = p z := by funext k; unfold zr; rw [if_neg q]
/-- one pointer field, for a cell whose row has one -/
theorem row1 {a v : Nat} {g : Nat → Nat} (h6 : a < 600) (hr : ((ptTbl.getD (a / 32) []).getD (a % 32) []).length ≤ 1) (pa : ewP a 0 = v) (g0 : g 0 = v) (g1 : ∀ k, k ≠ 0 → g k = 0) : g = ewP a := by
  funext k
  by_cases q : k = 0
  · rw [q, g0, pa]
  · rw [g1 k q, ewP_row a k (by omega)]
theorem row0 {a : Nat} (h6 : a < 600) (hr : ((ptTbl.getD (a / 32) []).getD (a % 32) []).length ≤ 0) : (fun _ => 0) = ewP a := by
  funext k
  rw [ewP_row a k (by omega)]
theorem st_9 {a : Nat} (ha : ewK a = 9) (h1 : ewK (a + 1) = 4) (h2 : ewK (a + 2) = 21) (hL : ewL (a + 2) = 60) (q : hZ a h) (p0 : p a = fun _ => 0) (h6 : a + 2 < 600) (pa : ewP a 0 = a + 1) (pb : ewP (a + 1) 0 = a + 2) (KV KX) : eCv X m_X9_init [vR a] a 0 p h KV KX = KV (a + 2) 0 (seg a (a + 2) p) h := by
  refine eCv_eq X (fun Q H => ?_) KV KX
  refine bk_X9_init_0 X a a 0 p h Q ?_
  have a0 : ¬ a = 0 := by intro z; subst z; exact absurd ha (by decide +kernel)
  rw [if_neg a0, if_pos ⟨h1, rfl⟩, if_pos (kn_lt (Nat.le_refl _) h1), zr_h q (by omega), st_4 h1 h2 hL zrP_eq (fun z hz => q z (by omega)) (by omega) pb, if_pos ⟨kn_lt (by omega) ha, by omega⟩]
  have e1 : up (seg (a + 1) (a + 1 + 1) (zr p (a + 1) 0)) a 0 (a + 1) = seg a (a + 2) p := by
    refine seg_of (fun z z1 z2 => ?_) (fun z hz => ?_)
    · by_cases y : z = a
      · subst y
        refine row1 (by omega) (Nat.le_trans (pl_ok z (by omega)) (by rw [ha]; decide)) pa upP_eq (fun k hk => ?_)
        rw [upP_nk hk, seg_out (by omega), zrP_ne (by omega), p0]
      · rw [upP_ne y, seg_in (by omega) (by omega)]
    · rw [upP_ne (by omega), seg_out (by omega), zrP_ne (by omega)]
  rw [e1]
  exact H
theorem st_1 {a : Nat} (ha : ewK a = 1) (h0 : ewK (a + 1) = 20) (hl : ewL (a + 1) = 30) (h1 : ewK (a + 2) = 4) (h2 : ewK (a + 3) = 21) (hL : ewL (a + 3) = 60) (q : hZ a h) (p0 : p a = fun _ => 0) (h6 : a + 3 < 600) (pa : ewP a 0 = a + 1) (pc : ewP a 1 = a + 2) (pb : ewP (a + 2) 0 = a + 3) (KV KX) : eCv X m_X1_init [vR a] a 0 p h KV KX = KV (a + 3) 0 (seg a (a + 3) p) h := by
  refine eCv_eq X (fun Q H => ?_) KV KX
  refine bk_X1_init_0 X a a 0 p h Q ?_
  have a0 : ¬ a = 0 := by intro z; subst z; exact absurd ha (by decide +kernel)
  rw [if_neg a0, if_pos ⟨h0, by rw [hl]; rfl, rfl⟩, if_pos ⟨kn_lt (by omega) ha, Nat.le_refl _⟩, if_pos ⟨h1, rfl⟩, if_pos (kn_lt (Nat.le_refl _) h1), zr_h q (by omega), zr_h q (by omega), st_4 h1 h2 hL zrP_eq (fun z hz => q z (by omega)) (by omega) pb, if_pos ⟨kn_lt (by omega) ha, by omega⟩]
  have e1 : up (seg (a + 1 + 1) (a + 1 + 1 + 1) (zr (up (zr p (a + 1) 0) a 0 (a + 1)) (a + 1 + 1) 0)) a 1 (a + 1 + 1) = seg a (a + 3) p := by
    refine seg_of (fun z z1 z2 => ?_) (fun z hz => ?_)
    · by_cases y : z = a
      · subst y
        funext k
        by_cases k1 : k = 1
        · rw [k1, upP_eq, pc]
        · rw [upP_nk k1, seg_out (by omega), zrP_ne (by omega)]
          by_cases k0 : k = 0
          · rw [k0, upP_eq, pa]
          · rw [upP_nk k0, zrP_ne (by omega), p0]
            have := pl_ok z (by omega)
            rw [ewP_row z k (Nat.le_trans this (by rw [ha]; simp; omega))]
      · rw [upP_ne y]
        by_cases y1 : z = a + 1
        · rw [seg_out (by omega), zrP_ne (by omega), upP_ne (by omega), y1, zrP_eq]
          exact row0 (by omega) (Nat.le_trans (pl_ok (a + 1) (by omega)) (by rw [h0]; decide))
        · rw [seg_in (by omega) (by omega)]
    · rw [upP_ne (by omega), seg_out (by omega), zrP_ne (by omega), upP_ne (by omega), zrP_ne (by omega)]
  rw [e1]
  exact H
/-- a world in the making: i wells are there -/
def wP (b i : Nat) (p : Nat → Nat → Nat) : Nat → Nat → Nat := fun z => if z = b then (fun k => if k = 0 then b + 1 else 0) else if z = b + 1 then (fun k => if k < i then b + 2 + 5 * k else 0) else if b + 2 ≤ z ∧ z < b + 2 + 5 * i then ewP z else p z
theorem wP1 {b i j : Nat} {p : Nat → Nat → Nat} : wP b i p (b + 1) j = if j < i then b + 2 + 5 * j else 0 := by unfold wP; rw [if_neg (by omega), if_pos rfl]
theorem lp_11w {b : Nat} (hb : ewK b = 11) (q : hZ b h) (h6 : b < 577) (Q : eO → eM → Prop) (H : eP X m_X11_init 8 [vR b, vI 8] [] (b + 41, 0, wP b 8 p, h) Q) : ∀ (k i : Nat), i + k = 8 → eP X m_X11_init 8 [vR b, vI (i : Int)] [] (b + 1 + 5 * i, 0, wP b i p, h) Q := by
  obtain ⟨y1, y2, y3, y4, y5, y6, y7, y8⟩ := ly_11 b h6 hb
  intro k
  induction k with
  | zero =>
    intro i hi
    rw [show i = 8 by omega]
    exact H
  | succ k ih =>
    intro i hi
    obtain ⟨v1, v2⟩ := ly_11w b h6 hb i (by omega)
    have v3 := ly_out _ (show ewK (b + 2 + 5 * i + 4) ≠ 0 by rw [(ly_10 _ (ly_out _ (by rw [v2]; decide)) v2).2.2.2.2.2.2.2.1]; decide)
    refine bk_X11_init_8 X b i (b + 1 + 5 * i) 0 (wP b i p) h Q ?_
    have pb : wP b i p b 0 = b + 1 := by unfold wP; rw [if_pos rfl, if_pos rfl]
    rw [if_pos (kn_lt (by omega) hb), pb, kn_lt (n := b + 1 + 5 * i) (by omega) y4, if_pos (by decide), y5, if_pos (by omega), if_pos (kn_lt (by omega) hb)]
    rw [show b + 1 + 5 * i + 1 = b + 2 + 5 * i by omega, if_pos ⟨v2, rfl⟩, if_pos (kn_lt (Nat.le_refl _) v2), zr_h q (by omega), st_10 v2 (fun z hz => q z (by omega)) zrP_eq (by omega)]
    rw [if_pos ⟨kn_lt (by omega) y4, by omega, by omega, kn_lt (by omega) v2⟩, wi1 (by omega), Int.toNat_natCast]
    have e1 : up (seg (b + 2 + 5 * i) (b + 2 + 5 * i + 4) (zr (wP b i p) (b + 2 + 5 * i) 0)) (b + 1) i (b + 2 + 5 * i) = wP b (i + 1) p := by
      funext z j
      by_cases z1 : z = b + 1
      · subst z1
        by_cases j1 : j = i
        · rw [j1, upP_eq, wP1, if_pos (by omega)]
        · rw [upP_nk j1, seg_out (by omega), zrP_ne (by omega), wP1, wP1]
          by_cases j2 : j < i
          · rw [if_pos j2, if_pos (by omega)]
          · rw [if_neg j2, if_neg (by omega)]
      · rw [upP_ne z1]
        by_cases z2 : b + 2 + 5 * i ≤ z ∧ z ≤ b + 2 + 5 * i + 4
        · rw [seg_in z2.1 z2.2]
          unfold wP
          rw [if_neg (by omega), if_neg z1, if_pos ⟨by omega, by omega⟩]
        · rw [seg_out (by omega), zrP_ne (by omega)]
          unfold wP
          by_cases z3 : z = b
          · rw [if_pos z3, if_pos z3]
          · rw [if_neg z3, if_neg z1, if_neg z3, if_neg z1]
            by_cases z4 : b + 2 ≤ z ∧ z < b + 2 + 5 * i
            · rw [if_pos z4, if_pos ⟨by omega, by omega⟩]
            · rw [if_neg z4, if_neg (by omega)]
    rw [e1, show b + 2 + 5 * i + 4 = b + 1 + 5 * (i + 1) by omega]
    exact ih (i + 1) (by omega)
/-- a world in the making: i ropes are there -/
def rP (b i : Nat) (p : Nat → Nat → Nat) : Nat → Nat → Nat := fun z => if z = b then (fun k => if k = 0 then b + 1 else if k = 1 then b + 42 else 0) else if z = b + 42 then (fun k => if k < i then b + 43 + k else 0) else if b < z ∧ z < b + 43 + i then ewP z else p z
theorem rP1 {b i j : Nat} {p : Nat → Nat → Nat} : rP b i p (b + 42) j = if j < i then b + 43 + j else 0 := by unfold rP; rw [if_neg (by omega), if_pos rfl]
theorem rPm {b i z : Nat} {p : Nat → Nat → Nat} (q1 : b < z) (q2 : z < b + 42) : rP b i p z = ewP z := by unfold rP; rw [if_neg (by omega), if_neg (by omega), if_pos ⟨by omega, by omega⟩]
theorem lp_11r {b : Nat} (hb : ewK b = 11) (q : hZ b h) (h6 : b < 577) (Q : eO → eM → Prop) (H : eP X m_X11_init 28 [vR b, vI 3] [] (b + 45, 0, rP b 3 p, h) Q) : ∀ (k i : Nat), i + k = 3 → eP X m_X11_init 28 [vR b, vI (i : Int)] [] (b + 42 + i, 0, rP b i p, h) Q := by
  obtain ⟨y1, y2, y3, y4, y5, y6, y7, y8⟩ := ly_11 b h6 hb
  intro k
  induction k with
  | zero =>
    intro i hi
    rw [show i = 3 by omega]
    exact H
  | succ k ih =>
    intro i hi
    obtain ⟨v1, v2⟩ := ly_11r b h6 hb i (by omega)
    have v3 := ly_out _ (show ewK (b + 43 + i) ≠ 0 by rw [v2]; decide)
    refine bk_X11_init_28 X b i (b + 42 + i) 0 (rP b i p) h Q ?_
    have pb : rP b i p b 1 = b + 42 := by unfold rP; rw [if_pos rfl, if_neg (by decide), if_pos rfl]
    rw [if_pos (kn_lt (by omega) hb), pb, kn_lt (n := b + 42 + i) (by omega) y6, if_pos (by decide), y7, if_pos (by omega), if_pos (kn_lt (by omega) hb)]
    rw [show b + 42 + i + 1 = b + 43 + i by omega, if_pos ⟨v2, rfl⟩, if_pos (kn_lt (Nat.le_refl _) v2), zr_h q (by omega), st_8 (by omega)]
    rw [if_pos ⟨kn_lt (by omega) y6, by omega, by omega, kn_lt (by omega) v2⟩, wi1 (by omega), Int.toNat_natCast]
    have e1 : up (zr (rP b i p) (b + 43 + i) 0) (b + 42) i (b + 43 + i) = rP b (i + 1) p := by
      funext z j
      by_cases z1 : z = b + 42
      · subst z1
        by_cases j1 : j = i
        · rw [j1, upP_eq, rP1, if_pos (by omega)]
        · rw [upP_nk j1, zrP_ne (by omega), rP1, rP1]
          by_cases j2 : j < i
          · rw [if_pos j2, if_pos (by omega)]
          · rw [if_neg j2, if_neg (by omega)]
      · rw [upP_ne z1]
        by_cases z2 : z = b + 43 + i
        · rw [z2, zrP_eq]
          unfold rP
          rw [if_neg (by omega), if_neg (by omega), if_pos ⟨by omega, by omega⟩, ewP_row _ j (Nat.le_trans (pl_ok _ (by omega)) (by rw [v2]; simp))]
        · rw [zrP_ne z2]
          unfold rP
          by_cases z3 : z = b
          · rw [if_pos z3, if_pos z3]
          · rw [if_neg z3, if_neg z1, if_neg z3, if_neg z1]
            by_cases z4 : b < z ∧ z < b + 43 + i
            · rw [if_pos z4, if_pos ⟨by omega, by omega⟩]
            · rw [if_neg z4, if_neg (by omega)]
    rw [e1, show b + 43 + i = b + 42 + (i + 1) by omega]
    exact ih (i + 1) (by omega)
theorem st_11 {b : Nat} (hb : ewK b = 11) (q : hZ b h) (p0 : p b = fun _ => 0) (h6 : b < 577) (KV KX) : eCv X m_X11_init [vR b] b 0 p h KV KX = KV (b + 49) 0 (seg b (b + 49) p) h := by
  refine eCv_eq X (fun Q H => ?_) KV KX
  refine bk_X11_init_0 X b b 0 p h Q ?_
  obtain ⟨y1, y2, y3, y4, y5, y6, y7, y8⟩ := ly_11 b h6 hb
  have h46 := ly_out _ (show ewK (b + 46) ≠ 0 by rw [y8]; decide)
  obtain ⟨x1, x2, x3, x4, x5⟩ := ly_1 _ h46 y8
  have h48 := ly_out _ (show ewK (b + 46 + 2) ≠ 0 by rw [x5]; decide)
  obtain ⟨u1, u2, u3⟩ := ly_4 _ h48 x5
  have h49 := ly_out _ (show ewK (b + 46 + 2 + 1) ≠ 0 by rw [u2]; decide)
  have b0 : ¬ b = 0 := by intro z; subst z; exact absurd hb (by decide +kernel)
  rw [if_neg b0, if_pos ⟨y4, by rw [y5]; rfl, rfl⟩, if_pos ⟨kn_lt (by omega) hb, Nat.le_refl _⟩, zr_h q (by omega)]
  have e0 : up (zr p (b + 1) 0) b 0 (b + 1) = wP b 0 p := by
    funext z j
    by_cases z1 : z = b
    · subst z1
      unfold wP
      rw [if_pos rfl]
      by_cases j0 : j = 0
      · rw [j0, upP_eq, if_pos rfl]
      · rw [upP_nk j0, zrP_ne (by omega), p0, if_neg j0]
    · rw [upP_ne z1]
      by_cases z2 : z = b + 1
      · rw [z2, zrP_eq, wP1, if_neg (by omega)]
      · rw [zrP_ne z2]
        unfold wP
        rw [if_neg z1, if_neg z2, if_neg (by omega)]
  rw [e0]
  refine lp_11w hb q h6 Q ?_ 8 0 rfl
  refine bk_X11_init_8 X b 8 (b + 41) 0 (wP b 8 p) h Q ?_
  have pb : wP b 8 p b 0 = b + 1 := by unfold wP; rw [if_pos rfl, if_pos rfl]
  rw [if_pos (kn_lt (by omega) hb), pb, kn_lt (n := b + 41) (by omega) y4, if_pos (by decide), y5, if_neg (by decide), if_pos ⟨y6, by rw [y7]; rfl, rfl⟩, if_pos ⟨kn_lt (by omega) hb, Nat.le_refl _⟩, zr_h q (by omega)]
  have e1 : up (zr (wP b 8 p) (b + 41 + 1) 0) b 1 (b + 41 + 1) = rP b 0 p := by
    funext z j
    by_cases z1 : z = b
    · subst z1
      unfold rP
      rw [if_pos rfl]
      by_cases j1 : j = 1
      · rw [j1, upP_eq, if_neg (by decide), if_pos rfl]
      · rw [upP_nk j1, zrP_ne (by omega)]
        unfold wP
        rw [if_pos rfl]
        by_cases j0 : j = 0
        · rw [if_pos j0, if_pos j0]
        · rw [if_neg j0, if_neg j0, if_neg j1]
    · rw [upP_ne z1]
      by_cases z2 : z = b + 42
      · rw [z2, show b + 41 + 1 = b + 42 from rfl, zrP_eq, rP1, if_neg (by omega)]
      · rw [zrP_ne (by omega)]
        by_cases z3 : z = b + 1
        · rw [z3, wP1, rPm (by omega) (by omega)]
          by_cases j8 : j < 8
          · rw [if_pos j8, (ly_11w b h6 hb j j8).1]
          · rw [if_neg j8, ewP_row _ j (Nat.le_trans (pl_ok _ (by omega)) (by rw [y4]; simp; omega))]
        · unfold rP wP
          rw [if_neg z1, if_neg z3, if_neg z1, if_neg z2]
          by_cases z4 : b + 2 ≤ z ∧ z < b + 2 + 5 * 8
          · rw [if_pos z4, if_pos ⟨by omega, by omega⟩]
          · rw [if_neg z4, if_neg (by omega)]
  rw [e1]
  refine lp_11r hb q h6 Q ?_ 3 0 rfl
  refine bk_X11_init_28 X b 3 (b + 45) 0 (rP b 3 p) h Q ?_
  have pr : rP b 3 p b 1 = b + 42 := by unfold rP; rw [if_pos rfl, if_neg (by decide), if_pos rfl]
  rw [if_pos (kn_lt (by omega) hb), pr, kn_lt (n := b + 45) (by omega) y6, if_pos (by decide), y7, if_neg (by decide), if_pos ⟨y8, rfl⟩, if_pos (kn_lt (Nat.le_refl _) y8), zr_h q (by omega), show b + 45 + 1 = b + 46 from rfl, st_1 y8 x3 x4 x5 u2 u3 (fun z hz => q z (by omega)) zrP_eq (by omega) x1 x2 u1, if_pos ⟨kn_lt (by omega) hb, by omega⟩]
  have e2 : up (seg (b + 46) (b + 46 + 3) (zr (rP b 3 p) (b + 46) 0)) b 2 (b + 46) = seg b (b + 49) p := by
    refine seg_of (fun z z1 z2 => ?_) (fun z hz => ?_)
    · by_cases y : z = b
      · subst y
        funext k
        by_cases k2 : k = 2
        · rw [k2, upP_eq, y3]
        · rw [upP_nk k2, seg_out (by omega), zrP_ne (by omega)]
          unfold rP
          rw [if_pos rfl]
          by_cases k0 : k = 0
          · rw [if_pos k0, k0, y1]
          · rw [if_neg k0]
            by_cases k1 : k = 1
            · rw [if_pos k1, k1, y2]
            · rw [if_neg k1, ewP_row _ k (Nat.le_trans (pl_ok _ (by omega)) (by rw [hb]; simp; omega))]
      · rw [upP_ne y]
        by_cases z3 : b + 46 ≤ z
        · rw [seg_in z3 (by omega)]
        · rw [seg_out (by omega), zrP_ne (by omega)]
          by_cases z4 : z = b + 42
          · funext k
            rw [z4, rP1]
            by_cases k3 : k < 3
            · rw [if_pos k3, (ly_11r b h6 hb k k3).1]
            · rw [if_neg k3, ewP_row _ k (Nat.le_trans (pl_ok _ (by omega)) (by rw [y6]; simp; omega))]
          · unfold rP
            rw [if_neg y, if_neg z4, if_pos ⟨by omega, by omega⟩]
    · rw [upP_ne (by omega), seg_out (by omega), zrP_ne (by omega)]
      unfold rP
      rw [if_neg (by omega), if_neg (by omega), if_neg (by omega)]
  rw [e2]
  exact H
/-- the history in the making: i worlds are there -/
def hP (i : Nat) (p : Nat → Nat → Nat) : Nat → Nat → Nat := fun z => if z = 102 then (fun k => if k = 0 then 103 else 0) else if z = 103 then (fun k => if k < i then 104 + 50 * k else 0) else if 104 ≤ z ∧ z < 104 + 50 * i then ewP z else p z
theorem hP1 {i j : Nat} {p : Nat → Nat → Nat} : hP i p 103 j = if j < i then 104 + 50 * j else 0 := by unfold hP; rw [if_neg (by omega), if_pos rfl]
theorem hw_k : ∀ i, i < 9 → ewK (104 + 50 * i) = 11 ∧ ewP 103 i = 104 + 50 * i := by decide +kernel
theorem hy102 : ewK 102 = 2 ∧ ewK 103 = 32 ∧ ewL 103 = 9 ∧ ewP 102 0 = 103 := by decide +kernel
theorem lp_2 (q : hZ 102 h) (Q : eO → eM → Prop) (H : eP X m_X2_init 8 [vR 102, vI 9] [] (553, 0, hP 9 p, h) Q) : ∀ (k i : Nat), i + k = 9 → eP X m_X2_init 8 [vR 102, vI (i : Int)] [] (103 + 50 * i, 0, hP i p, h) Q := by
  obtain ⟨y1, y2, y3, y4⟩ := hy102
  intro k
  induction k with
  | zero =>
    intro i hi
    rw [show i = 9 by omega]
    exact H
  | succ k ih =>
    intro i hi
    obtain ⟨v2, v1⟩ := hw_k i (by omega)
    refine bk_X2_init_8 X 102 i (103 + 50 * i) 0 (hP i p) h Q ?_
    have pb : hP i p 102 0 = 103 := by unfold hP; rw [if_pos rfl, if_pos rfl]
    rw [if_pos (kn_lt (by omega) y1), pb, kn_lt (n := 103 + 50 * i) (by omega) y2, if_pos (by decide), y3, if_pos (by omega), if_pos (kn_lt (by omega) y1)]
    rw [show 103 + 50 * i + 1 = 104 + 50 * i by omega, if_pos ⟨v2, rfl⟩, if_pos (kn_lt (Nat.le_refl _) v2), zr_h q (by omega), st_11 v2 (fun z hz => q z (by omega)) zrP_eq (by omega)]
    rw [if_pos ⟨kn_lt (by omega) y2, by omega, by omega, kn_lt (by omega) v2⟩, wi1 (by omega), Int.toNat_natCast]
    have e1 : up (seg (104 + 50 * i) (104 + 50 * i + 49) (zr (hP i p) (104 + 50 * i) 0)) 103 i (104 + 50 * i) = hP (i + 1) p := by
      funext z j
      by_cases z1 : z = 103
      · subst z1
        by_cases j1 : j = i
        · rw [j1, upP_eq, hP1, if_pos (by omega)]
        · rw [upP_nk j1, seg_out (by omega), zrP_ne (by omega), hP1, hP1]
          by_cases j2 : j < i
          · rw [if_pos j2, if_pos (by omega)]
          · rw [if_neg j2, if_neg (by omega)]
      · rw [upP_ne z1]
        by_cases z2 : 104 + 50 * i ≤ z ∧ z ≤ 104 + 50 * i + 49
        · rw [seg_in z2.1 z2.2]
          unfold hP
          rw [if_neg (by omega), if_neg z1, if_pos ⟨by omega, by omega⟩]
        · rw [seg_out (by omega), zrP_ne (by omega)]
          unfold hP
          by_cases z3 : z = 102
          · rw [if_pos z3, if_pos z3]
          · rw [if_neg z3, if_neg z1, if_neg z3, if_neg z1]
            by_cases z4 : 104 ≤ z ∧ z < 104 + 50 * i
            · rw [if_pos z4, if_pos ⟨by omega, by omega⟩]
            · rw [if_neg z4, if_neg (by omega)]
    rw [e1, show 104 + 50 * i + 49 = 103 + 50 * (i + 1) by omega]
    exact ih (i + 1) (by omega)
theorem st_2 (q : hZ 102 h) (p0 : p 102 = fun _ => 0) (KV KX) : eCv X m_X2_init [vR 102] 102 0 p h KV KX = KV 553 0 (seg 102 553 p) h := by
  refine eCv_eq X (fun Q H => ?_) KV KX
  refine bk_X2_init_0 X 102 102 0 p h Q ?_
  obtain ⟨y1, y2, y3, y4⟩ := hy102
  rw [if_neg (by decide), if_pos ⟨y2, by rw [y3]; rfl, rfl⟩, if_pos ⟨kn_lt (by omega) y1, Nat.le_refl _⟩, zr_h q (by omega)]
  have e0 : up (zr p (102 + 1) 0) 102 0 (102 + 1) = hP 0 p := by
    funext z j
    by_cases z1 : z = 102
    · subst z1
      unfold hP
      rw [if_pos rfl]
      by_cases j0 : j = 0
      · rw [j0, upP_eq, if_pos rfl]
      · rw [upP_nk j0, zrP_ne (by omega), p0, if_neg j0]
    · rw [upP_ne z1]
      by_cases z2 : z = 103
      · rw [z2, show 102 + 1 = 103 from rfl, zrP_eq, hP1, if_neg (by omega)]
      · rw [zrP_ne z2]
        unfold hP
        rw [if_neg z1, if_neg z2, if_neg (by omega)]
  rw [e0]
  refine lp_2 q Q ?_ 9 0 rfl
  refine bk_X2_init_8 X 102 9 553 0 (hP 9 p) h Q ?_
  have pb : hP 9 p 102 0 = 103 := by unfold hP; rw [if_pos rfl, if_pos rfl]
  rw [if_pos (kn_lt (by omega) y1), pb, kn_lt (n := 553) (by omega) y2, if_pos (by decide), y3, if_neg (by decide)]
  have e2 : hP 9 p = seg 102 553 p := by
    refine seg_of (fun z z1 z2 => ?_) (fun z hz => ?_)
    · by_cases y : z = 102
      · subst y
        funext k
        unfold hP
        rw [if_pos rfl]
        by_cases k0 : k = 0
        · rw [if_pos k0, k0, y4]
        · rw [if_neg k0, ewP_row _ k (Nat.le_trans (pl_ok _ (by omega)) (by rw [y1]; simp; omega))]
      · by_cases z4 : z = 103
        · funext k
          rw [z4, hP1]
          by_cases k3 : k < 9
          · rw [if_pos k3, (hw_k k k3).2]
          · rw [if_neg k3, ewP_row _ k (Nat.le_trans (pl_ok _ (by omega)) (by rw [y2]; simp; omega))]
        · unfold hP
          rw [if_neg y, if_neg z4, if_pos ⟨by omega, by omega⟩]
    · unfold hP
      rw [if_neg (by omega), if_neg (by omega), if_neg (by omega)]
  rw [e2]
  exact H
end
