/-! places, times and coins: what is true of rows alone -/
theorem sumF_snoc (f : Nat → Int) : ∀ n i, sumF f i (n + 1) = sumF f i n + f (i + n) := by
  intro n
  induction n with
  | zero => intro i; simp [sumF]
  | succ n ih =>
    intro i
    rw [sumF, ih (i + 1), sumF, show i + 1 + n = i + (n + 1) by omega]
    omega
theorem sumF_mono {f g : Nat → Int} : ∀ n i, (∀ t, i ≤ t → t < i + n → f t ≤ g t) → sumF f i n ≤ sumF g i n := by
  intro n
  induction n with
  | zero => intro i _; simp [sumF]
  | succ n ih =>
    intro i q
    have h1 := q i (Nat.le_refl _) (by omega)
    have h2 := ih (i + 1) (fun t a b => q t (by omega) (by omega))
    simp only [sumF]
    omega
theorem sumF_lt {f g : Nat → Int} {t0 : Nat} : ∀ n i, (∀ t, i ≤ t → t < i + n → f t ≤ g t) → i ≤ t0 → t0 < i + n → f t0 + 1 ≤ g t0 → sumF f i n + 1 ≤ sumF g i n := by
  intro n
  induction n with
  | zero => intro i _ h1 h2; omega
  | succ n ih =>
    intro i q h1 h2 h3
    simp only [sumF]
    by_cases e : t0 = i
    · subst e
      have h4 := sumF_mono n (t0 + 1) (fun t a b => q t (by omega) (by omega))
      omega
    · have h4 := q i (Nat.le_refl _) (by omega)
      have h5 := ih (i + 1) (fun t a b => q t (by omega) (by omega)) (by omega) (by omega) h3
      omega
theorem sumF_add {f g k : Nat → Int} : ∀ n i, (∀ t, i ≤ t → t < i + n → f t + g t = k t) → sumF f i n + sumF g i n = sumF k i n := by
  intro n
  induction n with
  | zero => intro i _; simp [sumF]
  | succ n ih =>
    intro i q
    have h1 := q i (Nat.le_refl _) (by omega)
    have h2 := ih (i + 1) (fun t a b => q t (by omega) (by omega))
    simp only [sumF]
    omega
theorem sumF_zero {f : Nat → Int} : ∀ n i, (∀ t, i ≤ t → t < i + n → f t = 0) → sumF f i n = 0 := by
  intro n
  induction n with
  | zero => intro i _; simp [sumF]
  | succ n ih =>
    intro i q
    have h1 := q i (Nat.le_refl _) (by omega)
    have h2 := ih (i + 1) (fun t a b => q t (by omega) (by omega))
    simp only [sumF]
    omega
theorem sumF_one {f : Nat → Int} {t0 : Nat} : ∀ n i, i ≤ t0 → t0 < i + n → (∀ t, i ≤ t → t < i + n → t ≠ t0 → f t = 0) → sumF f i n = f t0 := by
  intro n
  induction n with
  | zero => intro i h1 h2; omega
  | succ n ih =>
    intro i h1 h2 q
    simp only [sumF]
    by_cases e : t0 = i
    · subst e
      rw [sumF_zero n (t0 + 1) (fun t a b => q t (by omega) (by omega) (by omega))]
      omega
    · rw [q i (Nat.le_refl _) (by omega) (by omega), ih (i + 1) (by omega) (by omega) (fun t a b c => q t (by omega) (by omega) c)]
      omega
theorem sumF_swap {F : Nat → Nat → Int} {n : Nat} : ∀ m i, sumF (fun p => sumF (fun t => F p t) 0 n) i m = sumF (fun t => sumF (fun p => F p t) i m) 0 n := by
  intro m
  induction m with
  | zero => intro i; simp only [sumF]; rw [sumF_zero n 0 (fun _ _ _ => rfl)]
  | succ m ih =>
    intro i
    simp only [sumF]
    rw [ih (i + 1)]
    exact sumF_add n 0 (fun t _ _ => rfl)
theorem sAb01 {df : Nat → Int} {t s : Nat} : 0 ≤ sAb df t s ∧ sAb df t s ≤ 1 := by
  unfold sAb
  split <;> omega
/-- which of two lies higher -/
theorem sPl_lt {df : Nat → Int} {n t s : Nat} (ht : t < n) (hs : s < n) (q : df t < df s ∨ (df t = df s ∧ t < s)) : sPl df n t + 1 ≤ sPl df n s := by
  unfold sPl
  refine sumF_lt (t0 := t) n 0 (fun r _ _ => ?_) (Nat.zero_le _) (by omega) ?_
  · unfold sAb
    by_cases a : df r < df t ∨ (df r = df t ∧ r < t)
    · rw [if_pos a, if_pos (by omega)]; omega
    · rw [if_neg a]
      split <;> omega
  · unfold sAb
    rw [if_neg (by omega), if_pos q]
    omega
theorem sPl_inj {df : Nat → Int} {n t s : Nat} (ht : t < n) (hs : s < n) (q : sPl df n t = sPl df n s) : t = s := by
  rcases Nat.lt_trichotomy t s with a | a | a
  · rcases Int.lt_trichotomy (df t) (df s) with b | b | b
    · have := sPl_lt ht hs (Or.inl b); omega
    · have := sPl_lt ht hs (Or.inr ⟨b, a⟩); omega
    · have := sPl_lt hs ht (Or.inl b); omega
  · exact a
  · rcases Int.lt_trichotomy (df t) (df s) with b | b | b
    · have := sPl_lt ht hs (Or.inl b); omega
    · have := sPl_lt hs ht (Or.inr ⟨b.symm, a⟩); omega
    · have := sPl_lt hs ht (Or.inl b); omega
theorem sPl_rng {df : Nat → Int} {n t : Nat} (ht : t < n) : 0 ≤ sPl df n t ∧ sPl df n t < n := by
  have h1 := sumF_le (fun s => (sAb01 (df := df) (t := t) (s := s)).1) (fun s => sAb01.2) n 0
  have h2 : sPl df n t + 1 ≤ sumF (fun _ => 1) 0 n := by
    refine sumF_lt (t0 := t) n 0 (fun r _ _ => sAb01.2) (Nat.zero_le _) (by omega) ?_
    unfold sAb
    rw [if_neg (by omega)]
    omega
  have h3 := sumF_le (f := fun _ => 1) (M := 1) (fun s => by decide) (fun s => by decide) n 0
  exact ⟨h1.1, by omega⟩
theorem sPl_sur {df : Nat → Int} : ∀ (n p : Nat), p < n → ∃ t, t < n ∧ sPl df n t = (p : Int) := by
  intro n
  induction n with
  | zero => intro p hp; omega
  | succ n ih =>
    intro p hp
    have own : sPl df (n + 1) n = sumF (fun s => if df s ≤ df n then 1 else 0) 0 n := by
      unfold sPl
      rw [sumF_snoc]
      have h1 : sAb df n (0 + n) = 0 := by unfold sAb; rw [if_neg (by rw [Nat.zero_add]; omega)]
      rw [h1, Int.add_zero]
      refine sumF_congr n 0 (fun t _ ht => ?_)
      unfold sAb
      by_cases a : df t ≤ df n
      · rw [if_pos (by omega), if_pos a]
      · rw [if_neg (by omega), if_neg a]
    have oth : ∀ t, t < n → sPl df (n + 1) t = sPl df n t + (if df n < df t then 1 else 0) := by
      intro t ht
      unfold sPl
      rw [sumF_snoc, Nat.zero_add]
      congr 1
      unfold sAb
      by_cases a : df n < df t
      · rw [if_pos (Or.inl a), if_pos a]
      · rw [if_neg (by omega), if_neg a]
    have q01 := sumF_le (f := fun s => if df s ≤ df n then (1 : Int) else 0) (M := 1) (fun s => by split <;> omega) (fun s => by split <;> omega) n 0
    have c1 : ∀ t, t < n → df t ≤ df n → sPl df n t + 1 ≤ sPl df (n + 1) n := by
      intro t ht hd
      rw [own]
      unfold sPl
      refine sumF_lt (t0 := t) n 0 (fun r _ _ => ?_) (Nat.zero_le _) (by omega) ?_
      · unfold sAb
        by_cases a : df r ≤ df n
        · rw [if_pos a]; split <;> omega
        · rw [if_neg a, if_neg (by omega)]; omega
      · unfold sAb
        rw [if_neg (by omega), if_pos hd]
        omega
    have c2 : ∀ t, t < n → df n < df t → sPl df (n + 1) n ≤ sPl df n t := by
      intro t ht hd
      rw [own]
      unfold sPl
      refine sumF_mono n 0 (fun r _ _ => ?_)
      unfold sAb
      by_cases a : df r ≤ df n
      · rw [if_pos a, if_pos (by omega)]; omega
      · rw [if_neg a]; split <;> omega
    rcases Int.lt_trichotomy (p : Int) (sPl df (n + 1) n) with a | a | a
    · obtain ⟨t, h1, h2⟩ := ih p (by omega)
      refine ⟨t, by omega, ?_⟩
      have h3 : df t ≤ df n := by
        rcases Int.lt_or_le (df n) (df t) with b | b
        · have := c2 t h1 b; omega
        · exact b
      rw [oth t h1, if_neg (by omega), h2]
      omega
    · exact ⟨n, by omega, a.symm⟩
    · obtain ⟨t, h1, h2⟩ := ih (p - 1) (by omega)
      refine ⟨t, by omega, ?_⟩
      have h3 : df n < df t := by
        rcases Int.lt_or_le (df n) (df t) with b | b
        · exact b
        · have := c1 t h1 b; omega
      rw [oth t h1, if_pos h3, h2]
      omega
theorem fstF_spec (f : Nat → Prop) [DecidablePred f] : ∀ k i, (∃ t, i ≤ t ∧ t < i + k ∧ f t) → ∃ t, i ≤ t ∧ t < i + k ∧ f t ∧ fstF f i k = (t : Int) := by
  intro k
  induction k with
  | zero => rintro i ⟨t, h1, h2, -⟩; omega
  | succ k ih =>
    rintro i ⟨t, h1, h2, h3⟩
    by_cases q : f i
    · exact ⟨i, Nat.le_refl _, by omega, q, by simp only [fstF]; rw [if_pos q]⟩
    · have : t ≠ i := fun r => q (r ▸ h3)
      obtain ⟨s, a, b, c, d⟩ := ih (i + 1) ⟨t, by omega, by omega, h3⟩
      exact ⟨s, by omega, by omega, c, by simp only [fstF]; rw [if_neg q]; exact d⟩
/-- the thing at a place -/
theorem sAt_ok {df : Nat → Int} {n p : Nat} (hp : p < n) : ∃ t, t < n ∧ sPl df n t = (p : Int) ∧ sAt df n p = (t : Int) := by
  obtain ⟨t, h1, h2⟩ := sPl_sur (df := df) n p hp
  obtain ⟨s, a, b, c, d⟩ := fstF_spec (fun t => sPl df n t = (p : Int)) n 0 ⟨t, Nat.zero_le _, by omega, h2⟩
  exact ⟨s, by omega, c, d⟩
/-- a sum over places is a sum over things -/
theorem sum_at {df g : Nat → Int} {n : Nat} : sumF (fun p => g (sAt df n p).toNat) 0 n = sumF g 0 n := by
  have h1 : sumF (fun p => g (sAt df n p).toNat) 0 n = sumF (fun p => sumF (fun t => if sPl df n t = (p : Int) then g t else 0) 0 n) 0 n := by
    refine sumF_congr n 0 (fun p _ hp => ?_)
    obtain ⟨t, a, b, c⟩ := sAt_ok (df := df) (show p < n by omega)
    rw [c, Int.toNat_natCast]
    rw [sumF_one (t0 := t) n 0 (Nat.zero_le _) (by omega) (fun s _ hs hne => if_neg (fun r => hne (sPl_inj (by omega) a (by rw [r, b])))), if_pos b]
  rw [h1, sumF_swap]
  refine sumF_congr n 0 (fun t _ ht => ?_)
  have ht' : t < n := by omega
  obtain ⟨a, b⟩ := sPl_rng (df := df) ht'
  rw [sumF_one (t0 := (sPl df n t).toNat) n 0 (Nat.zero_le _) (by omega) (fun s _ hs hne => if_neg (fun r => hne (by rw [r]; exact (Int.toNat_natCast s).symm))), if_pos (by omega)]
theorem fAt_ok {f : Nat → Int} {n p : Nat} (hp : p < n) : ∃ t, t < n ∧ fPl f n t = (p : Int) ∧ fAt f n p = (t : Int) := sAt_ok hp
theorem fAt_ex {f : Nat → Int} {n : Nat} : ∀ p : Nat, p < n → ∃ t, t < n ∧ fAt f n p = ((t : Nat) : Int) := fun p hp => by
  obtain ⟨t, h1, -, h3⟩ := fAt_ok (f := f) hp
  exact ⟨t, h1, h3⟩
/-- the class's way to the uppermost coin that a rope reaches -/
def upF (f : Nat → Int) (len : Int) : Nat → Nat → Int → Int
  | _, 0, c => c
  | i, k + 1, c => upF f len (i + 1) k (if f (5 + 4 * i) = 0 ∧ f (6 + 4 * i) ≤ len ∧ (c = -1 ∨ f (6 + 4 * i) < f (6 + 4 * c.toNat)) then (i : Int) else c)
def isC (f : Nat → Int) (len : Int) (t : Nat) : Prop := f (5 + 4 * t) = 0 ∧ f (6 + 4 * t) ≤ len
theorem upF_spec {f : Nat → Int} {len : Int} : ∀ (k i : Nat) (c : Int), (c = -1 ∧ (∀ s, s < i → ¬ isC f len s) ∨ ∃ t, c = ((t : Nat) : Int) ∧ t < i ∧ isC f len t ∧ ∀ s, s < i → isC f len s → f (6 + 4 * t) < f (6 + 4 * s) ∨ (f (6 + 4 * t) = f (6 + 4 * s) ∧ t ≤ s)) → (upF f len i k c = -1 ∧ (∀ s, s < i + k → ¬ isC f len s) ∨ ∃ t, upF f len i k c = ((t : Nat) : Int) ∧ t < i + k ∧ isC f len t ∧ ∀ s, s < i + k → isC f len s → f (6 + 4 * t) < f (6 + 4 * s) ∨ (f (6 + 4 * t) = f (6 + 4 * s) ∧ t ≤ s)) := by
  intro k
  induction k with
  | zero => intro i c h; exact h
  | succ k ih =>
    intro i c h
    simp only [upF]
    rw [show i + (k + 1) = i + 1 + k by omega]
    refine ih (i + 1) _ ?_
    by_cases q : f (5 + 4 * i) = 0 ∧ f (6 + 4 * i) ≤ len ∧ (c = -1 ∨ f (6 + 4 * i) < f (6 + 4 * c.toNat))
    · rw [if_pos q]
      refine Or.inr ⟨i, rfl, by omega, ⟨q.1, q.2.1⟩, fun s hs hc => ?_⟩
      by_cases hsi : s = i
      · subst hsi; exact Or.inr ⟨rfl, Nat.le_refl _⟩
      · rcases h with h | ⟨t, h1, h2, h3, h4⟩
        · exact absurd hc (h.2 s (by omega))
        · have h5 := h4 s (by omega) hc
          rcases q.2.2 with q3 | q3
          · omega
          · rw [h1, Int.toNat_natCast] at q3
            omega
    · rw [if_neg q]
      rcases h with h | ⟨t, h1, h2, h3, h4⟩
      · refine Or.inl ⟨h.1, fun s hs hc => ?_⟩
        by_cases hsi : s = i
        · subst hsi; exact q ⟨hc.1, hc.2, Or.inl h.1⟩
        · exact h.2 s (by omega) hc
      · refine Or.inr ⟨t, h1, by omega, h3, fun s hs hc => ?_⟩
        by_cases hsi : s = i
        · subst hsi
          rw [h1, Int.toNat_natCast] at q
          have : ¬ f (6 + 4 * s) < f (6 + 4 * t) := fun r => q ⟨hc.1, hc.2, Or.inr r⟩
          omega
        · exact h4 s (by omega) hc
theorem rchF_spec {f : Nat → Int} {n : Nat} {len : Int} : ∀ (k p : Nat), p + k = n → (∀ s, s < n → f (5 + 4 * s) = 0 → (p : Int) ≤ fPl f n s) → (rchF f n len p k = -1 ∧ (∀ s, s < n → ¬ isC f len s) ∨ ∃ t, rchF f n len p k = ((t : Nat) : Int) ∧ t < n ∧ isC f len t ∧ ∀ s, s < n → isC f len s → f (6 + 4 * t) < f (6 + 4 * s) ∨ (f (6 + 4 * t) = f (6 + 4 * s) ∧ t ≤ s)) := by
  intro k
  induction k with
  | zero =>
    intro p hp h
    refine Or.inl ⟨rfl, fun s hs hc => ?_⟩
    have h1 := h s hs hc.1
    have h2 := (sPl_rng (df := fun t => f (6 + 4 * t)) hs).2
    unfold fPl at h1
    omega
  | succ k ih =>
    intro p hp h
    obtain ⟨t, h1, h2, h3⟩ := fAt_ok (f := f) (show p < n by omega)
    simp only [rchF, h3, Int.toNat_natCast]
    have mn : ∀ s, s < n → f (5 + 4 * s) = 0 → f (6 + 4 * t) < f (6 + 4 * s) ∨ (f (6 + 4 * t) = f (6 + 4 * s) ∧ t ≤ s) := by
      intro s hs hc
      have h4 := h s hs hc
      rw [← h2] at h4
      rcases Int.lt_trichotomy (f (6 + 4 * t)) (f (6 + 4 * s)) with b | b | b
      · exact Or.inl b
      · by_cases c : t ≤ s
        · exact Or.inr ⟨b, c⟩
        · have := sPl_lt (df := fun t => f (6 + 4 * t)) hs h1 (Or.inr ⟨b.symm, by omega⟩)
          unfold fPl at h4
          omega
      · have := sPl_lt (df := fun t => f (6 + 4 * t)) hs h1 (Or.inl b)
        unfold fPl at h4
        omega
    by_cases q : f (5 + 4 * t) = 0
    · rw [if_pos q]
      by_cases q2 : f (6 + 4 * t) ≤ len
      · rw [if_pos q2]
        exact Or.inr ⟨t, rfl, h1, ⟨q, q2⟩, fun s hs hc => mn s hs hc.1⟩
      · rw [if_neg q2]
        refine Or.inl ⟨rfl, fun s hs hc => ?_⟩
        have h5 := mn s hs hc.1
        have h6 := hc.2
        omega
    · rw [if_neg q]
      refine ih (p + 1) (by omega) (fun s hs hc => ?_)
      have h4 := h s hs hc
      have h5 : fPl f n s ≠ (p : Int) := by
        intro r
        have : s = t := sPl_inj (df := fun t => f (6 + 4 * t)) hs h1 (by unfold fPl at r h2; rw [r, h2])
        subst this
        exact q hc
      omega
theorem up_rch {f : Nat → Int} {n : Nat} {len : Int} : upF f len 0 n (-1) = rchF f n len 0 n := by
  have h1 := upF_spec (f := f) (len := len) n 0 (-1) (Or.inl ⟨rfl, fun s hs => absurd hs (Nat.not_lt_zero _)⟩)
  have h2 := rchF_spec (f := f) (len := len) (n := n) n 0 (by omega) (fun s hs _ => (sPl_rng (df := fun t => f (6 + 4 * t)) hs).1)
  rw [Nat.zero_add] at h1
  rcases h1 with ⟨a, b⟩ | ⟨t, a, b, c, d⟩
  · rcases h2 with ⟨a2, b2⟩ | ⟨t2, a2, b2, c2, d2⟩
    · rw [a, a2]
    · exact absurd c2 (b t2 b2)
  · rcases h2 with ⟨a2, b2⟩ | ⟨t2, a2, b2, c2, d2⟩
    · exact absurd c (b2 t b)
    · have h3 := d t2 b2 c2
      have h4 := d2 t b c
      rw [a, a2]
      omega
theorem rch_rng {f : Nat → Int} {n : Nat} {len : Int} : rchF f n len 0 n = -1 ∨ ∃ t, t < n ∧ rchF f n len 0 n = ((t : Nat) : Int) ∧ f (5 + 4 * t) = 0 := by
  have h2 := rchF_spec (f := f) (len := len) (n := n) n 0 (by omega) (fun s hs _ => (sPl_rng (df := fun t => f (6 + 4 * t)) hs).1)
  rcases h2 with ⟨a2, b2⟩ | ⟨t2, a2, b2, c2, d2⟩
  · exact Or.inl a2
  · exact Or.inr ⟨t2, b2, a2, c2.1⟩
/-! what becomes of a word in a well -/
def pD (f : Nat → Int) (t : Nat) (L : List Int) : List Int := if f (5 + 4 * t) = 0 then L.dropLast else if f (5 + 4 * t) = 2 then L.eraseP isV else if f (8 + 4 * t) = 1 then L ++ [f (7 + 4 * t)] else L
def pU (f : Nat → Int) (t : Nat) (L : List Int) : List Int := if f (5 + 4 * t) = 0 then L.dropLast else if f (5 + 4 * t) = 2 then L.eraseP isV else L
def gD (f : Nat → Int) (n : Nat) : Nat → Nat → List Int → List Int
  | _, 0, L => L
  | p, k + 1, L => gD f n (p + 1) k (pD f (fAt f n p).toNat L)
def gU (f : Nat → Int) (n : Nat) : Nat → List Int → List Int
  | 0, L => L
  | k + 1, L => gU f n k (pU f (fAt f n k).toNat L)
def trn (b : Int) (L : List Int) : List Int := if b = 1 then L.reverse else if b = 2 then L.filter (fun x => !isV x) else L
def eEc (f : Nat → Int) (n : Nat) (L : List Int) : List Int := gU f n n (trn (f 1) (gD f n 0 n L))
/-- frogs awake at the first places -/
def frP (f : Nat → Int) (n p : Nat) : Int := sumF (fun p => sFrg (fun t => f (5 + 4 * t)) (fun t => f (8 + 4 * t)) 1 (fAt f n p).toNat) 0 p
theorem frP_all {f : Nat → Int} {n : Nat} : frP f n n = fFrg f 1 n := sum_at
def msP (f : Nat → Int) (n p : Nat) : Int := sumF (fun p => sThk (fun t => f (5 + 4 * t)) (fun t => f (7 + 4 * t)) (fAt f n p).toNat) 0 p
theorem msP_all {f : Nat → Int} {n : Nat} : msP f n n = sumF (sThk (fun t => f (5 + 4 * t)) (fun t => f (7 + 4 * t))) 0 n := sum_at
theorem fTime_at {f : Nat → Int} {n : Nat} : fTime f n = 2 * f 0 + msP f n n + 3 * frP f n n + msP f n n := by
  rw [frP_all, msP_all]
  unfold fTime sTime fFrg
  omega
