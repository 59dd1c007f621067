/-! an act: refused, or one change -/
theorem rch_c {f : Nat → Int} {n : Nat} {len : Int} : rchF f n len 0 n = -1 ∨ ∃ t : Nat, rchF f n len 0 n = ((t : Nat) : Int) ∧ t < n ∧ isC f len t := by
  have h := upF_spec (f := f) (len := len) n 0 (-1) (Or.inl ⟨rfl, fun s hs => absurd hs (Nat.not_lt_zero _)⟩)
  rw [up_rch, Nat.zero_add] at h
  rcases h with h | ⟨t, h1, h2, h3, -⟩
  · exact Or.inl h.1
  · exact Or.inr ⟨t, h1, h2, h3⟩
theorem nFish_ok2 {w : Nat → Int} {y : Int} (q : nFish w y = (0, 0)) : (0 ≤ y ∧ y < w 1) ∧ 0 ≤ w (56 + 3 * y.toNat) - 1 ∧ wRch w y.toNat ≠ -1 := by
  unfold nFish at q
  split at q
  next h1 =>
    split at q
    · exact absurd (congrArg Prod.fst q) (by intro z; simp at z)
    next h2 =>
      split at q
      · exact absurd (congrArg Prod.fst q) (by intro z; simp at z)
      next h3 => exact ⟨h1, by omega, h3⟩
  · exact absurd (congrArg Prod.fst q) (by intro z; simp at z)
/-- the well of a bound rope -/
theorem rp_well {w : Nat → Int} {N R : Nat} {T : Nat → Nat} (ok : rOk w N R T) {y : Int} (q : 0 ≤ y ∧ y < w 1) (q2 : 0 ≤ w (56 + 3 * y.toNat) - 1) : (0 ≤ w (56 + 3 * y.toNat) - 1 ∧ w (56 + 3 * y.toNat) - 1 < w 0) := by
  have h1 := ok.2.2.1
  have h2 := (ok.2.2.2.2.2.1 y.toNat (by omega)).2
  have h3 := ok.1
  exact ⟨q2, by omega⟩
theorem sumF_nn {f : Nat → Int} (h0 : ∀ t, 0 ≤ f t) : ∀ k i, 0 ≤ sumF f i k := by
  intro k
  induction k with
  | zero => intro i; exact Int.le_refl _
  | succ k ih =>
    intro i
    have h1 := ih (i + 1)
    have h2 := h0 i
    unfold sumF
    omega
theorem aOrd_nn {o N R : Nat} {T : Nat → Nat} (ho : o < 12) {w : Nat → Int} {a1 a2 a3 : Int} {M : List Int} (ok : rOk w N R T) (hn : nOrd o w a1 a2 a3 M.length = (0, 0)) : 0 ≤ aOrd o w a1 a2 a3 M := by
  have h0 := ok.1
  have hR := ok.2.2.1
  have ho2 : o = 0 ∨ o = 1 ∨ o = 2 ∨ o = 3 ∨ o = 4 ∨ o = 5 ∨ o = 6 ∨ o = 7 ∨ o = 8 ∨ o = 9 ∨ o = 10 ∨ o = 11 := by omega
  rcases ho2 with ho2 | ho2 | ho2 | ho2 | ho2 | ho2 | ho2 | ho2 | ho2 | ho2 | ho2 | ho2 <;> subst ho2
  · show 0 ≤ w 0
    omega
  · obtain ⟨q1, q2⟩ := nDeepen_w hn
    have := (wl_i ok q1).2.2.1.2.2.1
    show 0 ≤ wW w a1.toNat 0 + a2
    omega
  · have q := nFill_w hn
    show 0 ≤ w 0 - 1
    omega
  · have q := (wl_i ok (nThing_w hn)).2.2.1.2.1
    show 0 ≤ wW w a1.toNat 2
    omega
  · have q := (wl_i ok (nThing_w hn)).2.2.1.2.1
    show 0 ≤ wW w a1.toNat 2
    omega
  · have q := (wl_i ok (nThing_w hn)).2.2.1.2.1
    show 0 ≤ wW w a1.toNat 2
    omega
  · obtain ⟨q1, q2, q3⟩ := nTake_ok hn
    show 0 ≤ wW w a1.toNat 2 - 1
    omega
  · show 0 ≤ slp w
    exact sumF_nn (fun i => (sumF_le (fun t => (sFrg01 t).1) (fun t => (sFrg01 t).2) _ 0).1) _ _
  · show 0 ≤ w 1
    omega
  · exact nRp_nn
  · obtain ⟨q1, q2, q3⟩ := nFish_ok2 hn
    have qw := rp_well ok q1 q2
    obtain ⟨v1, v2, v3, -⟩ := wl_i ok qw
    rcases rch_c (f := wW w (w (56 + 3 * a1.toNat) - 1).toNat) (n := (wW w (w (56 + 3 * a1.toNat) - 1).toNat 2).toNat) (len := w (55 + 3 * a1.toNat)) with q4 | ⟨t, q4, q5, q6⟩
    · exact absurd q4 q3
    · show 0 ≤ wW w (w (56 + 3 * a1.toNat) - 1).toNat (7 + 4 * (wRch w a1.toNat).toNat)
      have e1 : (wRch w a1.toNat).toNat = t := by
        show (rchF _ _ _ _ _).toNat = t
        rw [q4]
        rfl
      rw [e1]
      have h5 := (v3.2.2.2.2 t q5).2.2.2
      have h6 := h5.1 (by have := q6.1; omega)
      omega
  · have q := nShout_ok (show nShout w a1 M.length = (0, 0) from hn)
    obtain ⟨v1, v2, v3, -⟩ := wl_i ok q
    exact (grd_b (fTime_b v3).1).1
section
variable {X : eX} {w : Nat → Int} {c : Nat} {U : Nat → Nat → Int} {b : Bool} {r : Nat → Int} {W I : List Int} {Q : eO → eM → Prop} {e : Nat} {h : Nat → Nat → Int} {N e1 e2 : Nat}
theorem LI_W (l : LI h w c U b r W I) : W.length ≤ 8 := by
  obtain ⟨k1, k2, L, f, l⟩ := l
  exact l.2.2.2.2.2.1
theorem LI_c (l : LI h w c U b r W I) : c ≤ 8 := by
  obtain ⟨k1, k2, L, f, l⟩ := l
  exact l.2.1.1
/-- what an act comes to: a refusal, that changes nothing but the word, or one change -/
def AR (KJ : Int → Nat → Nat → (Nat → Nat → Nat) → (Nat → Nat → Int) → Prop) (w : Nat → Int) (c : Nat) (U : Nat → Nat → Int) (b : Bool) (r : Nat → Int) (N e1 e2 : Nat) : Prop :=
  (∀ v h' e' W', v < 0 → e1 ≤ e' → e' ≤ e2 → wz W' → LI h' w c U b r W' [] → KJ v eNT e' ewP h') ∧ (∀ v h' e' w' W', 0 ≤ v → e1 ≤ e' → e' ≤ e2 → ctB (N + 60) w' → wz W' → LI h' w' (pC c) (pU2 c U w) b r W' [] → KJ v eNT e' ewP h')
variable {KJ : Int → Nat → Nat → (Nat → Nat → Nat) → (Nat → Nat → Int) → Prop} {KX : Nat → Nat → Nat → (Nat → Nat → Nat) → (Nat → Nat → Int) → Prop}
theorem ac_dig {a1 a2 : Int} (G : AR KJ w c U b r N e1 e2) (h1 : e1 ≤ e) (h2 : e + 1 ≤ e2) (ct : ctB N w) (hN : N < 90000) (hz : wz W) (l : LI h w c U b r W []) : eCj X m_L_dig [vR 1, vI a1, vI a2] eNT e ewP h KJ KX := by
  obtain ⟨N', R, T, ok⟩ := LI_0 l
  have hW := LI_W l
  exact j_dig l (fun _ h' l' => G.1 _ h' _ _ (by decide) (by omega) h2 hz l') (fun hn h' l' => G.2 _ h' _ _ _ (aOrd_nn (by decide) ok hn) h1 (by omega) (ctB_le (by omega) (ct_ord (by decide) ok hW hn (by omega) ct)) hz l')
theorem ac_deepen {a1 a2 : Int} (G : AR KJ w c U b r N e1 e2) (h1 : e1 ≤ e) (h2 : e + 1 ≤ e2) (ct : ctB N w) (hN : N < 90000) (hz : wz W) (l : LI h w c U b r W []) : eCj X m_L_deepen [vR 1, vI a1, vI a2] eNT e ewP h KJ KX := by
  obtain ⟨N', R, T, ok⟩ := LI_0 l
  have hW := LI_W l
  exact j_deepen l (fun _ h' l' => G.1 _ h' _ _ (by decide) (by omega) h2 hz l') (fun hn h' l' => G.2 _ h' _ _ _ (aOrd_nn (by decide) ok hn) h1 (by omega) (ctB_le (by omega) (ct_ord (by decide) ok hW hn (by omega) ct)) hz l')
theorem ac_fill {a1 : Int} (G : AR KJ w c U b r N e1 e2) (h1 : e1 ≤ e) (h2 : e + 1 ≤ e2) (ct : ctB N w) (hN : N < 90000) (hz : wz W) (l : LI h w c U b r W []) : eCj X m_L_fill [vR 1, vI a1] eNT e ewP h KJ KX := by
  obtain ⟨N', R, T, ok⟩ := LI_0 l
  have hW := LI_W l
  exact j_fill l (fun _ h' l' => G.1 _ h' _ _ (by decide) (by omega) h2 hz l') (fun hn h' l' => G.2 _ h' _ _ _ (aOrd_nn (by decide) ok hn) h1 (by omega) (ctB_le (by omega) (ct_ord (by decide) ok hW hn (by omega) ct)) hz l')
theorem ac_coin {a1 a2 a3 : Int} (G : AR KJ w c U b r N e1 e2) (h1 : e1 ≤ e) (h2 : e + 1 ≤ e2) (ct : ctB N w) (hN : N < 90000) (hz : wz W) (l : LI h w c U b r W []) : eCj X m_L_coin [vR 1, vI a1, vI a2, vI a3] eNT e ewP h KJ KX := by
  obtain ⟨N', R, T, ok⟩ := LI_0 l
  have hW := LI_W l
  exact j_coin l (fun _ h' l' => G.1 _ h' _ _ (by decide) (by omega) h2 hz l') (fun hn h' l' => G.2 _ h' _ _ _ (aOrd_nn (by decide) ok hn) h1 (by omega) (ctB_le (by omega) (ct_ord (by decide) ok hW hn (by omega) ct)) hz l')
theorem ac_frog {a1 a2 a3 : Int} (G : AR KJ w c U b r N e1 e2) (h1 : e1 ≤ e) (h2 : e + 1 ≤ e2) (ct : ctB N w) (hN : N < 90000) (hz : wz W) (l : LI h w c U b r W []) : eCj X m_L_frog [vR 1, vI a1, vI a2, vI a3] eNT e ewP h KJ KX := by
  obtain ⟨N', R, T, ok⟩ := LI_0 l
  have hW := LI_W l
  exact j_frog l (fun _ h' l' => G.1 _ h' _ _ (by decide) (by omega) h2 hz l') (fun hn h' l' => G.2 _ h' _ _ _ (aOrd_nn (by decide) ok hn) h1 (by omega) (ctB_le (by omega) (ct_ord (by decide) ok hW hn (by omega) ct)) hz l')
theorem ac_moss {a1 a2 a3 : Int} (G : AR KJ w c U b r N e1 e2) (h1 : e1 ≤ e) (h2 : e + 1 ≤ e2) (ct : ctB N w) (hN : N < 90000) (hz : wz W) (l : LI h w c U b r W []) : eCj X m_L_moss [vR 1, vI a1, vI a2, vI a3] eNT e ewP h KJ KX := by
  obtain ⟨N', R, T, ok⟩ := LI_0 l
  have hW := LI_W l
  exact j_moss l (fun _ h' l' => G.1 _ h' _ _ (by decide) (by omega) h2 hz l') (fun hn h' l' => G.2 _ h' _ _ _ (aOrd_nn (by decide) ok hn) h1 (by omega) (ctB_le (by omega) (ct_ord (by decide) ok hW hn (by omega) ct)) hz l')
theorem ac_take {a1 a2 : Int} (G : AR KJ w c U b r N e1 e2) (h1 : e1 ≤ e) (h2 : e + 1 ≤ e2) (ct : ctB N w) (hN : N < 90000) (hz : wz W) (l : LI h w c U b r W []) : eCj X m_L_take [vR 1, vI a1, vI a2] eNT e ewP h KJ KX := by
  obtain ⟨N', R, T, ok⟩ := LI_0 l
  have hW := LI_W l
  exact j_take l (fun _ h' l' => G.1 _ h' _ _ (by decide) (by omega) h2 hz l') (fun hn h' l' => G.2 _ h' _ _ _ (aOrd_nn (by decide) ok hn) h1 (by omega) (ctB_le (by omega) (ct_ord (by decide) ok hW hn (by omega) ct)) hz l')
theorem ac_rope {a1 : Int} (G : AR KJ w c U b r N e1 e2) (h1 : e1 ≤ e) (h2 : e + 1 ≤ e2) (ct : ctB N w) (hN : N < 90000) (hz : wz W) (l : LI h w c U b r W []) : eCj X m_L_rope [vR 1, vI a1] eNT e ewP h KJ KX := by
  obtain ⟨N', R, T, ok⟩ := LI_0 l
  have hW := LI_W l
  exact j_rope l (fun _ h' l' => G.1 _ h' _ _ (by decide) (by omega) h2 hz l') (fun hn h' l' => G.2 _ h' _ _ _ (aOrd_nn (by decide) ok hn) h1 (by omega) (ctB_le (by omega) (ct_ord (by decide) ok hW hn (by omega) ct)) hz l')
theorem ac_bind {a1 a2 : Int} (G : AR KJ w c U b r N e1 e2) (h1 : e1 ≤ e) (h2 : e + 1 ≤ e2) (ct : ctB N w) (hN : N < 90000) (hz : wz W) (l : LI h w c U b r W []) : eCj X m_L_bind [vR 1, vI a1, vI a2] eNT e ewP h KJ KX := by
  obtain ⟨N', R, T, ok⟩ := LI_0 l
  have hW := LI_W l
  exact j_bind l (fun _ h' l' => G.1 _ h' _ _ (by decide) (by omega) h2 hz l') (fun hn h' l' => G.2 _ h' _ _ _ (aOrd_nn (by decide) ok hn) h1 (by omega) (ctB_le (by omega) (ct_ord (by decide) ok hW hn (by omega) ct)) hz l')
theorem ac_fish {a1 : Int} (G : AR KJ w c U b r N e1 e2) (h1 : e1 ≤ e) (h2 : e + 1 ≤ e2) (ct : ctB N w) (hN : N < 90000) (hz : wz W) (l : LI h w c U b r W []) : eCj X m_L_fish [vR 1, vI a1] eNT e ewP h KJ KX := by
  obtain ⟨N', R, T, ok⟩ := LI_0 l
  have hW := LI_W l
  exact j_fish l (fun _ h' l' => G.1 _ h' _ _ (by decide) (by omega) h2 hz l') (fun hn h' l' => G.2 _ h' _ _ _ (aOrd_nn (by decide) ok hn) h1 (by omega) (ctB_le (by omega) (ct_ord (by decide) ok hW hn (by omega) ct)) hz l')
theorem ac_shout {a1 : Int} (G : AR KJ w c U b r N e1 e2) (h1 : e1 ≤ e) (h2 : e + 1 ≤ e2) (ct : ctB N w) (hN : N < 90000) (hz : wz W) (l : LI h w c U b r W []) : eCj X m_L_shout [vR 1, vI a1] eNT e ewP h KJ KX := by
  obtain ⟨N', R, T, ok⟩ := LI_0 l
  have hW := LI_W l
  exact j_shout l (fun _ h' l' => G.1 _ h' _ _ (by decide) (by omega) h2 hz l') (fun hn h' l' => G.2 _ h' _ _ _ (aOrd_nn (by decide) ok hn) h1 (by omega) (ctB_le (by omega) (ct_ord (by decide) ok hW hn (by omega) ct)) wz_0 l')
end
