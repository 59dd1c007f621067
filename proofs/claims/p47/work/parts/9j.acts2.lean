/-! the law's acts and shouts -/
theorem ch_b {x y : Int} (hy : 0 < y) : 0 ≤ (x % 2147483648).tmod y ∧ (x % 2147483648).tmod y < y := by
  have h0 : 0 ≤ x % 2147483648 := Int.emod_nonneg _ (by decide)
  rw [Int.tmod_eq_emod_of_nonneg h0]
  exact ⟨Int.emod_nonneg _ (by omega), Int.emod_lt_of_pos _ hy⟩
theorem tm_b {x y : Int} (hx : 0 ≤ x) (hy : 0 < y) : 0 ≤ x.tmod y ∧ x.tmod y < y := by
  rw [Int.tmod_eq_emod_of_nonneg hx]
  exact ⟨Int.emod_nonneg _ (by omega), Int.emod_lt_of_pos _ hy⟩
theorem ite_ok {p : Prop} [Decidable p] {P Q : Prop} (h1 : P) (h2 : Q) : if p then P else Q := by
  by_cases h : p
  · rw [if_pos h]; exact h1
  · rw [if_neg h]; exact h2
theorem mx_0 {z : Int} : ¬ (if 1 ≤ z then z else (1 : Int)) = 0 := by
  split <;> omega
section
variable {X : eX} {w : Nat → Int} {c : Nat} {U : Nat → Nat → Int} {b : Bool} {r : Nat → Int} {W I : List Int} {Q : eO → eM → Prop} {e : Nat} {h : Nat → Nat → Int} {N e1 e2 : Nat}
variable {KJ : Int → Nat → Nat → (Nat → Nat → Nat) → (Nat → Nat → Int) → Prop} {KX : Nat → Nat → Nat → (Nat → Nat → Nat) → (Nat → Nat → Int) → Prop}
theorem c_chosen {x y : Int} (hy : ¬ y = 0) {KI KX} (H : KI ((x % 2147483648).tmod y) eNT e ewP h) : eCi X m_L_chosen [vI x, vI y] eNT e ewP h KI KX := by
  refine bk_L_chosen_0 X x y eNT e ewP h _ ?_
  rw [if_pos rfl, if_neg hy]
  exact H
theorem j_shouts {n : Int} (hn : 0 ≤ n) (G : AR KJ w c U b r N e1 e2) (h1 : e1 ≤ e) (h2 : e + 3 ≤ e2) (ct : ctB N w) (hN : N < 90000) (hz : wz W) (l : LI h w c U b r W []) : eCj X m_L_shouts [vR 1, vI n] eNT e ewP h KJ KX := by
  refine bk_L_shouts_0 X 1 n eNT e ewP h _ ?_
  refine j_account l (by omega) (fun h' e' a1 a2 l' => ?_)
  refine j_account l' (by omega) (fun h2' e2' b1 b2 l2 => ?_)
  rw [show gJ (gAc w W [] c 0) = w 0 from rfl, show gJ (gAc w W [] c 4) = (W.length : Int) from rfl]
  have ht := tm_b hn (show (0 : Int) < 8 by decide)
  by_cases hW : W.length = 0
  · have hW2 : W = [] := List.eq_nil_of_length_eq_zero hW
    subst hW2
    rw [if_pos (show (if (([] : List Int).length : Int) = 0 then (0 : Int) else if (([] : List Int).length : Int) < 0 then -1 else 1) = 0 from rfl), if_neg (show ¬ (8 : Int) = 0 by decide), if_neg (fun z => absurd z.1 (by decide)), if_neg (fun z => absurd z.1 (by decide)), if_pos ⟨rfl, ht⟩]
    refine j_says (by omega) l2 (fun h3 W' _ hz3 l3 => ?_)
    rw [if_neg mx_0]
    exact ac_shout G (by omega) (by omega) ct hN hz3 l3
  · rw [if_neg (show ¬ (if (W.length : Int) = 0 then (0 : Int) else if (W.length : Int) < 0 then -1 else 1) = 0 by rw [if_neg (by omega), if_neg (by omega)]; decide), if_neg (show ¬ (8 : Int) = 0 by decide), if_neg mx_0]
    exact ac_shout G (by omega) (by omega) ct hN hz l2
theorem at_17 {v n k : Int} (hn : 0 ≤ n) (hk : ¬ k = 0) (G : AR (fun r n e p h => Q (.inl (some (vL r))) (n, e, p, h)) w c U b r N e1 e2) (h1 : e1 ≤ e) (h2 : e + 3 ≤ e2) (ct : ctB N w) (hN : N < 90000) (hz : wz W) (l : LI h w c U b r W []) : eP X m_L_acts 17 [vR 1, vI v, vI n, vI k] [] (eNT, e, ewP, h) Q := by
  refine bk_L_acts_17 X 1 v n k eNT e ewP h Q ?_
  rw [if_neg (show ¬ (30 : Int) = 0 by decide), if_neg (show ¬ (30 : Int) = 0 by decide), if_neg (show ¬ (3 : Int) = 0 by decide)]
  exact ac_dig G h1 (by omega) ct hN hz l
theorem at_30 {v n k : Int} (hn : 0 ≤ n) (hk : ¬ k = 0) (G : AR (fun r n e p h => Q (.inl (some (vL r))) (n, e, p, h)) w c U b r N e1 e2) (h1 : e1 ≤ e) (h2 : e + 3 ≤ e2) (ct : ctB N w) (hN : N < 90000) (hz : wz W) (l : LI h w c U b r W []) : eP X m_L_acts 30 [vR 1, vI v, vI n, vI k] [] (eNT, e, ewP, h) Q := by
  refine bk_L_acts_30 X 1 v n k eNT e ewP h Q ?_
  rw [if_neg (show ¬ (3 : Int) = 0 by decide)]
  by_cases h3 : n.tmod 3 = 0
  · rw [if_pos h3, if_neg hk]
    exact ac_fill G h1 (by omega) ct hN hz l
  · rw [if_neg h3, if_neg hk, if_neg (show ¬ (6 : Int) = 0 by decide)]
    exact ac_deepen G h1 (by omega) ct hN hz l
theorem at_51 {v n k : Int} (hn : 0 ≤ n) (hk : ¬ k = 0) (G : AR (fun r n e p h => Q (.inl (some (vL r))) (n, e, p, h)) w c U b r N e1 e2) (h1 : e1 ≤ e) (h2 : e + 3 ≤ e2) (ct : ctB N w) (hN : N < 90000) (hz : wz W) (l : LI h w c U b r W []) : eP X m_L_acts 51 [vR 1, vI v, vI n, vI k] [] (eNT, e, ewP, h) Q := by
  refine bk_L_acts_51 X 1 v n k eNT e ewP h Q ?_
  rw [if_neg hk, if_neg (show ¬ (8 : Int) = 0 by decide), if_neg (show ¬ (12 : Int) = 0 by decide), if_neg (show ¬ (9 : Int) = 0 by decide)]
  exact ac_coin G h1 (by omega) ct hN hz l
theorem at_69 {v n k : Int} (hn : 0 ≤ n) (hk : ¬ k = 0) (G : AR (fun r n e p h => Q (.inl (some (vL r))) (n, e, p, h)) w c U b r N e1 e2) (h1 : e1 ≤ e) (h2 : e + 3 ≤ e2) (ct : ctB N w) (hN : N < 90000) (hz : wz W) (l : LI h w c U b r W []) : eP X m_L_acts 69 [vR 1, vI v, vI n, vI k] [] (eNT, e, ewP, h) Q := by
  refine bk_L_acts_69 X 1 v n k eNT e ewP h Q ?_
  rw [if_neg hk, if_neg (show ¬ (8 : Int) = 0 by decide), if_neg (show ¬ (12 : Int) = 0 by decide), if_neg (show ¬ (26 : Int) = 0 by decide)]
  exact ac_frog G h1 (by omega) ct hN hz l
theorem at_88 {v n k : Int} (hn : 0 ≤ n) (hk : ¬ k = 0) (G : AR (fun r n e p h => Q (.inl (some (vL r))) (n, e, p, h)) w c U b r N e1 e2) (h1 : e1 ≤ e) (h2 : e + 3 ≤ e2) (ct : ctB N w) (hN : N < 90000) (hz : wz W) (l : LI h w c U b r W []) : eP X m_L_acts 88 [vR 1, vI v, vI n, vI k] [] (eNT, e, ewP, h) Q := by
  refine bk_L_acts_88 X 1 v n k eNT e ewP h Q ?_
  rw [if_neg hk, if_neg (show ¬ (8 : Int) = 0 by decide), if_neg (show ¬ (12 : Int) = 0 by decide), if_neg (show ¬ (9 : Int) = 0 by decide)]
  exact ac_moss G h1 (by omega) ct hN hz l
theorem at_106 {v n k : Int} (hn : 0 ≤ n) (hk : ¬ k = 0) (G : AR (fun r n e p h => Q (.inl (some (vL r))) (n, e, p, h)) w c U b r N e1 e2) (h1 : e1 ≤ e) (h2 : e + 3 ≤ e2) (ct : ctB N w) (hN : N < 90000) (hz : wz W) (l : LI h w c U b r W []) : eP X m_L_acts 106 [vR 1, vI v, vI n, vI k] [] (eNT, e, ewP, h) Q := by
  refine bk_L_acts_106 X 1 v n k eNT e ewP h Q ?_
  rw [if_neg hk, if_neg (show ¬ (8 : Int) = 0 by decide), if_neg (show ¬ (3 : Int) = 0 by decide)]
  exact ac_take G h1 (by omega) ct hN hz l
theorem at_117 {v n k : Int} (hn : 0 ≤ n) (hk : ¬ k = 0) (G : AR (fun r n e p h => Q (.inl (some (vL r))) (n, e, p, h)) w c U b r N e1 e2) (h1 : e1 ≤ e) (h2 : e + 3 ≤ e2) (ct : ctB N w) (hN : N < 90000) (hz : wz W) (l : LI h w c U b r W []) : eP X m_L_acts 117 [vR 1, vI v, vI n, vI k] [] (eNT, e, ewP, h) Q := by
  refine bk_L_acts_117 X 1 v n k eNT e ewP h Q ?_
  rw [if_pos ck1]
  obtain ⟨N', R, T, ok⟩ := LI_0 l
  have hW := LI_W l
  obtain ⟨k1, k2, L, f, l⟩ := l
  exact wl_wake l (fun h' _ l' => G.2 _ h' _ _ _ (aOrd_nn (o := 7) (a1 := 0) (a2 := 0) (a3 := 0) (M := W) (by decide) ok rfl) h1 (by omega) (ctB_le (by omega) (ct_ord (o := 7) (by decide) ok hW rfl (by omega) ct)) hz ⟨_, _, _, _, l'⟩)
theorem at_121 {v n k : Int} (hn : 0 ≤ n) (hk : ¬ k = 0) (G : AR (fun r n e p h => Q (.inl (some (vL r))) (n, e, p, h)) w c U b r N e1 e2) (h1 : e1 ≤ e) (h2 : e + 3 ≤ e2) (ct : ctB N w) (hN : N < 90000) (hz : wz W) (l : LI h w c U b r W []) : eP X m_L_acts 121 [vR 1, vI v, vI n, vI k] [] (eNT, e, ewP, h) Q := by
  refine bk_L_acts_121 X 1 v n k eNT e ewP h Q ?_
  rw [if_neg (show ¬ (30 : Int) = 0 by decide)]
  exact ac_rope G h1 (by omega) ct hN hz l
theorem at_129 {v n k : Int} (hn : 0 ≤ n) (hk : ¬ k = 0) (G : AR (fun r n e p h => Q (.inl (some (vL r))) (n, e, p, h)) w c U b r N e1 e2) (h1 : e1 ≤ e) (h2 : e + 3 ≤ e2) (ct : ctB N w) (hN : N < 90000) (hz : wz W) (l : LI h w c U b r W []) : eP X m_L_acts 129 [vR 1, vI v, vI n, vI k] [] (eNT, e, ewP, h) Q := by
  refine bk_L_acts_129 X 1 v n k eNT e ewP h Q ?_
  rw [if_neg (show ¬ (3 : Int) = 0 by decide), if_neg (show ¬ (3 : Int) = 0 by decide), if_neg hk]
  exact ac_bind G h1 (by omega) ct hN hz l
theorem at_140 {v n k : Int} (hn : 0 ≤ n) (hk : ¬ k = 0) (G : AR (fun r n e p h => Q (.inl (some (vL r))) (n, e, p, h)) w c U b r N e1 e2) (h1 : e1 ≤ e) (h2 : e + 3 ≤ e2) (ct : ctB N w) (hN : N < 90000) (hz : wz W) (l : LI h w c U b r W []) : eP X m_L_acts 140 [vR 1, vI v, vI n, vI k] [] (eNT, e, ewP, h) Q := by
  refine bk_L_acts_140 X 1 v n k eNT e ewP h Q ?_
  rw [if_neg (show ¬ (3 : Int) = 0 by decide)]
  exact ac_fish G h1 (by omega) ct hN hz l
theorem at_146 {v n k : Int} (hn : 0 ≤ n) (hk : ¬ k = 0) (G : AR (fun r n e p h => Q (.inl (some (vL r))) (n, e, p, h)) w c U b r N e1 e2) (h1 : e1 ≤ e) (h2 : e + 3 ≤ e2) (ct : ctB N w) (hN : N < 90000) (hz : wz W) (l : LI h w c U b r W []) : eP X m_L_acts 146 [vR 1, vI v, vI n, vI k] [] (eNT, e, ewP, h) Q := by
  refine bk_L_acts_146 X 1 v n k eNT e ewP h Q ?_
  have ht := tm_b hn (show (0 : Int) < 8 by decide)
  rw [if_neg (show ¬ (8 : Int) = 0 by decide), if_neg (fun z => absurd z.1 (by decide)), if_pos ⟨rfl, ht⟩]
  refine j_done (by omega) l (fun v h' e' a1 a2 a3 l' => G.1 v h' e' _ a1 (by omega) (by omega) hz l') (fun T n' w' h' a1 a2 a3 l' => ?_)
  have hb := rdAll_b _ _ _ a1
  exact G.2 _ h' _ w' _ (by omega) h1 (by omega) (ctB_le (by omega) (ok_ct n' 0 0 N w w' (by omega) (Or.inr ⟨Nat.zero_le _, 60, a1⟩) a3 a2 ct)) hz l'
theorem at_154 {v n k : Int} (hn : 0 ≤ n) (hk : ¬ k = 0) (G : AR (fun r n e p h => Q (.inl (some (vL r))) (n, e, p, h)) w c U b r N e1 e2) (h1 : e1 ≤ e) (h2 : e + 3 ≤ e2) (ct : ctB N w) (hN : N < 90000) (hz : wz W) (l : LI h w c U b r W []) : eP X m_L_acts 154 [vR 1, vI v, vI n, vI k] [] (eNT, e, ewP, h) Q := by
  refine bk_L_acts_154 X 1 v n k eNT e ewP h Q ?_
  exact j_shouts hn G h1 (by omega) ct hN hz l
/-- an act: a refusal, or one change -/
theorem lp_acts {v : Int} (G : AR (fun r n e p h => Q (.inl (some (vL r))) (n, e, p, h)) w c U b r N e1 e2) (h1 : e1 ≤ e) (h2 : e + 4 ≤ e2) (ct : ctB N w) (hN : N < 90000) (hz : wz W) (l : LI h w c U b r W []) : eP X m_L_acts 0 [vR 1, vI v, vJ, vJ] [] (eNT, e, ewP, h) Q := by
  refine bk_L_acts_0 X 1 v eNT e ewP h _ ?_
  rw [if_pos (show (0 : Int) ≤ 8 ∧ (8 : Int) < 32 by decide)]
  refine c_chosen (by decide) ?_
  have hn := (ch_b (x := v / 2 ^ (8 : Int).toNat) (show (0 : Int) < 100000 by decide)).1
  refine j_account l (by omega) (fun h' e' a1 a2 l' => ?_)
  refine c_chosen (by decide) ?_
  have k0 : ¬ (if 1 ≤ wr (gJ (gAc w W [] c 0)) then wr (gJ (gAc w W [] c 0)) else (1 : Int)) = 0 := mx_0
  generalize (if 1 ≤ wr (gJ (gAc w W [] c 0)) then wr (gJ (gAc w W [] c 0)) else (1 : Int)) = kk at k0 ⊢
  generalize (v / 2 ^ (8 : Int).toNat % 2147483648).tmod 100000 = n at hn ⊢
  repeat' refine ite_ok ?_ ?_
  all_goals first
    | exact at_17 hn k0 G (by omega) (by omega) ct hN hz l'
    | exact at_30 hn k0 G (by omega) (by omega) ct hN hz l'
    | exact at_51 hn k0 G (by omega) (by omega) ct hN hz l'
    | exact at_69 hn k0 G (by omega) (by omega) ct hN hz l'
    | exact at_88 hn k0 G (by omega) (by omega) ct hN hz l'
    | exact at_106 hn k0 G (by omega) (by omega) ct hN hz l'
    | exact at_117 hn k0 G (by omega) (by omega) ct hN hz l'
    | exact at_121 hn k0 G (by omega) (by omega) ct hN hz l'
    | exact at_129 hn k0 G (by omega) (by omega) ct hN hz l'
    | exact at_140 hn k0 G (by omega) (by omega) ct hN hz l'
    | exact at_146 hn k0 G (by omega) (by omega) ct hN hz l'
    | exact at_154 hn k0 G (by omega) (by omega) ct hN hz l'
theorem j_acts {v : Int} (G : AR KJ w c U b r N e1 e2) (h1 : e1 ≤ e) (h2 : e + 4 ≤ e2) (ct : ctB N w) (hN : N < 90000) (hz : wz W) (l : LI h w c U b r W []) : eCj X m_L_acts [vR 1, vI v] eNT e ewP h KJ KX := by
  refine lp_acts ?_ h1 h2 ct hN hz l
  exact G
end
