/-! letters, texts, undo, restore, save -/
theorem wrd_ok : ∀ j, j < 8 → (1 ≤ (ewT (32 + j)).length ∧ (ewT (32 + j)).length ≤ 8 ∧ ∀ x ∈ ewT (32 + j), 97 ≤ x ∧ x ≤ 122) := by decide +kernel
theorem txt_ok : ∀ j, j < 8 → ((ewT (24 + j)).length ≤ 22 ∧ ∀ x ∈ ewT (24 + j), 32 ≤ x ∧ x ≤ 126) := by decide +kernel
theorem take_s {T : List Int} {k : Nat} (hk : k < T.length) : T.take k ++ [T.getD k 0] = T.take (k + 1) := by
  rw [List.take_succ, List.getD_eq_getElem?_getD, List.getElem?_eq_getElem hk]
  rfl
theorem getD_m {T : List Int} {k : Nat} (hk : k < T.length) : T.getD k 0 ∈ T := by
  rw [List.getD_eq_getElem?_getD, List.getElem?_eq_getElem hk]
  exact List.getElem_mem hk
/-- letters, all of them a..z -/
def wz (W : List Int) : Prop := ∀ x ∈ W, 97 ≤ x ∧ x ≤ 122
theorem wz_0 : wz [] := fun _ h => absurd h List.not_mem_nil
section
variable {X : eX} {w : Nat → Int} {c : Nat} {U : Nat → Nat → Int} {b : Bool} {r : Nat → Int} {W I : List Int} {Q : eO → eM → Prop} {e : Nat} {h : Nat → Nat → Int}
theorem j_letter {x : Int} (l : LI h w c U b r W I) (hx : 97 ≤ x ∧ x ≤ 122) (hW : W.length < 8) {KJ KX} (H : ∀ h', LI h' w c U b r (W ++ [x]) I → KJ ((W.length : Int) + 1) eNT e ewP h') : eCj X m_L_letter [vR 1, vI x] eNT e ewP h KJ KX := by
  obtain ⟨k1, k2, L, f, l⟩ := l
  refine bk_L_letter_0 X 1 x eNT e ewP h _ ?_
  rw [if_pos ck1]
  exact c_letter l (by omega) (fun q => absurd hx q) (fun _ q => by omega) (fun _ _ h' _ l' => H h' ⟨_, _, _, _, l'⟩)
theorem j_append {x : Int} (l : LI h w c U b r W I) (hx : 32 ≤ x ∧ x ≤ 126) (hI : I.length < 60) {KJ KX} (H : ∀ h', LI h' w c U b r W (I ++ [x]) → KJ ((I.length : Int) + 1) eNT e ewP h') : eCj X m_L_append [vR 1, vI x] eNT e ewP h KJ KX := by
  obtain ⟨k1, k2, L, f, l⟩ := l
  refine bk_L_append_0 X 1 x eNT e ewP h _ ?_
  rw [if_pos ck1]
  exact c_append l (fun q => absurd hx q) (fun _ q => by omega) (fun _ _ h' _ l' => H h' ⟨_, _, _, _, l'⟩)
theorem j_run (l : LI h w c U b r W I) {KJ KX} (HR : ∀ v h' e', v < 0 → e ≤ e' → e' ≤ e + 1 → LI h' w c U b r W [] → KJ v eNT e' ewP h') (HD : ∀ n w' h', rdAll I 60 0 = .inr n → obF I n 0 0 w = .inr w' → okF I n 0 w → LI h' w' (pC c) (pU2 c U w) b r W [] → KJ ((n : Nat) : Int) eNT e ewP h') : eCj X m_L_run [vR 1] eNT e ewP h KJ KX := by
  obtain ⟨k1, k2, L, f, l⟩ := l
  refine bk_L_run_0 X 1 eNT e ewP h _ ?_
  rw [if_pos ck1]
  refine c_run l (fun f' hf h' _ l' => ?_) (fun n j x y hn ho hk hx h' _ l' => ?_) (fun n w' hn ho hk h' _ l' => HD n w' h' hn ho hk ⟨_, _, _, _, l'⟩)
  · refine eBk_h (t := 5) (k := 1) (by decide +kernel) ?_
    exact bk_L_run_5 X 1 _ eNT (e + 1) ewP h' _ (HR _ h' (e + 1) (by decide) (Nat.le_succ _) (Nat.le_refl _) ⟨_, _, _, _, l'⟩)
  · refine eBk_h (t := 8) (k := 1) (by decide +kernel) ?_
    exact bk_L_run_8 X 1 _ eNT (e + 1) ewP h' _ (HR _ h' (e + 1) (by decide) (Nat.le_succ _) (Nat.le_refl _) ⟨_, _, _, _, l'⟩)
theorem j_undo (l : LI h w c U b r W I) {KJ KX} (H1 : c = 0 → LI h w c U b r W I → KJ jT1 eNT (e + 1) ewP h) (H0 : 0 < c → ∀ h', LI h' (U (c - 1)) (c - 1) U b r W I → KJ ((c - 1 : Nat) : Int) eNT e ewP h') : eCj X m_L_undo [vR 1] eNT e ewP h KJ KX := by
  have l0 := l
  obtain ⟨k1, k2, L, f, l⟩ := l
  refine bk_L_undo_0 X 1 eNT e ewP h _ ?_
  rw [if_pos ck1]
  refine c_undo l (fun q => ?_) (fun q h' _ l' => H0 q h' ⟨_, _, _, _, l'⟩)
  refine eBk_h (t := 5) (k := 1) (by decide +kernel) ?_
  exact bk_L_undo_5 X 1 _ eNT (e + 1) ewP h _ (H1 q l0)
theorem j_restore (l : LI h w c U true r W I) {KJ KX} (H0 : ∀ h', LI h' r 0 U true r W I → KJ (r 0) eNT e ewP h') : eCj X m_L_restore [vR 1] eNT e ewP h KJ KX := by
  obtain ⟨k1, k2, L, f, l⟩ := l
  refine bk_L_restore_0 X 1 eNT e ewP h _ ?_
  rw [if_pos ck1]
  exact c_restore l (fun q => absurd q (by decide)) (fun _ h' _ l' => H0 h' ⟨_, _, _, _, l'⟩)
theorem lp_says {a : Nat} (ha : 1132 ≤ a ∧ a < 1140) {T : List Int} (hT : ewT (a - 1100) = T) (h8 : T.length ≤ 8) (hz : ∀ x ∈ T, 97 ≤ x ∧ x ≤ 122) : ∀ (j k : Nat) (h : Nat → Nat → Int), k + j = T.length → LI h w c U b r (T.take k) I → (∀ h', LI h' w c U b r T I → Q (.inl none) (eNT, e, ewP, h')) → eP X m_L_says 2 [vR 1, vR a, vI (k : Int)] [] (eNT, e, ewP, h) Q := by
  intro j
  induction j with
  | zero =>
    intro k h hk l H
    refine bk_L_says_2 X 1 a k eNT e ewP h Q ?_
    rw [hT, if_pos ⟨by omega, by omega⟩, if_neg (by omega)]
    refine H h ?_
    rw [List.take_of_length_le (by omega)] at l
    exact l
  | succ j ih =>
    intro k h hk l H
    refine bk_L_says_2 X 1 a k eNT e ewP h Q ?_
    rw [hT, if_pos ⟨by omega, by omega⟩, if_pos (by omega), if_pos ⟨by omega, by omega, by omega, by omega⟩, Int.toNat_natCast]
    refine j_letter l (hz _ (getD_m (by omega))) (by rw [List.length_take]; omega) (fun h' l' => ?_)
    rw [take_s (by omega)] at l'
    rw [wr1 (by omega)]
    exact ih (k + 1) h' (by omega) l' H
/-- a word is said to an object that has no letter -/
theorem j_says {a : Nat} (ha : 1132 ≤ a ∧ a < 1140) (l : LI h w c U b r [] I) {KV KX} (H : ∀ h' W', 1 ≤ W'.length → wz W' → LI h' w c U b r W' I → KV eNT e ewP h') : eCv X m_L_says [vR 1, vR a] eNT e ewP h KV KX := by
  obtain ⟨j, rfl⟩ : ∃ j, a = 1132 + j := ⟨a - 1132, by omega⟩
  obtain ⟨q1, q2, q3⟩ := wrd_ok j (by omega)
  refine bk_L_says_0 X 1 (1132 + j) eNT e ewP h _ ?_
  refine lp_says (T := ewT (32 + j)) ha (by rw [show 1132 + j - 1100 = 32 + j by omega]) q2 q3 (ewT (32 + j)).length 0 h (by omega) l (fun h' l' => H h' _ q1 q3 l')
theorem lp_done {a : Nat} (ha : 1124 ≤ a ∧ a < 1132) {T : List Int} (hT : ewT (a - 1100) = T) (h8 : T.length ≤ 22) (hz : ∀ x ∈ T, 32 ≤ x ∧ x ≤ 126) : ∀ (j k : Nat) (h : Nat → Nat → Int), k + j = T.length → LI h w c U b r W (T.take k) → (∀ h', LI h' w c U b r W T → eCj X m_L_run [vR 1] eNT e ewP h' (fun r1 n1 e1 p1 h1 => Q (.inl (some (vL r1))) (n1, e1, p1, h1)) (fun E n1 e1 p1 h1 => eBk X m_L_done 15 [vR 1, vR a, vI (T.length : Int)] [] Q (.inr E) (n1, e1, p1, h1))) → eP X m_L_done 2 [vR 1, vR a, vI (k : Int)] [] (eNT, e, ewP, h) Q := by
  intro j
  induction j with
  | zero =>
    intro k h hk l H
    refine bk_L_done_2 X 1 a k eNT e ewP h Q ?_
    obtain rfl : k = T.length := by omega
    rw [hT, if_pos ⟨by omega, by omega⟩, if_neg (by omega)]
    refine H h ?_
    rw [List.take_of_length_le (by omega)] at l
    exact l
  | succ j ih =>
    intro k h hk l H
    refine bk_L_done_2 X 1 a k eNT e ewP h Q ?_
    rw [hT, if_pos ⟨by omega, by omega⟩, if_pos (by omega), if_pos ⟨by omega, by omega, by omega, by omega⟩, Int.toNat_natCast]
    refine j_append l (hz _ (getD_m (by omega))) (by rw [List.length_take]; omega) (fun h' l' => ?_)
    rw [take_s (by omega)] at l'
    rw [wr1 (by omega)]
    exact ih (k + 1) h' (by omega) l' H
/-- a text is put in and done -/
theorem j_done {a : Nat} (ha : 1124 ≤ a ∧ a < 1132) (l : LI h w c U b r W []) {KJ KX} (HR : ∀ v h' e', v < 0 → e ≤ e' → e' ≤ e + 1 → LI h' w c U b r W [] → KJ v eNT e' ewP h') (HD : ∀ (T : List Int) (n : Nat) w' h', rdAll T 60 0 = .inr n → obF T n 0 0 w = .inr w' → okF T n 0 w → LI h' w' (pC c) (pU2 c U w) b r W [] → KJ ((n : Nat) : Int) eNT e ewP h') : eCj X m_L_done [vR 1, vR a] eNT e ewP h KJ KX := by
  obtain ⟨j, rfl⟩ : ∃ j, a = 1124 + j := ⟨a - 1124, by omega⟩
  obtain ⟨q2, q3⟩ := txt_ok j (by omega)
  refine bk_L_done_0 X 1 (1124 + j) eNT e ewP h _ ?_
  refine lp_done (T := ewT (24 + j)) ha (by rw [show 1124 + j - 1100 = 24 + j by omega]) q2 q3 (ewT (24 + j)).length 0 h (by omega) l (fun h' l' => ?_)
  exact j_run l' (fun v h2 e2 a1 a2 a3 l2 => HR v h2 e2 a1 a2 a3 l2) (fun n w' h2 a1 a2 a3 l2 => HD _ n w' h2 a1 a2 a3 l2)
end
