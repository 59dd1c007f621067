/-! the reference's way of a word -/
def mfr (C F : List Nat) (h h' : Nat → Nat → Int) : Prop := (∀ c, c ∉ C → c ≠ 577 → h' c = h c) ∧ ∀ k, k ∉ F → h' 577 k = h 577 k
theorem mfr_rfl {C F : List Nat} {h : Nat → Nat → Int} : mfr C F h h := ⟨fun _ _ _ => rfl, fun _ _ => rfl⟩
theorem mfr_tr {C F : List Nat} {h h1 h2 : Nat → Nat → Int} (a : mfr C F h h1) (b : mfr C F h1 h2) : mfr C F h h2 := ⟨fun c h1 h2 => by rw [b.1 c h1 h2, a.1 c h1 h2], fun k h1 => by rw [b.2 k h1, a.2 k h1]⟩
theorem mfr_le {C F C' F' : List Nat} {h h1 : Nat → Nat → Int} (a : mfr C F h h1) (hC : ∀ c, c ∈ C → c ∈ C') (hF : ∀ c, c ∈ F → c ∈ F') : mfr C' F' h h1 := ⟨fun c h1 h2 => a.1 c (fun q => h1 (hC c q)) h2, fun k h1 => a.2 k (fun q => h1 (hF k q))⟩
theorem mfr_f {C F : List Nat} {h h1 : Nat → Nat → Int} {k : Nat} {v : Int} (a : mfr C F h h1) (hk : k ∈ F) : mfr C F h (up h1 577 k v) := ⟨fun c h1 h2 => by rw [up_ne h2, a.1 c h1 h2], fun j h1 => by
  have q : j ≠ k := fun q => h1 (by rw [q]; exact hk)
  rw [up_nk q, a.2 j h1]⟩
theorem mfr_c {C F : List Nat} {h h1 : Nat → Nat → Int} {c k : Nat} {v : Int} (a : mfr C F h h1) (hc : c ∈ C) (h7 : c ≠ 577) : mfr C F h (up h1 c k v) := ⟨fun d h1 h2 => by
  have q : d ≠ c := fun q => h1 (by rw [q]; exact hc)
  rw [up_ne q, a.1 d h1 h2], fun j h1 => by rw [up_ne (Ne.symm h7), a.2 j h1]⟩
def aR (h : Nat → Nat → Int) (a : Nat) (L : List Int) : Prop := ∀ k, k < L.length → L[k]? = some (h a k)
theorem aR_h {h h' : Nat → Nat → Int} {a : Nat} {L : List Int} (q : h' a = h a) (l : aR h a L) : aR h' a L := by
  unfold aR
  rw [q]
  exact l
theorem aR_g {h : Nat → Nat → Int} {a k : Nat} {x : Int} {L : List Int} (l : aR h a L) (hx : L[k]? = some x) : h a k = x := by
  have h5 : k < L.length := (List.getElem?_eq_some_iff.mp hx).1
  have h6 := l k h5
  rw [hx] at h6
  injection h6 with h6
  exact h6.symm
theorem aR_app {h : Nat → Nat → Int} {a : Nat} {v : Int} {L : List Int} (l : aR h a L) : aR (up h a L.length v) a (L ++ [v]) := by
  intro k hk
  simp at hk
  rw [up_at]
  by_cases q : k = L.length
  · subst q; simp
  · rw [if_neg q, List.getElem?_append_left (by omega)]
    exact l k (by omega)
theorem aR_pre {h : Nat → Nat → Int} {a : Nat} {A B : List Int} (l : aR h a (A ++ B)) : aR h a A := by
  intro k hk
  have := l k (by simp; omega)
  rw [List.getElem?_append_left hk] at this
  exact this
def eR (h : Nat → Nat → Int) (L : List Int) (lost : Int) : Prop := h 577 19 = (L.length : Int) ∧ L.length ≤ 16 ∧ h 577 20 = lost ∧ aR h 584 L
section
variable {X : eX} {e : Nat} {h : Nat → Nat → Int}
/-- what is said -/
def sR (h : Nat → Nat → Int) (M : List Int) : Prop := h 577 17 = (M.length : Int) ∧ M.length ≤ 8 ∧ aR h 583 M
theorem fTime_b {f : Nat → Int} {n : Nat} (ok : wOk f n) : 0 ≤ fTime f n ∧ fTime f n ≤ 1000 := by
  rw [fTime_at]
  have h5 := ok.1
  have bM := msP_b ok n (Nat.le_refl _)
  have bF := frP_b (f := f) (n := n) (p := n)
  have hd := ok.2.2.1
  omega
end
