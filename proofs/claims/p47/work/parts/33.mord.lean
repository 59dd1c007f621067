/-! the reference: orders refused or done -/
def rw8 (h : Nat → Nat → Int) (w : Nat → Int) : Nat → Nat → Int := fun c => if c = 578 then w else h c
theorem rw8_s {h : Nat → Nat → Int} {w : Nat → Int} : rw8 h w 578 = w := by unfold rw8; rw [if_pos rfl]
theorem rw8_o {h : Nat → Nat → Int} {w : Nat → Int} {c : Nat} (q : c ≠ 578) : rw8 h w c = h c := by unfold rw8; rw [if_neg q]
theorem rw8_rw8 {h : Nat → Nat → Int} {w w' : Nat → Int} : rw8 (rw8 h w) w' = rw8 h w' := by
  funext c
  by_cases q : c = 578
  · subst q; rw [rw8_s, rw8_s]
  · rw [rw8_o q, rw8_o q, rw8_o q]
theorem rw8_id {h : Nat → Nat → Int} : rw8 h (h 578) = h := by
  funext c
  by_cases q : c = 578
  · subst q; rw [rw8_s]
  · rw [rw8_o q]
theorem up8 {h : Nat → Nat → Int} {k : Nat} {v : Int} : up h 578 k v = rw8 h (rSet (h 578) k v) := by
  funext c
  by_cases q : c = 578
  · subst q; rw [rw8_s]; funext j; rw [up_at]; rfl
  · rw [rw8_o q, up_ne q]
theorem rw8_up8 {h : Nat → Nat → Int} {w : Nat → Int} {k : Nat} {v : Int} : up (rw8 h w) 578 k v = rw8 h (rSet w k v) := by
  rw [up8, rw8_s, rw8_rw8]
theorem rSet_eq {w : Nat → Int} {k : Nat} {v : Int} : rSet w k v k = v := by unfold rSet; rw [if_pos rfl]
theorem rSet_ne {w : Nat → Int} {k j : Nat} {v : Int} (q : j ≠ k) : rSet w k v j = w j := by unfold rSet; rw [if_neg q]
section
variable {X : eX} {e : Nat} {h : Nat → Nat → Int} {N R : Nat} {T : Nat → Nat}
theorem wl_i {w : Nat → Int} {x : Int} (o : rOk w N R T) (q : 0 ≤ x ∧ x < w 0) : x.toNat < 8 ∧ ((x.toNat : Nat) : Int) = x ∧ wOk (wW w x.toNat) (wW w x.toNat 2).toNat ∧ wW w x.toNat 2 = (((wW w x.toNat 2).toNat : Nat) : Int) ∧ (wW w x.toNat 2).toNat ≤ 5 ∧ x.toNat < N := by
  have h1 := o.1
  have h2 := o.2.1
  have h3 := o.2.2.2.2.1 x.toNat (by omega)
  rw [rOk_T o (by omega)]
  exact ⟨by omega, by omega, h3, h3.2.1, h3.1, by omega⟩
theorem rp_i {w : Nat → Int} {y : Int} (o : rOk w N R T) (q : 0 ≤ y ∧ y < w 1) : y.toNat < 3 ∧ ((y.toNat : Nat) : Int) = y ∧ (0 ≤ w (56 + 3 * y.toNat) ∧ w (56 + 3 * y.toNat) ≤ 8) ∧ w (56 + 3 * y.toNat) ≤ w 0 ∧ y.toNat < R := by
  have h1 := o.2.2.1
  have h2 := o.2.2.2.1
  have h3 := (o.2.2.2.2.2.1 y.toNat (by omega)).2
  have h4 := o.1
  have h5 := o.2.1
  exact ⟨by omega, by omega, by omega, by omega, by omega⟩
end
