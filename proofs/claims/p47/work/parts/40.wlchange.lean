/-! what the law calls: changes of the class -/
theorem eBk_h {X : eX} {m pc E t k : Nat} {ls rest : List eV} {Q : eO → eM → Prop} {μ : eM} (hm : ewHnd m pc E = some (t, k)) (H : eP X m t (eSt ls k vJ) [] μ Q) : eBk X m pc ls rest Q (.inr E) μ := by
  unfold eBk
  simp only [hm]
  exact H
section
variable {X : eX} {e : Nat} {h : Nat → Nat → Int} {w : Nat → Int} {c : Nat} {U : Nat → Nat → Int} {b : Bool} {r : Nat → Int} {k1 k2 : Int × Int} {W I L : List Int} {f : Int}
theorem wl_wake (l : CI h w c U b r k1 k2 W I L f) {KI KX} (HD : ∀ h', (∀ z, 577 ≤ z → h' z = h z) → CI h' (dOrd 7 w 0 0 0 W) (pC c) (pU2 c U w) b r k1 k2 W I L f → KI (aOrd 7 w 0 0 0 W) eNT e ewP h') : eCi X m_X12_wake [vR 1] eNT e ewP h KI KX := by
  refine bk_X12_wake_0 X 1 eNT e ewP h _ ?_
  rw [if_pos ck1]
  refine c_changed (o := 7) (by decide) l (fun x y hn hx h' f1 l' => ?_) (fun hn h' f1 l' => HD h' f1 l')
  exact absurd (congrArg Prod.fst hn).symm hx
end
