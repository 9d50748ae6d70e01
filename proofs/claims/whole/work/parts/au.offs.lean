/-! the cells that looking changes -/
theorem beq_no {a b : Nat} (h : a ≠ b) : Nat.beq a b = false := by
  cases k : Nat.beq a b with
  | false => rfl
  | true => exact absurd (Nat.eq_of_beq_eq_true k) h
/-- the class's sight and relays -/
def offS (V W : VV) : Prop := ∀ a b, ¬ (14 ≤ a ∧ a ≤ 21) → W a b = V a b
theorem offS_refl (V : VV) : offS V V := fun _ _ _ => rfl
theorem offS_trans {U V W : VV} (h : offS U V) (k : offS V W) : offS U W := fun a b z => (k a b z).trans (h a b z)
theorem offS_setA {V : VV} {a : Nat} {f : Int → Int} (h : 14 ≤ a ∧ a ≤ 21) : offS V (setA V a 0 f) := fun a' b' z => setA_off (by omega)
theorem offS_up {V : VV} {a b : Nat} {e v : Int} (h : 14 ≤ a ∧ a ≤ 21) : offS V (upV V a b e v) := fun a' b' z => upV_off2 (by omega)
theorem offS_grid {V : VV} {A : Nat} {w : Int → Int → Int} {n i j : Int} (h : 14 ≤ A ∧ A ≤ 21) : offS V (gridV A V w n i j) := fun a b z => by
  funext k
  unfold gridV
  rw [beq_no (by omega)]
  rfl
theorem offS_row {V : VV} {A : Nat} {f : Int → Int} {i : Int} (h : 14 ≤ A ∧ A ≤ 21) : offS V (rowV A V f i) := fun a b z => by
  funext k
  unfold rowV
  rw [beq_no (show a ≠ A by omega)]
  rfl
theorem offS_path {V : VV} {P : Nat → Int} {len D : Int} : offS V (pathV V P len D) := fun a b z => by
  funext k
  unfold pathV
  rw [beq_no (show a ≠ 15 by omega), beq_no (show a ≠ 21 by omega)]
  rfl
theorem offS_steps {V : VV} : offS V (stepsV V) := offS_grid (by decide)
theorem offS_settle {V : VV} {x : Int} : offS V (settleV V x) := offS_setA (by decide)
theorem offS_look {V : VV} : offS V (lookV V) := offS_row (by decide)
theorem offS_found {V : VV} {x y : Int} : offS V (foundV V x y) := offS_trans (offS_trans offS_steps offS_settle) offS_path
theorem offS_lost {V : VV} {y : Int} : offS V (lostV V y) := offS_trans (offS_trans offS_steps offS_settle) (offS_up (by decide))
