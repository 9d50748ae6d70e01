/-! what a tower sends -/
theorem s_128 {d : Nat} {q : QQ} {V : VV} {x1 x2 : Int} (rk : rowok V) (sm : smok V) (p3 : 0 ≤ x1 ∧ x1 < 8) (h4 : 97 ≤ x2 ∧ x2 < 113) : RUN (d + 1) 128 (am_en 128 [aR 1 0, aI (iI x1), aI (iI x2)]) (HM q V) = rI (sigN (V 6 0 x1) (V 7 0 x1) x2) (HM q V) := by
  rw [e_128 rk sm p3 (by omega), sm (x2 - 97) (by omega)]
  rfl
