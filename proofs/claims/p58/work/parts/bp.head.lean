/-! the heap behind the constructors -/
theorem CH_all {L : Nat} {xs : Nat → Int32} {J : (Nat → Nat → Nat → Int64) × (Nat → Nat → Nat → UInt64)} {sl : Nat} {V : VV} : CH L xs J oE 136 sl V = HM ((L, xo xs), (136, sl), J) V := by
  unfold CH HM
  have e : Bs L xs oE 136 = cutS L xs 136 := rfl
  rw [e, cut_all]
