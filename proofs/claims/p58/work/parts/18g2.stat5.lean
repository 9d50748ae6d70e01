/-! what the start says of the numbers in the texts' arrays -/
theorem sk_25l : Cond.eq (.length (sa_tm 25)) (.int (Int32.ofNat 10)) ∈ flatC sa_N := by decide +kernel
theorem sk_25 : ∀ j, j < 10 → (flatC sa_N)[1026 + j]? = some (Cond.eq (.elem (sa_tm 25) (.int (Int32.ofNat j))) (.int ((fun j => [103, 114, 111, 117, 110, 100, 32, 78, 42, 68].getD j 0 : Nat → Int32) j))) := by decide +kernel
theorem sk_26l : Cond.eq (.length (sa_tm 26)) (.int (Int32.ofNat 11)) ∈ flatC sa_N := by decide +kernel
theorem sk_26 : ∀ j, j < 11 → (flatC sa_N)[1040 + j]? = some (Cond.eq (.elem (sa_tm 26) (.int (Int32.ofNat j))) (.int ((fun j => [116, 111, 119, 101, 114, 32, 78, 43, 68, 33, 68].getD j 0 : Nat → Int32) j))) := by decide +kernel
theorem sk_27l : Cond.eq (.length (sa_tm 27)) (.int (Int32.ofNat 8)) ∈ flatC sa_N := by decide +kernel
theorem sk_27 : ∀ j, j < 8 → (flatC sa_N)[1055 + j]? = some (Cond.eq (.elem (sa_tm 27) (.int (Int32.ofNat j))) (.int ((fun j => [109, 111, 111, 100, 32, 68, 33, 68].getD j 0 : Nat → Int32) j))) := by decide +kernel
theorem sk_28l : Cond.eq (.length (sa_tm 28)) (.int (Int32.ofNat 6)) ∈ flatC sa_N := by decide +kernel
theorem sk_28 : ∀ j, j < 6 → (flatC sa_N)[1067 + j]? = some (Cond.eq (.elem (sa_tm 28) (.int (Int32.ofNat j))) (.int ((fun j => [119, 105, 110, 100, 32, 87].getD j 0 : Nat → Int32) j))) := by decide +kernel
theorem sk_29l : Cond.eq (.length (sa_tm 29)) (.int (Int32.ofNat 10)) ∈ flatC sa_N := by decide +kernel
theorem sk_29 : ∀ j, j < 10 → (flatC sa_N)[1077 + j]? = some (Cond.eq (.elem (sa_tm 29) (.int (Int32.ofNat j))) (.int ((fun j => [115, 101, 110, 100, 32, 68, 62, 68, 58, 76].getD j 0 : Nat → Int32) j))) := by decide +kernel
theorem sk_30l : Cond.eq (.length (sa_tm 30)) (.int (Int32.ofNat 0)) ∈ flatC sa_N := by decide +kernel
theorem sk_31l : Cond.eq (.length (sa_tm 31)) (.int (Int32.ofNat 1)) ∈ flatC sa_N := by decide +kernel
theorem sk_31 : ∀ j, j < 1 → (flatC sa_N)[788 + j]? = some (Cond.eq (.elem (sa_tm 31) (.int (Int32.ofNat j))) (.int ((fun j => [43].getD j 0 : Nat → Int32) j))) := by decide +kernel
theorem sk_32l : Cond.eq (.length (sa_tm 32)) (.int (Int32.ofNat 1)) ∈ flatC sa_N := by decide +kernel
theorem sk_32 : ∀ j, j < 1 → (flatC sa_N)[793 + j]? = some (Cond.eq (.elem (sa_tm 32) (.int (Int32.ofNat j))) (.int ((fun j => [33].getD j 0 : Nat → Int32) j))) := by decide +kernel
theorem sk_33l : Cond.eq (.length (sa_tm 33)) (.int (Int32.ofNat 1)) ∈ flatC sa_N := by decide +kernel
theorem sk_33 : ∀ j, j < 1 → (flatC sa_N)[798 + j]? = some (Cond.eq (.elem (sa_tm 33) (.int (Int32.ofNat j))) (.int ((fun j => [58].getD j 0 : Nat → Int32) j))) := by decide +kernel
theorem sk_34l : Cond.eq (.length (sa_tm 34)) (.int (Int32.ofNat 1)) ∈ flatC sa_N := by decide +kernel
theorem sk_34 : ∀ j, j < 1 → (flatC sa_N)[824 + j]? = some (Cond.eq (.elem (sa_tm 34) (.int (Int32.ofNat j))) (.int ((fun j => [48].getD j 0 : Nat → Int32) j))) := by decide +kernel
theorem sk_35l : Cond.eq (.length (sa_tm 35)) (.int (Int32.ofNat 1)) ∈ flatC sa_N := by decide +kernel
theorem sk_35 : ∀ j, j < 1 → (flatC sa_N)[829 + j]? = some (Cond.eq (.elem (sa_tm 35) (.int (Int32.ofNat j))) (.int ((fun j => [62].getD j 0 : Nat → Int32) j))) := by decide +kernel
theorem sk_36l : Cond.eq (.length (sa_tm 36)) (.int (Int32.ofNat 1)) ∈ flatC sa_N := by decide +kernel
theorem sk_36 : ∀ j, j < 1 → (flatC sa_N)[834 + j]? = some (Cond.eq (.elem (sa_tm 36) (.int (Int32.ofNat j))) (.int ((fun j => [61].getD j 0 : Nat → Int32) j))) := by decide +kernel
theorem sk_37l : Cond.eq (.length (sa_tm 37)) (.int (Int32.ofNat 8)) ∈ flatC sa_N := by decide +kernel
theorem sk_37 : ∀ j, j < 8 → (flatC sa_N)[862 + j]? = some (Cond.eq (.elem (sa_tm 37) (.int (Int32.ofNat j))) (.int ((fun j => [42, 46, 42, 46, 42, 46, 46, 42].getD j 0 : Nat → Int32) j))) := by decide +kernel
theorem sk_38l : Cond.eq (.length (sa_tm 38)) (.int (Int32.ofNat 6)) ∈ flatC sa_N := by decide +kernel
theorem sk_38 : ∀ j, j < 6 → (flatC sa_N)[890 + j]? = some (Cond.eq (.elem (sa_tm 38) (.int (Int32.ofNat j))) (.int ((fun j => [119, 105, 110, 100, 32, 45].getD j 0 : Nat → Int32) j))) := by decide +kernel
theorem sk_39l : Cond.eq (.length (sa_tm 39)) (.int (Int32.ofNat 8)) ∈ flatC sa_N := by decide +kernel
theorem sk_39 : ∀ j, j < 8 → (flatC sa_N)[900 + j]? = some (Cond.eq (.elem (sa_tm 39) (.int (Int32.ofNat j))) (.int ((fun j => [59, 103, 114, 111, 117, 110, 100, 32].getD j 0 : Nat → Int32) j))) := by decide +kernel
theorem sk_40l : Cond.eq (.length (sa_tm 40)) (.int (Int32.ofNat 1)) ∈ flatC sa_N := by decide +kernel
theorem sk_40 : ∀ j, j < 1 → (flatC sa_N)[912 + j]? = some (Cond.eq (.elem (sa_tm 40) (.int (Int32.ofNat j))) (.int ((fun j => [42].getD j 0 : Nat → Int32) j))) := by decide +kernel
theorem sk_41l : Cond.eq (.length (sa_tm 41)) (.int (Int32.ofNat 6)) ∈ flatC sa_N := by decide +kernel
theorem sk_41 : ∀ j, j < 6 → (flatC sa_N)[917 + j]? = some (Cond.eq (.elem (sa_tm 41) (.int (Int32.ofNat j))) (.int ((fun j => [59, 115, 101, 110, 100, 32].getD j 0 : Nat → Int32) j))) := by decide +kernel
theorem sk_42l : Cond.eq (.length (sa_tm 42)) (.int (Int32.ofNat 100)) ∈ flatC sa_N := by decide +kernel
theorem sk_42 : ∀ j, j < 100 → (flatC sa_N)[14 + j]? = some (Cond.eq (.elem (sa_tm 42) (.int (Int32.ofNat j))) (.int ((fun j => nI (48 + j % 10) : Nat → Int32) j))) := by decide +kernel
theorem sk_43l : Cond.eq (.length (sa_tm 43)) (.int (Int32.ofNat 100)) ∈ flatC sa_N := by decide +kernel
theorem sk_43 : ∀ j, j < 100 → (flatC sa_N)[117 + j]? = some (Cond.eq (.elem (sa_tm 43) (.int (Int32.ofNat j))) (.int ((fun j => nI (48 + j / 10) : Nat → Int32) j))) := by decide +kernel
