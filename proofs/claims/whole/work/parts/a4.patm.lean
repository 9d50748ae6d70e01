/-! the model's patterns -/
set_option maxHeartbeats 4000000 in
theorem s_262 {d : Nat} {q : QQ} {V : VV} {x0 : Int} (p : 97 ≤ x0 ∧ x0 < 113) : RUN (d + 1) 262 (am_en 262 [aI (iI x0)]) (HM q V) = rI (patT (x0 - 97)) (HM q V) := by
  have h : x0 = 97 ∨ x0 = 98 ∨ x0 = 99 ∨ x0 = 100 ∨ x0 = 101 ∨ x0 = 102 ∨ x0 = 103 ∨ x0 = 104 ∨ x0 = 105 ∨ x0 = 106 ∨ x0 = 107 ∨ x0 = 108 ∨ x0 = 109 ∨ x0 = 110 ∨ x0 = 111 ∨ x0 = 112 := by omega
  rcases h with rfl | rfl | rfl | rfl | rfl | rfl | rfl | rfl | rfl | rfl | rfl | rfl | rfl | rfl | rfl | rfl <;>
    exact (e_262 (by decide) (by decide +kernel) (by decide +kernel) (by decide +kernel) (by decide +kernel) (by decide +kernel) (by decide +kernel) (by decide +kernel) (by decide +kernel)).trans (congrArg (fun z => rI z (HM q V)) (by decide +kernel))
theorem bx_b {a b : Int} (ha : 0 ≤ a ∧ a < 256) (hb : 0 ≤ b ∧ b < 256) : 0 ≤ bXor a b ∧ bXor a b < 256 := by
  rw [bXor_small ha hb]
  have := xor_lt (a := a.toNat) (b := b.toNat) (by omega) (by omega)
  omega
