/-! quotients of small numbers are numbers -/
theorem fp_d : ∀ a : Fin 145, ∀ b : Fin 8, vf_n64 (FP.ddiv (FP.i2d (iI (a.val : Int))) (FP.i2d (iI ((b.val : Int) + 1)))) := by
  unfold vf_n64
  decide +kernel
theorem fp_f : ∀ a : Fin 9, ∀ b : Fin 8, vf_n32 (FP.fdiv (FP.i2f (iI (a.val : Int))) (FP.i2f (iI ((b.val : Int) + 1)))) ∧ vf_n64 (FP.f2d (FP.fdiv (FP.i2f (iI (a.val : Int))) (FP.i2f (iI ((b.val : Int) + 1))))) := by
  unfold vf_n64 vf_n32
  decide +kernel
def meanD (s n : Int) : UInt64 := FP.ddiv (FP.i2d (iI s)) (FP.i2d (iI n))
def meanF (s n : Int) : UInt32 := FP.fdiv (FP.i2f (iI s)) (FP.i2f (iI n))
theorem meanD_ok {s n : Int} (hs : 0 ≤ s ∧ s ≤ 144) (hn : 1 ≤ n ∧ n ≤ 8) : vf_n64 (meanD s n) := by
  have := fp_d ⟨s.toNat, by omega⟩ ⟨(n - 1).toNat, by omega⟩
  have e1 : ((s.toNat : Nat) : Int) = s := by omega
  have e2 : (((n - 1).toNat : Nat) : Int) + 1 = n := by omega
  unfold meanD
  rw [← e1, ← e2]
  exact this
theorem meanF_ok {s n : Int} (hs : 0 ≤ s ∧ s ≤ 8) (hn : 1 ≤ n ∧ n ≤ 8) : vf_n32 (meanF s n) ∧ vf_n64 (FP.f2d (meanF s n)) := by
  have := fp_f ⟨s.toNat, by omega⟩ ⟨(n - 1).toNat, by omega⟩
  have e1 : ((s.toNat : Nat) : Int) = s := by omega
  have e2 : (((n - 1).toNat : Nat) : Int) + 1 = n := by omega
  unfold meanF
  rw [← e1, ← e2]
  exact this
