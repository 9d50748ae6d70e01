/-! a relay is asked for -/
theorem s_253 {d : Nat} {q : QQ} {V U : VV} {x1 x2 : Int} (rk : rowok U) (mr : MR V U) (h3 : R32 x1) (h4 : R32 x2) : RUN (d + 4) 253 (am_en 253 [aR 33 0, aI (iI x1), aI (iI x2)]) (HM q V) = cif ((0 ≤ x1 ∧ x1 < U 2 0 8) ∧ 0 ≤ x2 ∧ x2 < U 2 0 8) (cif (pR U x1 x2) (rI 1 (HM q (upV (foundM V U x2) 33 0 6 0))) (rI 0 (HM q (upV (foundM V U x2) 33 0 6 2)))) (rI 0 (HM q (upV V 33 0 6 1))) := by
  rw [e_253 rk mr h3 h4 (fun c => by have := sv_b rk (finds_is rk mr c.2).1 c.1; constructor <;> omega)]
  refine k_cifs (fun c => ?_) (fun _ => rfl)
  rcases sv_c (finds_is rk mr c.2).1 c.1 with ⟨a1, a2, a3, a4, a5, -⟩ | ⟨a1, a2, -⟩
  · rw [cif_neg (by omega), cif_pos a1]
  · rw [cif_pos a2, cif_neg a1]
