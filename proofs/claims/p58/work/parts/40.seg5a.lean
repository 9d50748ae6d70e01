/-! segments: 40.seg5a -/
/-- what the relays keep between their calls is within bounds -/
def relok (V : VV) : Prop := (∀ i j : Int, 0 ≤ i ∧ i < 8 → 0 ≤ j ∧ j < 8 → 0 ≤ V 17 i.toNat j ∧ V 17 i.toNat j ≤ 1000000) ∧ (∀ i j : Int, 0 ≤ i ∧ i < 8 → 0 ≤ j ∧ j < 8 → 0 ≤ V 19 i.toNat j ∧ V 19 i.toNat j ≤ 1000000) ∧ (∀ j : Int, 0 ≤ j ∧ j < 8 → 0 ≤ V 20 0 j ∧ V 20 0 j ≤ 1000000)
theorem rl_17 {V : VV} (h : relok V) {i j : Int} (hi : 0 ≤ i ∧ i < 8) (hj : 0 ≤ j ∧ j < 8) : 0 ≤ V 17 i.toNat j ∧ V 17 i.toNat j ≤ 1000000 := h.1 i j hi hj
theorem rl_19 {V : VV} (h : relok V) {i j : Int} (hi : 0 ≤ i ∧ i < 8) (hj : 0 ≤ j ∧ j < 8) : 0 ≤ V 19 i.toNat j ∧ V 19 i.toNat j ≤ 1000000 := h.2.1 i j hi hj
theorem rl_20 {V : VV} (h : relok V) {j : Int} (hj : 0 ≤ j ∧ j < 8) : 0 ≤ V 20 0 j ∧ V 20 0 j ≤ 1000000 := h.2.2 j hj
theorem costO_b {V : VV} (rl : relok V) {i j : Int} (hi : 0 ≤ i ∧ i < 8) (hj : 0 ≤ j ∧ j < 8) : 0 ≤ costO (V 17 i.toNat j) (V 20 0 j) ∧ costO (V 17 i.toNat j) (V 20 0 j) ≤ 18000000 := by
  have h1 := rl_17 rl hi hj
  have h2 := rl_20 rl hj
  rcases costO_cases (V 17 i.toNat j) (V 20 0 j) with h | h <;> omega
theorem s_48 {d : Nat} {q : QQ} {V : VV} {x1 x2 : Int} (rl : relok V) (p1 : 0 ≤ x1 ∧ x1 < 8) (p2 : 0 ≤ x2 ∧ x2 < 8) : RUN d 48 (am_en 48 [aR 15 0, aI (iI x1), aI (iI x2)]) (HM q V) = rI (costO (V 17 x1.toNat x2) (V 20 0 x2)) (HM q V) := by
  have h1 := rl_17 rl p1 p2
  have h2 := rl_20 rl p2
  rw [e_48 p1 p2 (by omega) (by intro _; omega)]
  unfold costO
  refine cif_eq (fun c => ?_) (fun c => ?_)
  · rw [cif_pos c]
  · rw [cif_neg c]
    refine cif_eq (fun c2 => ?_) (fun c2 => ?_)
    · rw [cif_pos c2]
    · rw [cif_neg c2]
noncomputable def fill20 (V : VV) (v : Int) : VV := rowV 20 V (fun _ => v) 8
theorem s_46 {d : Nat} {q : QQ} {V : VV} {x1 : Int} : RUN d 46 (am_en 46 [aR 20 0, aI (iI x1)]) (HM q V) = rV (HM q (fill20 V x1)) := by
  rw [g_46_0]
  obtain ⟨_, e⟩ := loop_to (fun i s (_ : Unit) => RUN d 46 (5, [sR 20 0, sI x1, sI i, sI 8], []) (HM q s)) (fun i => rowV 20 V (fun _ => x1) i) 0 8 (by
    intro i l h1 h2
    refine ⟨(), ?_⟩
    try dsimp only
    rw [g_46_5 (by omega) (by omega), cif_neg (by omega)]
    exact congrArg (fun s => RUN d 46 (5, [sR 20 0, sI x1, sI (i + 1), sI 8], []) (HM q s)) (rowV_up (A := 20) (V := V) (f := fun _ => x1) (v := x1) h1 rfl)) (by omega) ()
  try dsimp only at e
  rw [rowV_0] at e
  refine Eq.trans e ?_
  rw [g_46_5 (by omega) (by omega)]
  exact cif_pos (by omega)
theorem e_13 {d : Nat} {q : QQ} {V : VV}   (rk : rowok V) : RUN (d + 5) 13 (am_en 13 [aR 1 0]) (HM q V) = rI (watchN (V 2 0 8) (seeP (V 3 0) (V 4 0) (V 5 0))) (HM q (lookV V)) := (show RUN (d + 5) 13 (0, [sR 1 0], []) (HM q V) = _ from Eq.trans (k_aload rfl rfl) (Eq.trans (k_getfr rfl rfl rfl) (Eq.trans (RUN_ci rfl rfl rfl (s_14 rk) (qle_refl _)) (k_iret rfl trivial))))
theorem e_21 {d : Nat} {q : QQ} {V : VV}   (rk : rowok V) : RUN (d + 11) 21 (am_en 21 [aR 1 0]) (HM q V) = rI (watchN (V 2 0 8) (seeP (V 3 0) (V 4 0) (V 5 0))) (HM q (lookV V)) := (show RUN (d + 11) 21 (0, [sR 1 0], []) (HM q V) = _ from Eq.trans (k_aload rfl rfl) (Eq.trans (k_getfr rfl rfl rfl) (Eq.trans (RUN_ci rfl rfl rfl (s_22 rk) (qle_refl _)) (k_iret rfl trivial))))
