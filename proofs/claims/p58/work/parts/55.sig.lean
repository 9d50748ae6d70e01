/-! what a tower changes of a pattern -/
theorem bAnd_7 {c : Int} (h : 0 ≤ c ∧ c < 2147483648) : bAnd c 7 = c % 8 := by
  refine bv_inj (bAnd_R _ _) (by constructor <;> omega) ?_
  apply BitVec.eq_of_toNat_eq
  have e1 := nN_and c 7
  have e2 := nN_eq c
  have e3 := nN_eq (c % 8)
  have e4 : nN 7 = 2 ^ 3 - 1 := by rw [nN_eq]; decide
  rw [e4, Nat.and_two_pow_sub_one_eq_mod] at e1
  show nN (bAnd c 7) = nN (c % 8)
  rw [e1, e2, e3]
  omega
theorem shl8 : ∀ k : Nat, k < 8 → 0 ≤ bShl 1 k ∧ bShl 1 k < 256 := by decide +kernel
theorem shl88 : ∀ k : Nat, k < 8 → ∀ j : Nat, j < 8 → 0 ≤ bOr (bShl 1 k) (bShl 1 j) ∧ bOr (bShl 1 k) (bShl 1 j) < 256 := by decide +kernel
theorem shlI {c : Int} (h : 0 ≤ c ∧ c < 8) : 0 ≤ bShl 1 c ∧ bShl 1 c < 256 := by
  have := shl8 c.toNat (by omega)
  rw [show ((c.toNat : Nat) : Int) = c by omega] at this
  exact this
theorem shlII {c e : Int} (h : 0 ≤ c ∧ c < 8) (h2 : 0 ≤ e ∧ e < 8) : 0 ≤ bOr (bShl 1 c) (bShl 1 e) ∧ bOr (bShl 1 c) (bShl 1 e) < 256 := by
  have := shl88 c.toNat (by omega) e.toNat (by omega)
  rw [show ((c.toNat : Nat) : Int) = c by omega, show ((e.toNat : Nat) : Int) = e by omega] at this
  exact this
/-- the smokes that a tower changes, by its mood and its count -/
noncomputable def chgF (m c : Int) : Int := cif (m = 1) (cif (c % 3 = 2) (bShl 1 (c % 8)) 0) (cif (m = 2) (bShl 1 (c % 8)) (cif (m = 3) (cif (c % 2 = 1) (bOr (bShl 1 (c % 8)) (bShl 1 ((c + 3) % 8))) (bShl 1 (c % 8))) 0))
theorem chgF_b (m c : Int) : 0 ≤ chgF m c ∧ chgF m c < 256 := by
  have h1 := shlI (c := c % 8) (by omega)
  have h2 := shlII (c := c % 8) (e := (c + 3) % 8) (by omega) (by omega)
  have h0 : (0 : Int) ≤ 0 ∧ (0 : Int) < 256 := by decide
  unfold chgF
  by_cases a : m = 1
  · rw [cif_pos a]
    by_cases b : c % 3 = 2
    · rw [cif_pos b]; exact h1
    · rw [cif_neg b]; exact h0
  · rw [cif_neg a]
    by_cases a2 : m = 2
    · rw [cif_pos a2]; exact h1
    · rw [cif_neg a2]
      by_cases a3 : m = 3
      · rw [cif_pos a3]
        by_cases b : c % 2 = 1
        · rw [cif_pos b]; exact h2
        · rw [cif_neg b]; exact h1
      · rw [cif_neg a3]; exact h0
theorem s_129 {d : Nat} {q : QQ} {V : VV} {x0 x1 : Int} (p1 : 0 ≤ x1 ∧ x1 < 1000001) (h2 : R32 x0) : RUN d 129 (am_en 129 [aI (iI x0), aI (iI x1)]) (HM q V) = rI (chgF x0 x1) (HM q V) := by
  rw [e2_129 p1 h2, bAnd_7 (by omega), bAnd_7 (by omega)]
  unfold chgF
  refine cif_eq (fun a => ?_) (fun a => ?_)
  · rw [cif_pos a]
    refine cif_eq (fun b => ?_) (fun b => ?_)
    · rw [cif_pos b]
    · rw [cif_neg b]
  · rw [cif_neg a]
    refine cif_eq (fun b => ?_) (fun b => ?_)
    · rw [cif_pos b]
    · rw [cif_neg b]
      refine cif_eq (fun e => ?_) (fun e => ?_)
      · rw [cif_pos e]
        refine cif_eq (fun f => ?_) (fun f => ?_)
        · rw [cif_pos f]
        · rw [cif_neg f]
      · rw [cif_neg e]
theorem s_49 {d : Nat} {q : QQ} {V : VV} (sm : smok V) : RUN (d + 3) 49 (am_en 49 [aR 22 0]) (HM q V) = rI 1 (HM q V) := by
  rw [g_49_0 sm]
  obtain ⟨_, e⟩ := loop_to (fun i (_ : Unit) (_ : Unit) => RUN (d + 3) 49 (2, [sR 22 0, sI i], []) (HM q V)) (fun _ => ()) 0 256 (by
    intro i l h1 h2
    refine ⟨(), ?_⟩
    try dsimp only
    rw [g_49_2 sm (by omega), cif_neg (by omega)]
    refine cif_eq (fun _ => ?_) (fun _ => rfl)
    exact cif_pos rfl) (by omega) ()
  try dsimp only at e
  refine Eq.trans e ?_
  rw [g_49_2 sm (by omega)]
  exact cif_pos (by omega)
/-- what tower t sends for the letter l -/
noncomputable def sigN (m c l : Int) : Int := bXor (patT (l - 97)) (chgF m c)
theorem sigN_b {m c l : Int} (h : 97 ≤ l ∧ l < 113) : 0 ≤ sigN m c l ∧ sigN m c l < 256 := by
  have h1 := patT_b (x := l - 97) (by omega)
  have h2 := chgF_b m c
  unfold sigN
  rw [bXor_small h1 h2]
  have := xor_lt (a := (patT (l - 97)).toNat) (b := (chgF m c).toNat) (by omega) (by omega)
  omega
