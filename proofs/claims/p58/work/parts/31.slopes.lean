/-! the steepest slope says the same as the line -/
theorem mul_b2 {a b A B : Int} (h1 : -A ≤ a ∧ a ≤ A) (h2 : 0 ≤ b ∧ b ≤ B) : -(A * B) ≤ a * b ∧ a * b ≤ A * B := by
  have hA : 0 ≤ A := by omega
  have e1 : a * b ≤ A * b := Int.mul_le_mul_of_nonneg_right h1.2 h2.1
  have e2 : (-A) * b ≤ a * b := Int.mul_le_mul_of_nonneg_right h1.1 h2.1
  have e3 : A * b ≤ A * B := Int.mul_le_mul_of_nonneg_left h2.2 hA
  rw [Int.neg_mul] at e2
  omega
theorem slope_one {a T r u D k : Int} (hu : 0 < u) (hk : 0 < k) (hD : 0 < D) (h1 : a * u ≤ r * k) (h2 : r * D < T * u) : a * D < T * k := by
  have e1 : a * u * D ≤ r * k * D := Int.mul_le_mul_of_nonneg_right h1 (Int.le_of_lt hD)
  have e2 : r * D * k < T * u * k := Int.mul_lt_mul_of_pos_right h2 hk
  have e3 : a * u * D = a * D * u := by rw [Int.mul_right_comm]
  have e4 : r * k * D = r * D * k := by rw [Int.mul_right_comm]
  have e5 : T * u * k = T * k * u := by rw [Int.mul_right_comm]
  have e6 : a * D * u < T * k * u := by omega
  exact Int.lt_of_mul_lt_mul_right e6 (Int.le_of_lt hu)
theorem line_eq (g e1 e2 D k : Int) : g * D < e1 * (D - k) + e2 * k ↔ (g - e1) * D < (e2 - e1) * k := by
  rw [Int.sub_mul, Int.sub_mul, Int.mul_sub]
  omega
set_option maxHeartbeats 2000000 in
theorem lp_43 {d : Nat} {q : QQ} {V : VV} (rk : rowok V) {x2 a e1 D dir : Int} {l1 : Option AV} (p2 : 0 ≤ x2 ∧ x2 < 8) (he : 0 ≤ e1 ∧ e1 ≤ 18) (hD : 1 ≤ D ∧ D ≤ 31) (hin : ∀ k, 1 ≤ k → k < D → 0 ≤ a + dir * k ∧ a + dir * k < 32) :
    ∀ (n : Nat) (k r u : Int) (l : Option AV), D - k ≤ n → 1 ≤ k → k ≤ D → (-1000 ≤ r ∧ r ≤ 9) → (1 ≤ u ∧ u ≤ 31) → (∀ j, 1 ≤ j → j < k → (V 3 0 (a + dir * j) - e1) * u ≤ r * j) → ((r = -1000 ∧ u = 1) ∨ ∃ j, 1 ≤ j ∧ j < k ∧ r = V 3 0 (a + dir * j) - e1 ∧ u = j) →
      RUN (d + 1) 43 (74, [sR 13 0, l1, sI x2, sI a, sI e1, sI D, sI dir, sI r, sI u, sI k, l], []) (HM q V) = rI (b2i (∀ j, 1 ≤ j → j < D → V 3 0 (a + dir * j) * D < e1 * (D - j) + eyeV (V 3 0) (V 4 0) (V 5 0) x2 * j)) (HM q V) := by
  intro n
  have he2 := eyeV_b rk p2
  induction n with
  | zero =>
    intro k r u l hn hk1 hk2 hr hu hbest hat
    have m1 := mul_b2 (A := 18) (show -18 ≤ eyeV (V 3 0) (V 4 0) (V 5 0) x2 - e1 ∧ eyeV (V 3 0) (V 4 0) (V 5 0) x2 - e1 ≤ 18 by omega) (show 0 ≤ u ∧ u ≤ 31 by omega)
    have m2 := mul_b2 (A := 1000) (show -1000 ≤ r ∧ r ≤ 1000 by omega) (show 0 ≤ D ∧ D ≤ 31 by omega)
    have hk : k = D := by omega
    subst hk
    rw [g_43_74 rk p2 (by omega) (by omega) (fun _ => by omega) (fun _ => by omega) (fun h => by omega) (fun h => by omega) (fun h => by omega), cif_pos (Int.le_refl _)]
    refine cif_eq (fun c => ?_) (fun c => ?_)
    · refine rI0_b (fun hall => ?_)
      rcases hat with ⟨rfl, rfl⟩ | ⟨j, j1, j2, rfl, rfl⟩
      · omega
      · have := (line_eq _ _ _ _ _).mp (hall u j1 j2)
        omega
    · refine rI1_b (fun j j1 j2 => (line_eq _ _ _ _ _).mpr ?_)
      exact slope_one (by omega) (by omega) (by omega) (hbest j j1 j2) (by omega)
  | succ n ih =>
    intro k r u l hn hk1 hk2 hr hu hbest hat
    by_cases hk : k = D
    · have m1 := mul_b2 (A := 18) (show -18 ≤ eyeV (V 3 0) (V 4 0) (V 5 0) x2 - e1 ∧ eyeV (V 3 0) (V 4 0) (V 5 0) x2 - e1 ≤ 18 by omega) (show 0 ≤ u ∧ u ≤ 31 by omega)
      have m2 := mul_b2 (A := 1000) (show -1000 ≤ r ∧ r ≤ 1000 by omega) (show 0 ≤ D ∧ D ≤ 31 by omega)
      subst hk
      rw [g_43_74 rk p2 (by omega) (by omega) (fun _ => by omega) (fun _ => by omega) (fun h => by omega) (fun h => by omega) (fun h => by omega), cif_pos (Int.le_refl _)]
      refine cif_eq (fun c => ?_) (fun c => ?_)
      · refine rI0_b (fun hall => ?_)
        rcases hat with ⟨rfl, rfl⟩ | ⟨j, j1, j2, rfl, rfl⟩
        · omega
        · have := (line_eq _ _ _ _ _).mp (hall u j1 j2)
          omega
      · refine rI1_b (fun j j1 j2 => (line_eq _ _ _ _ _).mpr ?_)
        exact slope_one (by omega) (by omega) (by omega) (hbest j j1 j2) (by omega)
    · have i1 := hin k hk1 (by omega)
      have i2 := rk_3 rk i1
      have m3 := mul_b2 (A := 18) (show -18 ≤ V 3 0 (a + dir * k) - e1 ∧ V 3 0 (a + dir * k) - e1 ≤ 18 by omega) (show 0 ≤ u ∧ u ≤ 31 by omega)
      have m4 := mul_b2 (A := 1000) (show -1000 ≤ r ∧ r ≤ 1000 by omega) (show 0 ≤ k ∧ k ≤ 31 by omega)
      rw [g_43_74 rk p2 (by omega) (by omega) (fun h => by omega) (fun h => by omega) (fun _ => i1) (fun _ => by omega) (fun _ => by omega), cif_neg (by omega)]
      refine cif_eq (fun c => ?_) (fun c => ?_)
      · refine ih (k + 1) r u _ (by omega) (by omega) (by omega) hr hu (fun j j1 j2 => ?_) ?_
        · by_cases e : j = k
          · rw [e]; exact c
          · exact hbest j j1 (by omega)
        · rcases hat with h | ⟨j, j1, j2, j3, j4⟩
          · exact Or.inl h
          · exact Or.inr ⟨j, j1, by omega, j3, j4⟩
      · refine ih (k + 1) (V 3 0 (a + dir * k) - e1) k _ (by omega) (by omega) (by omega) (by omega) (by omega) (fun j j1 j2 => ?_) (Or.inr ⟨k, hk1, by omega, rfl, rfl⟩)
        by_cases e : j = k
        · rw [e]; exact Int.le_refl _
        · have h1 := hbest j j1 (by omega)
          have h2 : r * k < (V 3 0 (a + dir * k) - e1) * u := by omega
          -- a_j * u <= r * j, r * k < a_k * u: a_j * k <= a_k * j
          have e1' : (V 3 0 (a + dir * j) - e1) * u * k ≤ r * j * k := Int.mul_le_mul_of_nonneg_right h1 (by omega)
          have e2' : r * k * j ≤ (V 3 0 (a + dir * k) - e1) * u * j := Int.mul_le_mul_of_nonneg_right (Int.le_of_lt h2) (by omega)
          have e3' : (V 3 0 (a + dir * j) - e1) * u * k = (V 3 0 (a + dir * j) - e1) * k * u := by rw [Int.mul_right_comm]
          have e4' : r * j * k = r * k * j := by rw [Int.mul_right_comm]
          have e5' : (V 3 0 (a + dir * k) - e1) * u * j = (V 3 0 (a + dir * k) - e1) * j * u := by rw [Int.mul_right_comm]
          have e6' : (V 3 0 (a + dir * j) - e1) * k * u ≤ (V 3 0 (a + dir * k) - e1) * j * u := by omega
          exact Int.le_of_mul_le_mul_right e6' (by omega)
theorem s_43 {d : Nat} {q : QQ} {V : VV} {x1 x2 : Int} (rk : rowok V) (p1 : 0 ≤ x1 ∧ x1 < 8) (p2 : 0 ≤ x2 ∧ x2 < 8) (hdist : ¬ x1 = x2 → ¬ V 4 0 x1 = V 4 0 x2) : RUN (d + 1) 43 (am_en 43 [aR 13 0, aI (iI x1), aI (iI x2)]) (HM q V) = rI (b2i (seeT (V 3 0) (V 4 0) (V 5 0) x1 x2)) (HM q V) := by
  have h1 := rk_4 rk p1
  have h2 := rk_4 rk p2
  have he := eyeV_b rk p1
  rw [g_43_0 rk p1 p2]
  refine cif_eq (fun c => rI0_b (fun h => h.1 c)) (fun c => ?_)
  have hne := hdist c
  refine cif_eq (fun c2 => ?_) (fun c2 => ?_)
  · rw [lp_43 rk p2 he (by omega) (by intro k a1 a2; omega) 32 1 (-1000) 1 none (by omega) (by omega) (by omega) (by omega) (by omega) (by intro j j1 j2; omega) (Or.inl ⟨rfl, rfl⟩)]
    refine congrArg (fun z => rI z (HM q V)) (b2i_iff ?_)
    unfold seeT clear
    rw [if_neg (show ¬ V 4 0 x1 < V 4 0 x2 by omega)]
    exact ⟨fun h => ⟨c, h⟩, fun h => h.2⟩
  · rw [lp_43 rk p2 he (by omega) (by intro k a1 a2; omega) 32 1 (-1000) 1 none (by omega) (by omega) (by omega) (by omega) (by omega) (by intro j j1 j2; omega) (Or.inl ⟨rfl, rfl⟩)]
    refine congrArg (fun z => rI z (HM q V)) (b2i_iff ?_)
    unfold seeT clear
    rw [if_pos (show V 4 0 x1 < V 4 0 x2 by omega)]
    exact ⟨fun h => ⟨c, h⟩, fun h => h.2⟩
