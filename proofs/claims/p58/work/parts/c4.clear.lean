/-! the law's own look along the ground -/
def clr (g : Int → Int) (a ha b hb : Int) : Prop := ∀ j, a < j → j < b → (g j - ha) * (b - a) < (hb - ha) * (j - a)
theorem lp_319 {d : Nat} {q : QQ} {V : VV} {x1 x2 x3 x4 : Int} (rk : rowok V) (p2 : 0 ≤ x1 ∧ x1 < 32) (p3 : 0 ≤ x2 ∧ x2 < 19) (p4 : 0 ≤ x3 ∧ x3 < 32) (p5 : 0 ≤ x4 ∧ x4 < 19) :
    ∀ (n : Nat) (k : Int) (P : Prop), x3 - k ≤ n → x1 + 1 ≤ k → k < 33 → RUN (d + 3) 319 (8, [sR 1 0, sI x1, sI x2, sI x3, sI x4, sI (b2i P), sI k], []) (HM q V) = rI (b2i (P ∧ ∀ j, k ≤ j → j < x3 → (V 3 0 j - x2) * (x3 - x1) < (x4 - x2) * (j - x1))) (HM q V) := by
  intro n
  induction n with
  | zero =>
    intro k P hn h1 h2
    have c : x3 ≤ k := by omega
    rw [g_319_8 rk p2 p3 p4 p5 (by omega) (fun _ => b2i_01 _) (b2i_R _) (fun z => absurd c z) (fun z => absurd c z), cif_pos c, b2i_iff (Q := P ∧ ∀ j, k ≤ j → j < x3 → (V 3 0 j - x2) * (x3 - x1) < (x4 - x2) * (j - x1))]
    exact ⟨fun h => ⟨h, fun j j1 j2 => by omega⟩, fun h => h.1⟩
  | succ n ih =>
    intro k P hn h1 h2
    by_cases c : x3 ≤ k
    · rw [g_319_8 rk p2 p3 p4 p5 (by omega) (fun _ => b2i_01 _) (b2i_R _) (fun z => absurd c z) (fun z => absurd c z), cif_pos c, b2i_iff (Q := P ∧ ∀ j, k ≤ j → j < x3 → (V 3 0 j - x2) * (x3 - x1) < (x4 - x2) * (j - x1))]
      exact ⟨fun h => ⟨h, fun j j1 j2 => by omega⟩, fun h => h.1⟩
    · have hk := rk_3 rk (j := k) (by omega)
      have m1 := mul_b2 (show -18 ≤ x4 - x2 ∧ x4 - x2 ≤ 18 by omega) (show 0 ≤ k - x1 ∧ k - x1 ≤ 31 by omega)
      have m2 := mul_b2 (show -18 ≤ V 3 0 k - x2 ∧ V 3 0 k - x2 ≤ 18 by omega) (show 0 ≤ x3 - x1 ∧ x3 - x1 ≤ 31 by omega)
      rw [g_319_8 rk p2 p3 p4 p5 (by omega) (fun _ => b2i_01 _) (b2i_R _) (fun _ _ => by omega) (fun _ _ => by omega), cif_neg c]
      have eF := ih (k + 1) False (by omega) (by omega) (by omega)
      have eT := ih (k + 1) True (by omega) (by omega) (by omega)
      rw [b2i_neg id] at eF
      rw [b2i_pos trivial] at eT
      by_cases hp : P
      · rw [cif_neg (fun z => b2i_z.mp z hp)]
        by_cases c2 : (x4 - x2) * (k - x1) ≤ (V 3 0 k - x2) * (x3 - x1)
        · rw [cif_pos c2, eF, b2i_iff (Q := P ∧ ∀ j, k ≤ j → j < x3 → (V 3 0 j - x2) * (x3 - x1) < (x4 - x2) * (j - x1))]
          refine ⟨fun h => h.1.elim, fun h => ?_⟩
          have := h.2 k (Int.le_refl _) (by omega)
          omega
        · rw [cif_neg c2, eT, b2i_iff (Q := P ∧ ∀ j, k ≤ j → j < x3 → (V 3 0 j - x2) * (x3 - x1) < (x4 - x2) * (j - x1))]
          refine ⟨fun h => ⟨hp, fun j j1 j2 => ?_⟩, fun h => ⟨trivial, fun j j1 j2 => h.2 j (by omega) j2⟩⟩
          by_cases e : j = k
          · rw [e]; omega
          · exact h.2 j (by omega) j2
      · rw [cif_pos (b2i_z.mpr hp), eF, b2i_iff (Q := P ∧ ∀ j, k ≤ j → j < x3 → (V 3 0 j - x2) * (x3 - x1) < (x4 - x2) * (j - x1))]
        exact ⟨fun h => h.1.elim, fun h => absurd h.1 hp⟩
theorem s_319 {d : Nat} {q : QQ} {V : VV} {x1 x2 x3 x4 : Int} (rk : rowok V) (p2 : 0 ≤ x1 ∧ x1 < 32) (p3 : 0 ≤ x2 ∧ x2 < 19) (p4 : 0 ≤ x3 ∧ x3 < 32) (p5 : 0 ≤ x4 ∧ x4 < 19) : RUN (d + 3) 319 (am_en 319 [aR 1 0, aI (iI x1), aI (iI x2), aI (iI x3), aI (iI x4)]) (HM q V) = rI (b2i (clr (V 3 0) x1 x2 x3 x4)) (HM q V) := by
  rw [g_319_0 rk p2 p3 p4 p5]
  have e := lp_319 (d := d) (q := q) rk p2 p3 p4 p5 64 (x1 + 1) True (by omega) (by omega) (by omega)
  rw [b2i_pos trivial] at e
  rw [e, b2i_iff (Q := clr (V 3 0) x1 x2 x3 x4)]
  exact ⟨fun h j j1 j2 => h.2 j (by omega) j2, fun h => ⟨trivial, fun j j1 j2 => h j (by omega) j2⟩⟩
theorem clr_up {g : Int → Int} {a ha b hb : Int} (h : a < b) : clr g a ha b hb ↔ clear g a ha b hb := by
  have e : max (b - a) (-(b - a)) = b - a := by omega
  unfold clr clear
  rw [e, if_pos h]
  constructor
  · intro k j j1 j2
    have := k (a + 1 * j) (by omega) (by omega)
    rw [line_eq]
    rw [show a + 1 * j - a = j by omega] at this
    exact this
  · intro k j j1 j2
    have := k (j - a) (by omega) (by omega)
    rw [line_eq, show a + 1 * (j - a) = j by omega] at this
    exact this
theorem clr_dn {g : Int → Int} {a ha b hb : Int} (h : b ≤ a) : clr g b hb a ha ↔ clear g a ha b hb := by
  have e : max (b - a) (-(b - a)) = a - b := by omega
  unfold clr clear
  rw [e, if_neg (show ¬ a < b by omega)]
  constructor
  · intro k j j1 j2
    have h1 := k (a + -1 * j) (by omega) (by omega)
    rw [show a + -1 * j - b = (a - b) - j by omega] at h1
    have h2 := (line_eq (g (a + -1 * j)) hb ha (a - b) ((a - b) - j)).mpr h1
    rw [show (a - b) - ((a - b) - j) = j by omega] at h2
    omega
  · intro k j j1 j2
    have h1 := k (a - j) (by omega) (by omega)
    rw [show a + -1 * (a - j) = j by omega] at h1
    have h2 : g j * (a - b) < hb * ((a - b) - (j - b)) + ha * (j - b) := by
      rw [show (a - b) - (j - b) = a - j by omega]
      rw [show (a - b) - (a - j) = j - b by omega] at h1
      omega
    exact (line_eq (g j) hb ha (a - b) (j - b)).mp h2
