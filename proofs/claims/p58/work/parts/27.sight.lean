/-! lines of sight -/
set_option maxHeartbeats 1000000 in
theorem lp_19 {d : Nat} {q : QQ} {V : VV} (rk : rowok V) {a ha hb D dir : Int} {l3 : Option AV} (h1 : 0 ≤ ha ∧ ha ≤ 18) (h2 : 0 ≤ hb ∧ hb ≤ 18) (h3 : 0 ≤ D ∧ D ≤ 31) (hin : ∀ k, 1 ≤ k → k < D → 0 ≤ a + dir * k ∧ a + dir * k < 32) :
    ∀ (n : Nat) (k : Int) (l8 : Option AV), D - k ≤ n → 1 ≤ k → k ≤ 32 → RUN d 19 (23, [sR 13 0, sI a, sI ha, l3, sI hb, sI D, sI dir, sI k, l8], []) (HM q V) = rI (b2i (∀ j, k ≤ j → j < D → V 3 0 (a + dir * j) * D < ha * (D - j) + hb * j)) (HM q V) := by
  intro n
  induction n with
  | zero =>
    intro k l8 hn hk hk2
    rw [g_19_23 rk (by omega) (by omega) (by intro h; omega) (by intro h; omega) (by intro h; omega), cif_pos (by omega), b2i_pos (by intro j hj1 hj2; omega)]
  | succ n ih =>
    intro k l8 hn hk hk2
    by_cases hc : D ≤ k
    · rw [g_19_23 rk (by omega) (by omega) (by intro h; omega) (by intro h; omega) (by intro h; omega), cif_pos (by omega), b2i_pos (by intro j hj1 hj2; omega)]
    · have i1 := hin k hk (by omega)
      have i2 := rk_3 rk i1
      have m1 := mul_b i2 h3
      have m2 := mul_b h1 (show 0 ≤ D - k ∧ D - k ≤ 31 by omega)
      have m3 := mul_b h2 (show 0 ≤ k ∧ k ≤ 31 by omega)
      rw [g_19_23 rk (by omega) (by omega) (fun _ => i1) (fun _ => by omega) (fun _ => by omega), cif_neg hc]
      by_cases hl : V 3 0 (a + dir * k) * D < ha * (D - k) + hb * k
      · rw [cif_pos hl, ih (k + 1) _ (by omega) (by omega) (by omega)]
        rw [b2i_iff (Q := ∀ j, k ≤ j → j < D → V 3 0 (a + dir * j) * D < ha * (D - j) + hb * j)]
        constructor
        · intro h j hj1 hj2
          by_cases e : j = k
          · rw [e]; exact hl
          · exact h j (by omega) hj2
        · intro h j hj1 hj2
          exact h j (by omega) hj2
      · rw [cif_neg hl, b2i_neg (fun h => hl (h k (by omega) (by omega)))]
theorem s_19 {d : Nat} {q : QQ} {V : VV} {x1 x2 x3 x4 : Int} (rk : rowok V) (h1 : 0 ≤ x1 ∧ x1 < 32) (h2 : 0 ≤ x2 ∧ x2 < 19) (h3 : 0 ≤ x3 ∧ x3 < 32) (h4 : 0 ≤ x4 ∧ x4 < 19) :
    RUN d 19 (am_en 19 [aR 13 0, aI (iI x1), aI (iI x2), aI (iI x3), aI (iI x4)]) (HM q V) = rI (b2i (clear (V 3 0) x1 x2 x3 x4)) (HM q V) := by
  rw [g_19_0 rk (by omega) (by omega) (by omega)]
  unfold clear
  refine cif_eq (fun c => ?_) (fun c => ?_)
  · rw [lp_19 rk (by omega) (by omega) (by omega) (by intro k a1 a2; omega) 32 1 none (by omega) (by omega) (by omega), if_neg (show ¬ x1 < x3 by omega)]
  · rw [lp_19 rk (by omega) (by omega) (by omega) (by intro k a1 a2; omega) 32 1 none (by omega) (by omega) (by omega), if_pos (show x1 < x3 by omega)]
