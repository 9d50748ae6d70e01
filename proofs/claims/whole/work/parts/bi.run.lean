/-! the law runs -/
section
variable {d : Nat}
theorem and63 (a : Int) : 0 ≤ bAnd a 63 ∧ bAnd a 63 < 64 := by
  have h := nN_and a 63
  have h63 : nN 63 = 63 := by decide
  rw [h63] at h
  have h2 : nN a &&& 63 ≤ 63 := Nat.and_le_right
  have hR := bAnd_R a 63
  have e := nN_eq (bAnd a 63)
  have hl : -2147483648 ≤ bAnd a 63 ∧ bAnd a 63 < 2147483648 := hR
  clear hR
  rw [h] at e
  omega
theorem law_go : ∀ (n : Nat) (i B : Int) (q : QQ) (H : VV) (a b c : Option AV), 0 ≤ i → (q.1.1 : Int) ≤ i + 4 * n + 3 → q.1.1 < 2147483648 → i ≤ (q.1.1 : Int) → CR B H H → B + 100 * n ≤ 999000 → 149 ≤ q.2.1.1 → ∃ (q' : QQ) (V : VV), qle q q' ∧ (q'.2.1.1 ≤ q.2.1.1 + 2 * n ∧ q'.2.1.2 ≤ q.2.1.2 + 64 * n) ∧ RUN (d + 14) 307 (28, LSa i a b c, []) (HM q H) = rI 1 (HM q' V) := by
  intro n
  induction n with
  | zero =>
    intro i B q H a b c hi hn hn2 hi2 h hB h9
    refine ⟨q, H, qle_refl q, ⟨Nat.le_refl _, Nat.le_refl _⟩, ?_⟩
    exact Eq.trans (k_iload rfl rfl) (Eq.trans (k_aload rfl rfl) (Eq.trans (k_alen0 (b := 0) rfl rfl) (Eq.trans (k_pushi 4 rfl rfl) (Eq.trans (k_bin rfl (iI_sub _ _)) (Eq.trans (Eq.trans (k_icmpc ((q.1.1 : Int) - 4 < i) rfl (iI_lt (by constructor <;> omega) (by constructor <;> omega))) (cif_pos (by omega))) (Eq.trans (k_pushi 1 rfl rfl) (k_iret rfl (iI_bool (Or.inr rfl)))))))))
  | succ n ih =>
    intro i B q H a b c hi hn hn2 hi2 h hB h9
    by_cases e : (q.1.1 : Int) - 4 < i
    · refine ⟨q, H, qle_refl q, ⟨Nat.le_add_right _ _, Nat.le_add_right _ _⟩, ?_⟩
      exact Eq.trans (k_iload rfl rfl) (Eq.trans (k_aload rfl rfl) (Eq.trans (k_alen0 (b := 0) rfl rfl) (Eq.trans (k_pushi 4 rfl rfl) (Eq.trans (k_bin rfl (iI_sub _ _)) (Eq.trans (Eq.trans (k_icmpc ((q.1.1 : Int) - 4 < i) rfl (iI_lt (by constructor <;> omega) (by constructor <;> omega))) (cif_pos e)) (Eq.trans (k_pushi 1 rfl rfl) (k_iret rfl (iI_bool (Or.inr rfl)))))))))
    · obtain ⟨q', V, a', b', c', ⟨u1, u2, u3⟩, k1, k2⟩ := law_at (d := d) (x := bAnd (ag q i 0) 63) (and63 _) h (by omega) h9 (i := i) (by omega) hn2 a b c
      obtain ⟨q2, V2, v1, v2, v3⟩ := ih (i + 4) (B + 100) q' V a' b' c' (by omega) (by rw [u3]; omega) (by rw [u3]; exact hn2) (by rw [u3]; omega) k1 (by omega) (Nat.le_trans h9 u1.1)
      refine ⟨q2, V2, qle_trans u1 v1, ⟨by omega, by omega⟩, ?_⟩
      refine Eq.trans (k_iload rfl rfl) (Eq.trans (k_aload rfl rfl) (Eq.trans (k_alen0 (b := 0) rfl rfl) (Eq.trans (k_pushi 4 rfl rfl) (Eq.trans (k_bin rfl (iI_sub _ _)) (Eq.trans (Eq.trans (k_icmpc ((q.1.1 : Int) - 4 < i) rfl (iI_lt (by constructor <;> omega) (by constructor <;> omega))) (cif_neg e)) (Eq.trans (k_aload rfl rfl) (Eq.trans (k_iload rfl rfl) ?_)))))))
      have e0 : (i : Int) = i + 0 := (Int.add_zero i).symm
      have es : RUN (d + 14) 307 (40, LSa i a b c, [aI (iI i), aR 0 0]) (HM q H) = RUN (d + 14) 307 (41, LSa i a b c, [aI (iI (ag q i 0))]) (HM q H) := by
        have := k_scr (d := d + 14) (y := 307) (pc := 40) (nx := 41) (ls := LSa i a b c) (st := []) (q := q) (q0 := q) (V := H) (i := i) (j := 0) rfl rfl (by omega) hn2
        rw [Int.add_zero] at this
        exact this
      exact Eq.trans es (Eq.trans (k_pushi 63 rfl rfl) (Eq.trans (k_bin (c := bAnd (ag q i 0) 63) rfl (iI_of _).symm) (k2.trans v3)))
end
