/-! a row is copied to a row -/
theorem cond_off {a a' b b' : Nat} (h : a' ≠ a ∨ b' ≠ b) : (Nat.beq a' a && Nat.beq b' b) = false := by
  cases k1 : Nat.beq a' a with
  | false => rfl
  | true =>
    cases k2 : Nat.beq b' b with
    | false => rfl
    | true =>
      rcases h with h | h
      · exact absurd (Nat.eq_of_beq_eq_true k1) h
      · exact absurd (Nat.eq_of_beq_eq_true k2) h
theorem cond_on (a b : Nat) : (Nat.beq a a && Nat.beq b b) = true := by rw [Nat.beq_refl, Nat.beq_refl]; rfl
theorem cpV_off {V : VV} {a b a0 b0 : Nat} {sp dp n : Int} {a' b' : Nat} (h : a' ≠ a ∨ b' ≠ b) : cpV V a b a0 b0 sp dp n a' b' = V a' b' := by
  funext j
  show cond (Nat.beq a' a && Nat.beq b' b) _ _ = _
  rw [cond_off h]
  rfl
theorem cpV_at {V : VV} {a b a0 b0 : Nat} {n j : Int} (h : 0 ≤ j ∧ j < n) : cpV V a b a0 b0 0 0 n a b j = V a0 b0 j := by
  show cond (Nat.beq a a && Nat.beq b b) _ _ = _
  rw [cond_on]
  show (if 0 ≤ j ∧ j < 0 + n then V a0 b0 (0 + (j - 0)) else _) = _
  rw [if_pos (by omega), show (0 : Int) + (j - 0) = j by omega]
theorem upV_at {V : VV} {a b : Nat} {e v j : Int} : upV V a b e v a b j = if j = e then v else V a b j := by
  show cond (Nat.beq a a && Nat.beq b b) _ _ = _
  rw [cond_on]
  rfl
/-- the arrays of row s are in row r -/
def copyA (V : VV) (r s : Nat) : VV := (cpV (cpV (cpV (cpV (cpV (cpV (cpV (cpV V 3 r 3 s 0 0 32) 4 r 4 s 0 0 8) 5 r 5 s 0 0 8) 6 r 6 s 0 0 8) 7 r 7 s 0 0 8) 8 r 8 s 0 0 8) 9 r 9 s 0 0 64) 10 r 10 s 0 0 16)
def copyW (V : VV) (r s : Nat) : VV := upV (copyA V r s) 2 r 8 (copyA V r s 2 s 8)
/-- the row s is in the row r -/
def copyV (V : VV) (r s : Nat) : VV := upV (copyW V r s) 2 r 9 (copyW V r s 2 s 9)
theorem s_54 {d : Nat} {q : QQ} {V : VV} {r s : Nat} (hr : r < 11) (hs : s < 11) : RUN d 54 (am_en 54 [aR 2 r, aR 2 s]) (HM q V) = rV (HM q (copyV V r s)) :=
  (show RUN d 54 (0, [sR 2 r, sR 2 s], []) (HM q V) = _ from Eq.trans (k_aload rfl rfl) (Eq.trans (k_getfr rfl (am_S0_2 hs) rfl) (Eq.trans (k_pushi 0 rfl rfl) (Eq.trans (k_aload rfl rfl) (Eq.trans (k_getfr rfl (am_S0_2 hr) rfl) (Eq.trans (k_pushi 0 rfl rfl) (Eq.trans (k_pushi 32 rfl rfl) (Eq.trans (k_acpy (n1 := 32) (n0 := 32) rfl rfl (am_S0_r (n := 32) hr (by decide)) (am_S0_r (n := 32) hs (by decide)) (by decide) (by decide) (by decide) (by decide) (by decide)) (Eq.trans (k_aload rfl rfl) (Eq.trans (k_getfr rfl (am_S0_2 hs) rfl) (Eq.trans (k_pushi 0 rfl rfl) (Eq.trans (k_aload rfl rfl) (Eq.trans (k_getfr rfl (am_S0_2 hr) rfl) (Eq.trans (k_pushi 0 rfl rfl) (Eq.trans (k_pushi 8 rfl rfl) (Eq.trans (k_acpy (n1 := 8) (n0 := 8) rfl rfl (am_S0_r (n := 8) hr (by decide)) (am_S0_r (n := 8) hs (by decide)) (by decide) (by decide) (by decide) (by decide) (by decide)) (Eq.trans (k_aload rfl rfl) (Eq.trans (k_getfr rfl (am_S0_2 hs) rfl) (Eq.trans (k_pushi 0 rfl rfl) (Eq.trans (k_aload rfl rfl) (Eq.trans (k_getfr rfl (am_S0_2 hr) rfl) (Eq.trans (k_pushi 0 rfl rfl) (Eq.trans (k_pushi 8 rfl rfl) (Eq.trans (k_acpy (n1 := 8) (n0 := 8) rfl rfl (am_S0_r (n := 8) hr (by decide)) (am_S0_r (n := 8) hs (by decide)) (by decide) (by decide) (by decide) (by decide) (by decide)) (Eq.trans (k_aload rfl rfl) (Eq.trans (k_getfr rfl (am_S0_2 hs) rfl) (Eq.trans (k_pushi 0 rfl rfl) (Eq.trans (k_aload rfl rfl) (Eq.trans (k_getfr rfl (am_S0_2 hr) rfl) (Eq.trans (k_pushi 0 rfl rfl) (Eq.trans (k_pushi 8 rfl rfl) (Eq.trans (k_acpy (n1 := 8) (n0 := 8) rfl rfl (am_S0_r (n := 8) hr (by decide)) (am_S0_r (n := 8) hs (by decide)) (by decide) (by decide) (by decide) (by decide) (by decide)) (Eq.trans (k_aload rfl rfl) (Eq.trans (k_getfr rfl (am_S0_2 hs) rfl) (Eq.trans (k_pushi 0 rfl rfl) (Eq.trans (k_aload rfl rfl) (Eq.trans (k_getfr rfl (am_S0_2 hr) rfl) (Eq.trans (k_pushi 0 rfl rfl) (Eq.trans (k_pushi 8 rfl rfl) (Eq.trans (k_acpy (n1 := 8) (n0 := 8) rfl rfl (am_S0_r (n := 8) hr (by decide)) (am_S0_r (n := 8) hs (by decide)) (by decide) (by decide) (by decide) (by decide) (by decide)) (Eq.trans (k_aload rfl rfl) (Eq.trans (k_getfr rfl (am_S0_2 hs) rfl) (Eq.trans (k_pushi 0 rfl rfl) (Eq.trans (k_aload rfl rfl) (Eq.trans (k_getfr rfl (am_S0_2 hr) rfl) (Eq.trans (k_pushi 0 rfl rfl) (Eq.trans (k_pushi 8 rfl rfl) (Eq.trans (k_acpy (n1 := 8) (n0 := 8) rfl rfl (am_S0_r (n := 8) hr (by decide)) (am_S0_r (n := 8) hs (by decide)) (by decide) (by decide) (by decide) (by decide) (by decide)) (Eq.trans (k_aload rfl rfl) (Eq.trans (k_getfr rfl (am_S0_2 hs) rfl) (Eq.trans (k_pushi 0 rfl rfl) (Eq.trans (k_aload rfl rfl) (Eq.trans (k_getfr rfl (am_S0_2 hr) rfl) (Eq.trans (k_pushi 0 rfl rfl) (Eq.trans (k_pushi 64 rfl rfl) (Eq.trans (k_acpy (n1 := 64) (n0 := 64) rfl rfl (am_S0_r (n := 64) hr (by decide)) (am_S0_r (n := 64) hs (by decide)) (by decide) (by decide) (by decide) (by decide) (by decide)) (Eq.trans (k_aload rfl rfl) (Eq.trans (k_getfr rfl (am_S0_2 hs) rfl) (Eq.trans (k_pushi 0 rfl rfl) (Eq.trans (k_aload rfl rfl) (Eq.trans (k_getfr rfl (am_S0_2 hr) rfl) (Eq.trans (k_pushi 0 rfl rfl) (Eq.trans (k_pushi 16 rfl rfl) (Eq.trans (k_acpy (n1 := 16) (n0 := 16) rfl rfl (am_S0_r (n := 16) hr (by decide)) (am_S0_r (n := 16) hs (by decide)) (by decide) (by decide) (by decide) (by decide) (by decide)) (Eq.trans (k_aload rfl rfl) (Eq.trans (k_aload rfl rfl) (Eq.trans (k_getfi 8 rfl rfl (am_S0_2 hs) rfl) (Eq.trans (k_putfi 8 rfl rfl (am_S0_2 hr) rfl trivial) (Eq.trans (k_aload rfl rfl) (Eq.trans (k_aload rfl rfl) (Eq.trans (k_getfi 9 rfl rfl (am_S0_2 hs) rfl) (Eq.trans (k_putfi 9 rfl rfl (am_S0_2 hr) rfl trivial) (k_ret rfl)))))))))))))))))))))))))))))))))))))))))))))))))))))))))))))))))))))))))
theorem copyA_off {V : VV} {r s a b : Nat} (h : ¬ (3 ≤ a ∧ a ≤ 10) ∨ b ≠ r) : copyA V r s a b = V a b := by
  unfold copyA
  rw [cpV_off (by omega), cpV_off (by omega), cpV_off (by omega), cpV_off (by omega), cpV_off (by omega), cpV_off (by omega), cpV_off (by omega), cpV_off (by omega)]
/-- nothing but row r is another -/
theorem copyV_off {V : VV} {r s a b : Nat} (h : ¬ (2 ≤ a ∧ a ≤ 10) ∨ b ≠ r) : copyV V r s a b = V a b := by
  unfold copyV copyW
  rw [upV_off2 (by omega), upV_off2 (by omega), copyA_off (by omega)]
theorem copyV_3 {V : VV} {r s : Nat} {j : Int} (h : 0 ≤ j ∧ j < 32) : copyV V r s 3 r j = V 3 s j := by
  unfold copyV copyW
  rw [upV_off2 (by omega), upV_off2 (by omega)]
  unfold copyA
  rw [cpV_off (by omega), cpV_off (by omega), cpV_off (by omega), cpV_off (by omega), cpV_off (by omega), cpV_off (by omega), cpV_off (by omega), cpV_at h]
theorem copyV_4 {V : VV} {r s : Nat} {j : Int} (h : 0 ≤ j ∧ j < 8) : copyV V r s 4 r j = V 4 s j := by
  unfold copyV copyW
  rw [upV_off2 (by omega), upV_off2 (by omega)]
  unfold copyA
  rw [cpV_off (by omega), cpV_off (by omega), cpV_off (by omega), cpV_off (by omega), cpV_off (by omega), cpV_off (by omega), cpV_at h, cpV_off (by omega)]
theorem copyV_5 {V : VV} {r s : Nat} {j : Int} (h : 0 ≤ j ∧ j < 8) : copyV V r s 5 r j = V 5 s j := by
  unfold copyV copyW
  rw [upV_off2 (by omega), upV_off2 (by omega)]
  unfold copyA
  rw [cpV_off (by omega), cpV_off (by omega), cpV_off (by omega), cpV_off (by omega), cpV_off (by omega), cpV_at h, cpV_off (by omega), cpV_off (by omega)]
theorem copyV_6 {V : VV} {r s : Nat} {j : Int} (h : 0 ≤ j ∧ j < 8) : copyV V r s 6 r j = V 6 s j := by
  unfold copyV copyW
  rw [upV_off2 (by omega), upV_off2 (by omega)]
  unfold copyA
  rw [cpV_off (by omega), cpV_off (by omega), cpV_off (by omega), cpV_off (by omega), cpV_at h, cpV_off (by omega), cpV_off (by omega), cpV_off (by omega)]
theorem copyV_7 {V : VV} {r s : Nat} {j : Int} (h : 0 ≤ j ∧ j < 8) : copyV V r s 7 r j = V 7 s j := by
  unfold copyV copyW
  rw [upV_off2 (by omega), upV_off2 (by omega)]
  unfold copyA
  rw [cpV_off (by omega), cpV_off (by omega), cpV_off (by omega), cpV_at h, cpV_off (by omega), cpV_off (by omega), cpV_off (by omega), cpV_off (by omega)]
theorem copyV_8 {V : VV} {r s : Nat} {j : Int} (h : 0 ≤ j ∧ j < 8) : copyV V r s 8 r j = V 8 s j := by
  unfold copyV copyW
  rw [upV_off2 (by omega), upV_off2 (by omega)]
  unfold copyA
  rw [cpV_off (by omega), cpV_off (by omega), cpV_at h, cpV_off (by omega), cpV_off (by omega), cpV_off (by omega), cpV_off (by omega), cpV_off (by omega)]
theorem copyV_9 {V : VV} {r s : Nat} {j : Int} (h : 0 ≤ j ∧ j < 64) : copyV V r s 9 r j = V 9 s j := by
  unfold copyV copyW
  rw [upV_off2 (by omega), upV_off2 (by omega)]
  unfold copyA
  rw [cpV_off (by omega), cpV_at h, cpV_off (by omega), cpV_off (by omega), cpV_off (by omega), cpV_off (by omega), cpV_off (by omega), cpV_off (by omega)]
theorem copyV_10 {V : VV} {r s : Nat} {j : Int} (h : 0 ≤ j ∧ j < 16) : copyV V r s 10 r j = V 10 s j := by
  unfold copyV copyW
  rw [upV_off2 (by omega), upV_off2 (by omega)]
  unfold copyA
  rw [cpV_at h, cpV_off (by omega), cpV_off (by omega), cpV_off (by omega), cpV_off (by omega), cpV_off (by omega), cpV_off (by omega), cpV_off (by omega)]
theorem copyV_8f {V : VV} {r s : Nat} : copyV V r s 2 r 8 = V 2 s 8 := by
  unfold copyV
  rw [upV_at, if_neg (by decide)]
  unfold copyW
  rw [upV_at, if_pos rfl, copyA_off (by omega)]
theorem copyV_9f {V : VV} {r s : Nat} (h : r ≠ s) : copyV V r s 2 r 9 = V 2 s 9 := by
  unfold copyV
  rw [upV_at, if_pos rfl]
  unfold copyW
  rw [upV_off2 (by omega), copyA_off (by omega)]
theorem rowB_copy {V : VV} {r s : Nat} {B : Int} (h : rowB B s V) (hrs : r ≠ s) : rowB B r (copyV V r s) := by
  refine ⟨?_, ?_, fun j hj => ?_, fun j hj => ?_, fun j hj => ?_, fun j hj => ?_, fun j hj => ?_, fun j hj => ?_, fun j hj => ?_, fun j hj => ?_⟩
  · rw [copyV_8f]; exact h.1
  · rw [copyV_9f hrs]; exact h.2.1
  · rw [copyV_3 hj]; exact h.2.2.1 j hj
  · rw [copyV_4 hj]; exact h.2.2.2.1 j hj
  · rw [copyV_5 hj]; exact h.2.2.2.2.1 j hj
  · rw [copyV_6 hj]; exact h.2.2.2.2.2.1 j hj
  · rw [copyV_7 hj]; exact h.2.2.2.2.2.2.1 j hj
  · rw [copyV_8 hj]; exact h.2.2.2.2.2.2.2.1 j hj
  · rw [copyV_9 hj]; exact h.2.2.2.2.2.2.2.2.1 j hj
  · rw [copyV_10 hj]; exact h.2.2.2.2.2.2.2.2.2 j hj
theorem rowB_off {V W : VV} {r : Nat} {B : Int} (h : ∀ a, 2 ≤ a → a ≤ 10 → W a r = V a r) (rb : rowB B r V) : rowB B r W := by
  unfold rowB
  rw [h 2 (by decide) (by decide), h 3 (by decide) (by decide), h 4 (by decide) (by decide), h 5 (by decide) (by decide), h 6 (by decide) (by decide), h 7 (by decide) (by decide), h 8 (by decide) (by decide), h 9 (by decide) (by decide), h 10 (by decide) (by decide)]
  exact rb
