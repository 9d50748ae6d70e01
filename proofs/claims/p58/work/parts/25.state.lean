/-! what a row of towers is: the class's cells, the model's one row of numbers -/
def rowokF (B : Int) (o g p h m c l lg sd : Int → Int) : Prop :=
  (0 ≤ o 8 ∧ o 8 ≤ 8) ∧ (-9 ≤ o 9 ∧ o 9 ≤ 9) ∧ (∀ j, 0 ≤ j ∧ j < 32 → 0 ≤ g j ∧ g j ≤ 9) ∧ (∀ t, 0 ≤ t ∧ t < 8 → 0 ≤ p t ∧ p t ≤ 31) ∧ (∀ t, 0 ≤ t ∧ t < 8 → 0 ≤ h t ∧ h t ≤ 9) ∧ (∀ t, 0 ≤ t ∧ t < 8 → 0 ≤ m t ∧ m t ≤ 3) ∧
  (∀ t, 0 ≤ t ∧ t < 8 → 0 ≤ c t ∧ c t ≤ B) ∧ (∀ t, 0 ≤ t ∧ t < 8 → 0 ≤ l t ∧ l t ≤ 8) ∧ (∀ i, 0 ≤ i ∧ i < 64 → 0 ≤ lg i ∧ lg i ≤ 65535) ∧ (∀ k, 0 ≤ k ∧ k < 16 → 0 ≤ sd k ∧ sd k ≤ B)
/-- the numbers of the class's row r are within their bounds -/
def rowB (B : Int) (r : Nat) (V : VV) : Prop := rowokF B (V 2 r) (V 3 r) (V 4 r) (V 5 r) (V 6 r) (V 7 r) (V 8 r) (V 9 r) (V 10 r)
def rowok (V : VV) : Prop := rowB 1000000 0 V
section
variable {V : VV}
theorem rk_n (h : rowok V) : 0 ≤ V 2 0 8 ∧ V 2 0 8 ≤ 8 := h.1
theorem rk_w (h : rowok V) : -9 ≤ V 2 0 9 ∧ V 2 0 9 ≤ 9 := h.2.1
theorem rk_3 (h : rowok V) {j : Int} (hj : 0 ≤ j ∧ j < 32) : 0 ≤ V 3 0 j ∧ V 3 0 j ≤ 9 := h.2.2.1 j hj
theorem rk_4 (h : rowok V) {j : Int} (hj : 0 ≤ j ∧ j < 8) : 0 ≤ V 4 0 j ∧ V 4 0 j ≤ 31 := h.2.2.2.1 j hj
theorem rk_5 (h : rowok V) {j : Int} (hj : 0 ≤ j ∧ j < 8) : 0 ≤ V 5 0 j ∧ V 5 0 j ≤ 9 := h.2.2.2.2.1 j hj
theorem rk_6 (h : rowok V) {j : Int} (hj : 0 ≤ j ∧ j < 8) : 0 ≤ V 6 0 j ∧ V 6 0 j ≤ 3 := h.2.2.2.2.2.1 j hj
theorem rk_7 (h : rowok V) {j : Int} (hj : 0 ≤ j ∧ j < 8) : 0 ≤ V 7 0 j ∧ V 7 0 j ≤ 1000000 := h.2.2.2.2.2.2.1 j hj
theorem rk_8 (h : rowok V) {j : Int} (hj : 0 ≤ j ∧ j < 8) : 0 ≤ V 8 0 j ∧ V 8 0 j ≤ 8 := h.2.2.2.2.2.2.2.1 j hj
theorem rk_9 (h : rowok V) {j : Int} (hj : 0 ≤ j ∧ j < 64) : 0 ≤ V 9 0 j ∧ V 9 0 j ≤ 65535 := h.2.2.2.2.2.2.2.2.1 j hj
theorem rk_10 (h : rowok V) {j : Int} (hj : 0 ≤ j ∧ j < 16) : 0 ≤ V 10 0 j ∧ V 10 0 j ≤ 1000000 := h.2.2.2.2.2.2.2.2.2 j hj
end
/-- a number of a tower in the model's row: 0 position, 1 height, 2 mood, 3 count, 4 letters, 5.. the letters, the latest first -/
def tw (s : Int → Int) (t w : Int) : Int := s (50 + 13 * t + w)
/-- the model's row is within its bounds -/
def sokB (B : Int) (s : Int → Int) : Prop :=
  (-9 ≤ s 0 ∧ s 0 ≤ 9) ∧ (0 ≤ s 1 ∧ s 1 ≤ 8) ∧ (∀ j, 0 ≤ j ∧ j < 32 → 0 ≤ s (2 + j) ∧ s (2 + j) ≤ 9) ∧ (∀ k, 0 ≤ k ∧ k < 16 → 0 ≤ s (34 + k) ∧ s (34 + k) ≤ B) ∧ (∀ t, 0 ≤ t ∧ t < 8 → 0 ≤ tw s t 0 ∧ tw s t 0 ≤ 31) ∧ (∀ t, 0 ≤ t ∧ t < 8 → 0 ≤ tw s t 1 ∧ tw s t 1 ≤ 9) ∧
  (∀ t, 0 ≤ t ∧ t < 8 → 0 ≤ tw s t 2 ∧ tw s t 2 ≤ 3) ∧ (∀ t, 0 ≤ t ∧ t < 8 → 0 ≤ tw s t 3 ∧ tw s t 3 ≤ B) ∧ (∀ t, 0 ≤ t ∧ t < 8 → 0 ≤ tw s t 4 ∧ tw s t 4 ≤ 8) ∧ (∀ t i, 0 ≤ t ∧ t < 8 → 0 ≤ i ∧ i < 8 → 0 ≤ tw s t (5 + i) ∧ tw s t (5 + i) ≤ 65535)
def sok (s : Int → Int) : Prop := sokB 1000000 s
section
variable {s : Int → Int}
theorem mk_w (h : sok s) : -9 ≤ s 0 ∧ s 0 ≤ 9 := h.1
theorem mk_n (h : sok s) : 0 ≤ s 1 ∧ s 1 ≤ 8 := h.2.1
theorem mk_g (h : sok s) {j : Int} (hj : 0 ≤ j ∧ j < 32) : 0 ≤ s (2 + j) ∧ s (2 + j) ≤ 9 := h.2.2.1 j hj
theorem mk_s (h : sok s) {j : Int} (hj : 0 ≤ j ∧ j < 16) : 0 ≤ s (34 + j) ∧ s (34 + j) ≤ 1000000 := h.2.2.2.1 j hj
theorem mk_t0 (h : sok s) {t : Int} (ht : 0 ≤ t ∧ t < 8) : 0 ≤ tw s t 0 ∧ tw s t 0 ≤ 31 := h.2.2.2.2.1 t ht
theorem mk_t1 (h : sok s) {t : Int} (ht : 0 ≤ t ∧ t < 8) : 0 ≤ tw s t 1 ∧ tw s t 1 ≤ 9 := h.2.2.2.2.2.1 t ht
theorem mk_t2 (h : sok s) {t : Int} (ht : 0 ≤ t ∧ t < 8) : 0 ≤ tw s t 2 ∧ tw s t 2 ≤ 3 := h.2.2.2.2.2.2.1 t ht
theorem mk_t3 (h : sok s) {t : Int} (ht : 0 ≤ t ∧ t < 8) : 0 ≤ tw s t 3 ∧ tw s t 3 ≤ 1000000 := h.2.2.2.2.2.2.2.1 t ht
theorem mk_t4 (h : sok s) {t : Int} (ht : 0 ≤ t ∧ t < 8) : 0 ≤ tw s t 4 ∧ tw s t 4 ≤ 8 := h.2.2.2.2.2.2.2.2.1 t ht
theorem mk_t5 (h : sok s) {t i : Int} (ht : 0 ≤ t ∧ t < 8) (hi : 0 ≤ i ∧ i < 8) : 0 ≤ tw s t (5 + i) ∧ tw s t (5 + i) ≤ 65535 := h.2.2.2.2.2.2.2.2.2 t i ht hi
end
/-- nothing between two heights at two positions reaches up to the line between them -/
def clear (g : Int → Int) (a ha b hb : Int) : Prop := ∀ k : Int, 1 ≤ k → k < max (b - a) (-(b - a)) → g (a + (if a < b then 1 else -1) * k) * max (b - a) (-(b - a)) < ha * (max (b - a) (-(b - a)) - k) + hb * k
theorem mul_b {a b A B : Int} (h1 : 0 ≤ a ∧ a ≤ A) (h2 : 0 ≤ b ∧ b ≤ B) : 0 ≤ a * b ∧ a * b ≤ A * B :=
  ⟨Int.mul_nonneg h1.1 h2.1, Int.mul_le_mul h1.2 h2.2 h2.1 (Int.le_trans h1.1 h1.2)⟩
