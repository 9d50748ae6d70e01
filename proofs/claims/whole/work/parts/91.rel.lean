/-! a row of towers in the class's words and in the model's -/
/-- row r of the class's heap U is the model's row s -/
def SRr (r : Nat) (U : VV) (s : Int → Int) : Prop :=
  (s 0 = U 2 r 9 ∧ s 1 = U 2 r 8) ∧ (∀ j, 0 ≤ j ∧ j < 32 → s (2 + j) = U 3 r j) ∧ (∀ k, 0 ≤ k ∧ k < 16 → s (34 + k) = U 10 r k) ∧ (∀ t, 0 ≤ t ∧ t < 8 → tw s t 0 = U 4 r t ∧ tw s t 1 = U 5 r t ∧ tw s t 2 = U 6 r t ∧ tw s t 3 = U 7 r t ∧ tw s t 4 = U 8 r t) ∧
  (∀ t i, 0 ≤ t ∧ t < 8 → 0 ≤ i ∧ i < U 8 r t → tw s t (5 + i) = U 9 r (8 * t + U 8 r t - 1 - i))
/-- the model's row in V is row 0 of U -/
def MR (V U : VV) : Prop := SRr 0 U (V 34 0)
section
variable {V U : VV}
theorem mr_w (h : MR V U) : V 34 0 0 = U 2 0 9 := h.1.1
theorem mr_n (h : MR V U) : V 34 0 1 = U 2 0 8 := h.1.2
theorem mr_g (h : MR V U) {j : Int} (hj : 0 ≤ j ∧ j < 32) : V 34 0 (2 + j) = U 3 0 j := h.2.1 j hj
theorem mr_g2 (h : MR V U) {a b : Int} (hj : 0 ≤ a + b ∧ a + b < 32) : V 34 0 (2 + a + b) = U 3 0 (a + b) := by
  rw [Int.add_assoc]
  exact h.2.1 (a + b) hj
theorem mr_s (h : MR V U) {j : Int} (hj : 0 ≤ j ∧ j < 16) : V 34 0 (34 + j) = U 10 0 j := h.2.2.1 j hj
theorem mr_s2 (h : MR V U) {j : Int} (hj : 0 ≤ j - 97 ∧ j - 97 < 16) : V 34 0 (34 + j - 97) = U 10 0 (j - 97) := by
  rw [Int.add_sub_assoc]
  exact h.2.2.1 (j - 97) hj
theorem mr_t0 (h : MR V U) {t : Int} (ht : 0 ≤ t ∧ t < 8) : V 34 0 (50 + 13 * t + 0) = U 4 0 t := (h.2.2.2.1 t ht).1
theorem mr_t1 (h : MR V U) {t : Int} (ht : 0 ≤ t ∧ t < 8) : V 34 0 (50 + 13 * t + 1) = U 5 0 t := (h.2.2.2.1 t ht).2.1
theorem mr_t2 (h : MR V U) {t : Int} (ht : 0 ≤ t ∧ t < 8) : V 34 0 (50 + 13 * t + 2) = U 6 0 t := (h.2.2.2.1 t ht).2.2.1
theorem mr_t3 (h : MR V U) {t : Int} (ht : 0 ≤ t ∧ t < 8) : V 34 0 (50 + 13 * t + 3) = U 7 0 t := (h.2.2.2.1 t ht).2.2.2.1
theorem mr_t4 (h : MR V U) {t : Int} (ht : 0 ≤ t ∧ t < 8) : V 34 0 (50 + 13 * t + 4) = U 8 0 t := (h.2.2.2.1 t ht).2.2.2.2
theorem mr_t5 (h : MR V U) {t i : Int} (ht : 0 ≤ t ∧ t < 8) (hi : 0 ≤ i ∧ i < U 8 0 t) : V 34 0 (50 + 13 * t + (5 + i)) = U 9 0 (8 * t + U 8 0 t - 1 - i) := h.2.2.2.2 t i ht hi
end
theorem k_ialdE {d y pc nx a b n : Nat} {ls : List (Option AV)} {st : List AV} {q : QQ} {V : VV} {g : Nat → AV} {e z : Int} (hcd : am_cd y pc = i_iald nx) (hS : am_S0 q.1.1 q.1.2 a b = some (Sum.inl (0, n, g))) (hn : Nat.blt n 2147483648 = true) (he : 0 ≤ e ∧ e < (n : Int)) (hv : V a b e = z) : RUN d y (pc, ls, aI (iI e) :: aR a b :: st) (HM q V) = RUN d y (nx, ls, aI (iI z) :: st) (HM q V) := by
  subst hv
  exact k_iald hcd hS hn he
theorem cif_b0 {α : Type} {P : Prop} {a b : α} : cif (b2i P = 0) a b = cif P b a := by
  by_cases h : P
  · rw [cif_pos h, cif_neg (fun z => b2i_z.mp z h)]
  · rw [cif_neg h, cif_pos (b2i_z.mpr h)]
/-- nobody stands where another one stands -/
def distR (r : Nat) (U : VV) : Prop := ∀ a b, 0 ≤ a ∧ a < U 2 r 8 → 0 ≤ b ∧ b < U 2 r 8 → ¬ a = b → ¬ U 4 r a = U 4 r b
/-- behind the last tower nothing was counted, nothing is logged -/
def zeroR (r : Nat) (U : VV) : Prop := ∀ t, U 2 r 8 ≤ t → t < 8 → U 7 r t = 0 ∧ U 8 r t = 0
/-- row r of the class is in order -/
def RI (B : Int) (r : Nat) (U : VV) : Prop := rowB B r U ∧ distR r U ∧ zeroR r U
