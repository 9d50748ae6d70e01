/-! one call on both sides -/
def cmL : List (Nat × Int) → Nat → Int
  | [], _ => 0
  | (a, c) :: r, j => if j = a then c else cmL r j
def qst (q q' : QQ) : Prop := qle q q' ∧ (q'.2.1.1 ≤ q.2.1.1 + 1 ∧ q'.2.1.2 ≤ q.2.1.2 + 32) ∧ q'.1 = q.1 ∧ q'.2.2 = q.2.2
theorem qst_refl (q : QQ) : qst q q := ⟨qle_refl q, ⟨by omega, by omega⟩, rfl, rfl⟩
theorem qst_thr (q : QQ) : qst q (thr q) := ⟨qle_thr q, ⟨Nat.le_refl _, by show q.2.1.2 + 6 ≤ _; omega⟩, rfl, rfl⟩
theorem qst_X (q : QQ) : qst q (qX q) := ⟨⟨Nat.le_succ _, Nat.le_add_right _ _⟩, ⟨Nat.le_refl _, Nat.le_refl _⟩, rfl, rfl⟩
/-- what the class's call came to: its answer, or what it threw -/
def Oc (r : Option (Out × AH)) (cm : Nat → Int) (q : QQ) (k v : Int) (U : VV) : Prop := (k = 0 ∧ r = rI v (HM q U)) ∨ (1 ≤ k ∧ k ≤ 3 ∧ ∃ j, Nat.blt j 6 = true ∧ cm j = k ∧ r = rX j (HM (thr q) U))
/-- the model's call behind it -/
def Aft (B : Int) (D z : Nat) (bs : List AV) (k v : Int) (U : VV) : Prop := ∀ q : QQ, 149 ≤ q.2.1.1 → ∃ q' m V, qst q q' ∧ RUN D z (am_en z bs) (HM q U) = rI m (HM q' V) ∧ V 33 0 6 = k ∧ (k = 0 → m = v) ∧ CR (B + 100) V V
def OP (B : Int) (D y : Nat) (as : List AV) (cm : Nat → Int) (z : Nat) (bs : List AV) (H : VV) : Prop := ∀ q : QQ, ∃ k v U, Oc (RUN D y (am_en y as) (HM q H)) cm q k v U ∧ Aft B D z bs k v U
section
variable {B : Int} {D y z : Nat} {as bs : List AV} {cm : Nat → Int} {H U V : VV} {v m k : Int} {j : Nat}
theorem OP_ok (hc : ∀ q, RUN D y (am_en y as) (HM q H) = rI v (HM q U)) (hm : ∀ q, RUN D z (am_en z bs) (HM q U) = rI m (HM q V)) (hv : m = v) (h6 : V 33 0 6 = 0) (cr : CR (B + 100) V V) : OP B D y as cm z bs H :=
  fun q => ⟨0, v, U, Or.inl ⟨rfl, hc q⟩, fun q' _ => ⟨q', m, V, qst_refl q', hm q', h6, fun _ => hv, cr⟩⟩
theorem OP_ex (hc : ∀ q, RUN D y (am_en y as) (HM q H) = rX j (HM (thr q) U)) (hj : Nat.blt j 6 = true) (hk : cm j = k) (hk1 : 1 ≤ k ∧ k ≤ 3) (hm : ∀ q, RUN D z (am_en z bs) (HM q U) = rI m (HM q V)) (h6 : V 33 0 6 = k) (cr : CR (B + 100) V V) : OP B D y as cm z bs H :=
  fun q => ⟨k, 0, U, Or.inr ⟨hk1.1, hk1.2, j, hj, hk, hc q⟩, fun q' _ => ⟨q', m, V, qst_refl q', hm q', h6, fun z => absurd z (by omega), cr⟩⟩
theorem eqU_up {a b : Nat} {e x : Int} (h : 33 ≤ a) : eqU U (upV U a b e x) := fun a' b' z => upV_off2 (by omega)
theorem eqV_refl (U : VV) : eqV U U := fun _ _ _ => rfl
theorem eqU_refl (U : VV) : eqU U U := fun _ _ _ => rfl
theorem CR_end (h : CR B H H) (k1 : kpU H U) (rl : relok U) (e1 : eqV H U) (k2 : kpV U V) (e2 : eqU U V) : CR (B + 100) V V :=
  CR_mono (CR_eqU (CR_V (CR_eqV (CR_U h k1 rl) e1) k2) e2) (by omega)
theorem CR_6 (h : CR B H H) {x : Int} : CR (B + 100) (upV H 33 0 6 x) (upV H 33 0 6 x) := CR_end h (kpU_refl H) h.2.2.1 (eqV_refl H) kpV_6 (eqU_up (by decide))
theorem CR_rk (h : CR B U V) (hB : B ≤ 999990) : rowok U := rowok_of h.1.1 (by omega)
theorem CR_mr (h : CR B U V) : MR V U := h.2.1
theorem CR_rl (h : CR B U V) : relok U := h.2.2.1
theorem CR_sm (h : CR B U V) : smok U := h.2.2.2.1
theorem CR_ho (h : CR B U V) : hisok U := h.2.2.2.2.1.1
theorem CR_d (h : CR B U V) : distR 0 U := h.1.2.1
theorem smok_eq {W : VV} (h : W 23 0 = U 23 0) (k : smok U) : smok W := by
  unfold smok; rw [h]; exact k
end
