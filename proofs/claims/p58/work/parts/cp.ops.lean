/-! calls that change the row: refused they leave it, done they can be undone -/
def LQ (B : Int) (V : VV) : Prop := RI B 0 V ∧ smok V ∧ hisok V ∧ relok V ∧ outok V ∧ inok V
theorem LQ.lw {B : Int} {V : VV} (h : LQ B V) (hB : B ≤ 1000000) : LW V := ⟨rowB_mono h.1.1 hB, h.2.1, h.1.2.1, h.2.2.1, h.2.2.2⟩
theorem LQ.mono {B C : Int} {V : VV} (h : LQ B V) (hB : B ≤ C) : LQ C V := ⟨RI_mono h.1 hB, h.2⟩
theorem LQ.of_kp {n0 : Nat} {B : Int} {V W : VV} (h : LQ B V) (k : kp n0 V W) : LQ B W := by
  refine ⟨RI_off (fun a z1 z2 => by rw [k.1 a z1 (by omega)]) h.1, smok_eq (by rw [k.2.1]) h.2.1, ?_, k.2.2.2⟩
  have := h.2.2.1
  unfold hisok at this ⊢
  rw [k.1 11 (by decide) (by decide)]
  exact this
def stay (V W : VV) : Prop := rowEq W 0 V 0 ∧ W 11 0 = V 11 0 ∧ ∀ a b, 2 ≤ a → a ≤ 10 → 3 ≤ b → W a b = V a b
def slot (V : VV) : Nat := (V 11 0 1).toNat + 3
def pushd (V W : VV) : Prop := (W 11 0 1 = (V 11 0 1 + 1) % 8 ∧ W 11 0 2 = min (V 11 0 2 + 1) 8) ∧ rowEq W (slot V) V 0 ∧ ∀ a b, 2 ≤ a → a ≤ 10 → 3 ≤ b → ¬ b = slot V → W a b = V a b
def k46 (n0 : Nat) (V W : VV) : Prop := ∀ x, x < n0 → W 46 x = V 46 x
theorem k46.refl {n0 : Nat} {V : VV} : k46 n0 V V := fun _ _ => rfl
theorem k46.trans {n0 : Nat} {U V W : VV} (h : k46 n0 U V) (k : k46 n0 V W) : k46 n0 U W := fun x hx => (k x hx).trans (h x hx)
theorem stay_refl (V : VV) : stay V V := ⟨rowEq.refl V 0, rfl, fun _ _ _ _ _ => rfl⟩
theorem keep_slot {V : VV} {r : Nat} (hr : r < 3) : rowEq (keepV V r) (slot V) V r := by
  refine rowEq.trans (rowEq_of (fun a z1 z2 => ?_)) (rowEq_copy (V := V) (r := slot V) (s := r) (by unfold slot; omega))
  unfold keepV keepW
  rw [upV_off2 (by omega), upV_off2 (by omega)]
  rfl
theorem push_of {V U W : VV} {r : Nat} (hr : r < 3) (h1 : rowEq U r V 0) (h2 : U 11 0 = V 11 0) (h3 : ∀ a b, 2 ≤ a → a ≤ 10 → 3 ≤ b → U a b = V a b) (w1 : W 11 0 = keepV U r 11 0) (w2 : ∀ a b, 2 ≤ a → a ≤ 10 → 3 ≤ b → W a b = keepV U r a b) : pushd V W := by
  have hs : slot U = slot V := by
    unfold slot
    rw [h2]
  refine ⟨⟨?_, ?_⟩, ?_, fun a b z1 z2 z3 z4 => ?_⟩
  · rw [w1, keepV_1, h2]
  · rw [w1, keepV_2, h2]
  · refine (rowEq_of (fun a z1 z2 => w2 a _ z1 z2 (by unfold slot; omega))).trans ?_
    rw [← hs]
    exact (keep_slot hr).trans h1
  · rw [w2 a b z1 z2 z3, keepV_off (by omega) (Or.inr (by unfold slot at z4; rw [h2]; exact z4))]
    exact h3 a b z1 z2 z3
/-- what the letters of the logs are -/
def lgA (V : VV) : Prop := ∀ j, 0 ≤ j ∧ j < 64 → 0 ≤ V 9 0 j ∧ V 9 0 j < 128
/-- what the law's texts know of the object beside -/
def XQ (V : VV) : Prop := lgA V ∧ ∀ t, 0 ≤ t ∧ t < V 2 0 8 → 1 ≤ V 5 0 t
theorem XQ_eq {V W : VV} (h2 : W 2 0 8 = V 2 0 8) (h9 : W 9 0 = V 9 0) (h5 : W 5 0 = V 5 0) (h : XQ V) : XQ W := by
  unfold XQ lgA
  rw [h2, h9, h5]
  exact h
/-- how such a call ends -/
def OPd (m : Nat) (C : Int) (n0 : Nat) (q : QQ) (V : VV) (v : Int) (q' : QQ) (W : VV) : Prop := adv m (6 * m) n0 q q' ∧ k46 n0 V W ∧ LQ C W ∧ (((-100 ≤ v ∧ v < 0) ∧ stay V W) ∨ ((0 ≤ v ∧ v < 2147483648) ∧ pushd V W))
section
variable {B : Int} {d n0 : Nat} {q : QQ} {V : VV} {x1 x2 x3 : Int}
theorem op_no (h : LQ B V) {v : Int} (hv : -100 ≤ v ∧ v < 0) : OPd 1 B n0 q V v (thr q) V := ⟨adv_thr q, k46.refl, h, Or.inl ⟨hv, stay_refl V⟩⟩
theorem RI_keep0 {r : Nat} (h : RI B 0 V) : RI B 0 (keepV V r) := RI_off (fun a z1 z2 => keepV_off (by omega) (Or.inr (by omega))) h
theorem LQ_keep (h : LQ B V) {r : Nat} : LQ B (keepV V r) := by
  obtain ⟨h1, h2, h3, h4, h5, h6⟩ := h
  refine ⟨RI_keep0 h1, smok_eq (keepV_off (by decide) (by omega)) h2, hisok_keep h3, relok_eq (fun a b z1 z2 => keepV_off (by omega) (by omega)) h4, ?_, ?_⟩
  · unfold outok
    rw [keepV_off (a := 31) (by decide) (by omega)]
    exact h5
  · unfold inok
    rw [keepV_off (a := 27) (by decide) (by omega), keepV_off (a := 28) (by decide) (by omega)]
    exact h6
theorem LQ_up {A : Nat} {e v : Int} (h : LQ B V) (hA : 2 ≤ A ∧ A ≤ 10) (hr : RI B 0 (upV V A 0 e v)) : LQ B (upV V A 0 e v) := by
  obtain ⟨h1, h2, h3, h4, h5, h6⟩ := h
  refine ⟨hr, smok_eq (upV_off2 (by omega)) h2, ?_, relok_eq (fun a b z1 z2 => upV_off2 (by omega)) h4, ?_, ?_⟩
  · unfold hisok
    rw [upV_off2 (a' := 11) (by omega)]
    exact h3
  · unfold outok
    rw [upV_off2 (a' := 31) (by omega)]
    exact h5
  · unfold inok
    rw [upV_off2 (a' := 27) (by omega), upV_off2 (a' := 28) (by omega)]
    exact h6
theorem push_up {A : Nat} {e v : Int} (hA : 2 ≤ A ∧ A ≤ 10) : pushd V (upV (keepV V 0) A 0 e v) :=
  push_of (U := V) (r := 0) (by decide) (rowEq.refl V 0) rfl (fun _ _ _ _ _ => rfl) (upV_off2 (by omega)) (fun a b z1 z2 z3 => upV_off2 (by omega))
theorem k46_keep {r : Nat} : k46 n0 V (keepV V r) := fun x _ => keepV_off (by decide) (by omega)
theorem k46_up {A b : Nat} {e v : Int} (hA : A ≤ 45) : k46 n0 V (upV V A b e v) := fun x _ => upV_off2 (by omega)
theorem op_310 (h : LQ B V) (hB : B ≤ 1000000) (h1 : R32 x1) (h2 : R32 x2) : ∃ v q' W, RUN (d + 3) 310 (am_en 310 [aR 1 0, aI (iI x1), aI (iI x2)]) (HM q V) = rI v (HM q' W) ∧ OPd 1 B n0 q V v q' W ∧ ((0 ≤ x1 ∧ x1 < 32) → (0 ≤ x2 ∧ x2 ≤ 9) → 0 ≤ v ∧ W 2 0 8 = V 2 0 8 ∧ W 2 0 9 = V 2 0 9 ∧ (XQ V → XQ W)) := by
  have rk := (h.lw hB).1
  have e := e_310 (d := d) (q := q) rk h.2.2.1 h1 h2
  by_cases c : (0 ≤ x1 ∧ x1 < 32) ∧ 0 ≤ x2 ∧ x2 ≤ 9
  · rw [cif_pos c] at e
    have b3 := rk_3 rk c.1
    have k2 : keepV V 0 2 0 = V 2 0 := keepV_off (by decide) (by omega)
    refine ⟨_, q, _, e, ⟨adv_refl q, k46_keep.trans (k46_up (by decide)), LQ_up (LQ_keep h) (by decide) (RI_ground (RI_keep0 h.1) c.2), Or.inr ⟨by omega, push_up (by decide)⟩⟩, fun _ _ => ⟨b3.1, ?_, ?_, XQ_eq ?_ ?_ ?_⟩⟩
    · rw [upV_off2 (by omega), k2]
    · rw [upV_off2 (by omega), k2]
    · rw [upV_off2 (by omega), k2]
    · rw [upV_off2 (by omega), keepV_off (by decide) (by omega)]
    · rw [upV_off2 (by omega), keepV_off (by decide) (by omega)]
  · rw [cif_neg c] at e
    exact ⟨_, _, _, e, op_no h (by decide), fun z1 z2 => absurd ⟨z1, z2⟩ c⟩
theorem op_394 (h : LQ B V) (hB : B ≤ 1000000) (h1 : R32 x1) (h2 : R32 x2) : ∃ v q' W, RUN (d + 3) 394 (am_en 394 [aR 1 0, aI (iI x1), aI (iI x2)]) (HM q V) = rI v (HM q' W) ∧ OPd 1 B n0 q V v q' W := by
  have rk := (h.lw hB).1
  have hn := rk_n rk
  have e := e_394 (d := d) (q := q) rk h.2.2.1 h1 h2
  by_cases c : 0 ≤ x1 ∧ x1 < V 2 0 8
  · rw [cif_pos c] at e
    by_cases c2 : 0 ≤ x2 ∧ x2 < 4
    · rw [cif_pos c2] at e
      have b6 := rk_6 rk (j := x1) (by omega)
      exact ⟨_, q, _, e, adv_refl q, k46_keep.trans (k46_up (by decide)), LQ_up (LQ_keep h) (by decide) (RI_mood (RI_keep0 h.1) c2), Or.inr ⟨by omega, push_up (by decide)⟩⟩
    · rw [cif_neg c2] at e
      exact ⟨_, _, _, e, op_no h (by decide)⟩
  · rw [cif_neg c] at e
    exact ⟨_, _, _, e, op_no h (by decide)⟩
theorem op_312 (h : LQ B V) (hB : B ≤ 1000000) (h1 : R32 x1) : ∃ v q' W, RUN (d + 3) 312 (am_en 312 [aR 1 0, aI (iI x1)]) (HM q V) = rI v (HM q' W) ∧ OPd 1 B n0 q V v q' W ∧ ((-9 ≤ x1 ∧ x1 ≤ 9) → v = V 2 0 9 + 100 ∧ W 2 0 8 = V 2 0 8 ∧ (XQ V → XQ W)) := by
  have rk := (h.lw hB).1
  have hw := rk_w rk
  have e := e_312 (d := d) (q := q) rk h.2.2.1 h1
  by_cases c : -9 ≤ x1 ∧ x1 ≤ 9
  · rw [cif_pos c] at e
    refine ⟨_, q, _, e, ⟨adv_refl q, k46_keep.trans (k46_up (by decide)), LQ_up (LQ_keep h) (by decide) (RI_wind (RI_keep0 h.1) c), Or.inr ⟨by omega, push_up (by decide)⟩⟩, fun _ => ⟨rfl, ?_, XQ_eq ?_ ?_ ?_⟩⟩
    · rw [upV_at, if_neg (by decide), keepV_off (by decide) (by omega)]
    · rw [upV_at, if_neg (by decide), keepV_off (by decide) (by omega)]
    · rw [upV_off2 (by omega), keepV_off (by decide) (by omega)]
    · rw [upV_off2 (by omega), keepV_off (by decide) (by omega)]
  · rw [cif_neg c] at e
    exact ⟨_, _, _, e, op_no h (by decide), fun z => absurd z c⟩
theorem op_311 (h : LQ B V) (hB : B ≤ 1000000) (h1 : R32 x1) (h2 : R32 x2) (h3 : R32 x3) : ∃ v q' W, RUN (d + 3) 311 (am_en 311 [aR 1 0, aI (iI x1), aI (iI x2), aI (iI x3)]) (HM q V) = rI v (HM q' W) ∧ OPd 1 B n0 q V v q' W ∧ ((0 ≤ x1 ∧ x1 < 32) → (1 ≤ x2 ∧ x2 ≤ 9) → (0 ≤ x3 ∧ x3 < 4) → ¬ v = -1 ∧ 1 ≤ W 2 0 8 ∧ W 2 0 9 = V 2 0 9 ∧ (XQ V → XQ W)) := by
  have rk := (h.lw hB).1
  have hn := rk_n rk
  have hk : keepV V 0 2 0 = V 2 0 := keepV_off (by decide) (by omega)
  have hk4 : keepV V 0 4 0 = V 4 0 := keepV_off (by decide) (by omega)
  have e := e_311 (d := d) (q := q) rk h.2.2.1 h1 h2 h3 (fun _ _ => rowB_keep (by decide) rk)
  rw [hk] at e
  by_cases c : (0 ≤ x1 ∧ x1 < 32) ∧ 1 ≤ x2 ∧ x2 ≤ 9 ∧ 0 ≤ x3 ∧ x3 < 4
  · rw [cif_pos c] at e
    by_cases c2 : V 2 0 8 < 8 ∧ fstI (posIs (V 4 0) x1) (V 2 0 8) = -1
    · rw [cif_pos c2, cif_pos c2.1] at e
      have ri := RI_keep0 (r := 0) h.1
      have ra : RI B 0 (upV (upV (upV (upV (keepV V 0) 4 0 (V 2 0 8) x1) 5 0 (V 2 0 8) x2) 6 0 (V 2 0 8) x3) 2 0 8 (V 2 0 8 + 1)) := by
        have := RI_add (U := keepV V 0) ri (a := x1) (b := x2) (c := x3) (by rw [hk]; exact c2.1) c.1 ⟨c.2.1, c.2.2.1⟩ c.2.2.2 (by rw [hk, hk4]; exact c2.2)
        unfold towU at this
        rw [hk] at this
        exact this
      have lk := LQ_keep (r := 0) h
      refine ⟨_, q, _, e, ⟨adv_refl q, ((((k46_keep.trans (k46_up (by decide))).trans (k46_up (by decide))).trans (k46_up (by decide))).trans (k46_up (by decide))), ?_, Or.inr ⟨by omega, ?_⟩⟩, fun _ _ _ => ⟨by omega, ?_, ?_, fun xq => ?_⟩⟩
      · obtain ⟨l1, l2, l3, l4, l5, l6⟩ := lk
        refine ⟨ra, smok_eq (U := keepV V 0) rfl l2, l3, relok_eq (U := keepV V 0) (fun a b z1 z2 => ?_) l4, l5, l6⟩
        rw [upV_off2 (by omega), upV_off2 (by omega), upV_off2 (by omega), upV_off2 (by omega)]
      · refine push_of (U := V) (r := 0) (by decide) (rowEq.refl V 0) rfl (fun _ _ _ _ _ => rfl) ?_ (fun a b z1 z2 z3 => ?_)
        · rw [upV_off2 (by omega), upV_off2 (by omega), upV_off2 (by omega), upV_off2 (by omega)]
        · rw [upV_off2 (by omega), upV_off2 (by omega), upV_off2 (by omega), upV_off2 (by omega)]
      · rw [upV_at, if_pos rfl]
        omega
      · rw [upV_at, if_neg (by decide), upV_off2 (by omega), upV_off2 (by omega), upV_off2 (by omega), hk]
      · refine ⟨fun j hj => ?_, fun t ht => ?_⟩
        · rw [upV_off2 (by omega), upV_off2 (by omega), upV_off2 (by omega), upV_off2 (by omega), keepV_off (by decide) (by omega)]
          exact xq.1 j hj
        · rw [upV_at, if_pos rfl] at ht
          rw [upV_off2 (by omega), upV_off2 (by omega), upV_at]
          by_cases e : t = V 2 0 8
          · rw [if_pos e]
            omega
          · rw [if_neg e, upV_off2 (by omega), keepV_off (by decide) (by omega)]
            exact xq.2 t (by omega)
    · rw [cif_neg c2] at e
      refine ⟨_, _, _, e, op_no h (by decide), fun _ _ _ => ⟨by decide, ?_, rfl, id⟩⟩
      refine Int.not_lt.mp fun z => c2 ⟨by omega, fstI_no fun j j1 j2 => ?_⟩
      omega
  · rw [cif_neg c] at e
    exact ⟨_, _, _, e, op_no h (by decide), fun z1 z2 z3 => absurd ⟨z1, z2.1, z2.2, z3⟩ c⟩
end
