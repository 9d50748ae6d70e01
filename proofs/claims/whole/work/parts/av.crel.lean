/-! the class's state and the model's -/
/-- where the class's history keeps its k-th row -/
def rowH (U : VV) (k : Int) : Nat := ((U 11 0 1 - U 11 0 2 + k) % 8).toNat + 3
def hisR (B : Int) (U V : VV) : Prop := hisok U ∧ U 11 0 2 = V 33 0 5 ∧ ∀ k : Int, 0 ≤ k → k < U 11 0 2 → RI B (rowH U k) U ∧ SRr (rowH U k) U (fun j => V 37 0 (154 * k + j))
def savR (B : Int) (U V : VV) : Prop := U 1 0 10 = V 33 0 3 ∧ (U 1 0 10 = 0 ∨ U 1 0 10 = 1) ∧ (U 1 0 10 = 1 → RI B 2 U ∧ SRr 2 U (V 36 0))
def refR (U V : VV) : Prop := (U 1 0 11 = -1 ∧ V 33 0 7 = 0) ∨ ((U 1 0 11 = 1 ∨ U 1 0 11 = 2) ∧ V 33 0 7 = U 1 0 11 ∧ V 33 0 8 = U 1 0 12)
def errR (U V : VV) : Prop := (U 1 0 13 = V 33 0 20 ∧ -1 ≤ U 1 0 13 ∧ U 1 0 13 ≤ 60) ∧ U 1 0 14 = V 33 0 21 ∧ -1 ≤ U 1 0 14 ∧ U 1 0 14 ≤ 60
def outR (U V : VV) : Prop := ∃ L : List Int, outIs U L ∧ outM V L ∧ ∀ x ∈ L, 0 ≤ x ∧ x < 65536
def inR (U V : VV) : Prop := inok U ∧ U 27 0 4 = V 33 0 17 ∧ ∀ j, 0 ≤ j ∧ j < U 27 0 4 → U 28 0 j = V 42 0 j
def CR (B : Int) (U V : VV) : Prop := RI B 0 U ∧ MR V U ∧ relok U ∧ smok U ∧ hisR B U V ∧ savR B U V ∧ refR U V ∧ errR U V ∧ outR U V ∧ inR U V
/-- the class's cells that the state is of are kept -/
def kpU (U W : VV) : Prop := ∀ a b, ¬ (14 ≤ a ∧ a ≤ 21) → ¬ (24 ≤ a ∧ a ≤ 26) → ¬ (2 ≤ a ∧ a ≤ 10 ∧ b = 1) → a < 33 → W a b = U a b
/-- the model's cells that the state is of are kept -/
def kpV (V W : VV) : Prop := (∀ a b, a = 34 ∨ a = 36 ∨ a = 37 ∨ a = 41 ∨ a = 42 → W a b = V a b) ∧ ∀ j, j = 3 ∨ j = 5 ∨ j = 7 ∨ j = 8 ∨ j = 15 ∨ j = 17 ∨ j = 20 ∨ j = 21 → W 33 0 j = V 33 0 j
section
variable {B C : Int} {U V W : VV}
theorem kpU_refl (U : VV) : kpU U U := fun _ _ _ _ _ _ => rfl
theorem kpV_refl (V : VV) : kpV V V := ⟨fun _ _ _ => rfl, fun _ _ => rfl⟩
theorem kpU_trans {X : VV} (h : kpU U V) (k : kpU V X) : kpU U X := fun a b z1 z2 z3 z4 => (k a b z1 z2 z3 z4).trans (h a b z1 z2 z3 z4)
theorem kpV_trans {X : VV} (h : kpV U V) (k : kpV V X) : kpV U X := ⟨fun a b z => (k.1 a b z).trans (h.1 a b z), fun j z => (k.2 j z).trans (h.2 j z)⟩
theorem kpV_6 {v : Int} : kpV V (upV V 33 0 6 v) := ⟨fun a b h => upV_off2 (by omega), fun j h => by rw [upV_at, if_neg (by omega)]⟩
theorem rowH_b (ho : hisok U) {k : Int} : 3 ≤ rowH U k ∧ rowH U k ≤ 10 := by
  unfold rowH
  omega
theorem hisR_mono (h : hisR B U V) (hB : B ≤ C) : hisR C U V := ⟨h.1, h.2.1, fun k h1 h2 => ⟨RI_mono (h.2.2 k h1 h2).1 hB, (h.2.2 k h1 h2).2⟩⟩
theorem savR_mono (h : savR B U V) (hB : B ≤ C) : savR C U V := ⟨h.1, h.2.1, fun z => ⟨RI_mono (h.2.2 z).1 hB, (h.2.2 z).2⟩⟩
theorem CR_mono (h : CR B U V) (hB : B ≤ C) : CR C U V := by
  obtain ⟨h1, h2, h3, h4, h5, h6, h7, h8, h9, h10⟩ := h
  exact ⟨RI_mono h1 hB, h2, h3, h4, hisR_mono h5 hB, savR_mono h6 hB, h7, h8, h9, h10⟩
theorem hisR_U (h : hisR B U V) (h1 : W 11 0 = U 11 0) (h2 : ∀ a b, 2 ≤ a → a ≤ 10 → 3 ≤ b → W a b = U a b) : hisR B W V := by
  obtain ⟨a1, a2, a3⟩ := h
  have e : ∀ k, rowH W k = rowH U k := fun k => by unfold rowH; rw [h1]
  refine ⟨by unfold hisok; rw [h1]; exact a1, by rw [h1]; exact a2, fun k k1 k2 => ?_⟩
  rw [h1] at k2
  have hb := rowH_b a1 (k := k)
  rw [e]
  exact ⟨RI_off (fun a z1 z2 => h2 a _ z1 z2 hb.1) (a3 k k1 k2).1, SR_off (fun a z1 z2 => h2 a _ z1 z2 hb.1) (a3 k k1 k2).2⟩
theorem hisR_V (h : hisR B U V) (h1 : W 33 0 5 = V 33 0 5) (h2 : W 37 0 = V 37 0) : hisR B U W := by
  obtain ⟨a1, a2, a3⟩ := h
  refine ⟨a1, by rw [h1]; exact a2, ?_⟩
  rw [h2]
  exact a3
theorem savR_U (h : savR B U V) (h1 : W 1 0 10 = U 1 0 10) (h2 : ∀ a, 2 ≤ a → a ≤ 10 → W a 2 = U a 2) : savR B W V := by
  obtain ⟨a1, a2, a3⟩ := h
  refine ⟨by rw [h1]; exact a1, by rw [h1]; exact a2, fun z => ?_⟩
  rw [h1] at z
  exact ⟨RI_off h2 (a3 z).1, SR_off h2 (a3 z).2⟩
theorem savR_V (h : savR B U V) (h1 : W 33 0 3 = V 33 0 3) (h2 : W 36 0 = V 36 0) : savR B U W := by
  obtain ⟨a1, a2, a3⟩ := h
  refine ⟨by rw [h1]; exact a1, a2, ?_⟩
  rw [h2]
  exact a3
theorem refR_U (h : refR U V) (h1 : W 1 0 11 = U 1 0 11) (h2 : W 1 0 12 = U 1 0 12) : refR W V := by
  unfold refR; rw [h1, h2]; exact h
theorem refR_V (h : refR U V) (h1 : W 33 0 7 = V 33 0 7) (h2 : W 33 0 8 = V 33 0 8) : refR U W := by
  unfold refR; rw [h1, h2]; exact h
theorem errR_U (h : errR U V) (h1 : W 1 0 13 = U 1 0 13) (h2 : W 1 0 14 = U 1 0 14) : errR W V := by
  unfold errR; rw [h1, h2]; exact h
theorem errR_V (h : errR U V) (h1 : W 33 0 20 = V 33 0 20) (h2 : W 33 0 21 = V 33 0 21) : errR U W := by
  unfold errR; rw [h1, h2]; exact h
theorem outR_U (h : outR U V) (h1 : W 31 0 = U 31 0) (h2 : W 32 0 = U 32 0) : outR W V := by
  unfold outR outIs; rw [h1, h2]; exact h
theorem outR_V (h : outR U V) (h1 : W 33 0 15 = V 33 0 15) (h2 : W 41 0 = V 41 0) : outR U W := by
  unfold outR outM; rw [h1, h2]; exact h
theorem inR_U (h : inR U V) (h1 : W 27 0 = U 27 0) (h2 : W 28 0 = U 28 0) : inR W V := by
  unfold inR inok; rw [h1, h2]; exact h
theorem inR_V (h : inR U V) (h1 : W 33 0 17 = V 33 0 17) (h2 : W 42 0 = V 42 0) : inR U W := by
  unfold inR; rw [h1, h2]; exact h
theorem CR_U (h : CR B U V) (k : kpU U W) (rl : relok W) : CR B W V := by
  obtain ⟨h1, h2, h3, h4, h5, h6, h7, h8, h9, h10⟩ := h
  have k1 : W 1 0 = U 1 0 := k 1 0 (by omega) (by omega) (by omega) (by omega)
  have kr : ∀ a b, 2 ≤ a → a ≤ 10 → b ≠ 1 → W a b = U a b := fun a b z1 z2 z3 => k a b (by omega) (by omega) (by omega) (by omega)
  refine ⟨RI_off (fun a z1 z2 => kr a 0 z1 z2 (by decide)) h1, SR_off (fun a z1 z2 => kr a 0 z1 z2 (by decide)) h2, rl, ?_, hisR_U h5 (k 11 0 (by omega) (by omega) (by omega) (by omega)) (fun a b z1 z2 z3 => kr a b z1 z2 (by omega)), savR_U h6 (by rw [k1]) (fun a z1 z2 => kr a 2 z1 z2 (by decide)), refR_U h7 (by rw [k1]) (by rw [k1]), errR_U h8 (by rw [k1]) (by rw [k1]), outR_U h9 (k 31 0 (by omega) (by omega) (by omega) (by omega)) (k 32 0 (by omega) (by omega) (by omega) (by omega)), inR_U h10 (k 27 0 (by omega) (by omega) (by omega) (by omega)) (k 28 0 (by omega) (by omega) (by omega) (by omega))⟩
  unfold smok
  rw [k 23 0 (by omega) (by omega) (by omega) (by omega)]
  exact h4
theorem CR_V (h : CR B U V) (k : kpV V W) : CR B U W := by
  obtain ⟨h1, h2, h3, h4, h5, h6, h7, h8, h9, h10⟩ := h
  obtain ⟨k1, k2⟩ := k
  exact ⟨h1, MR_off (k1 34 0 (by omega)) h2, h3, h4, hisR_V h5 (k2 5 (by omega)) (k1 37 0 (by omega)), savR_V h6 (k2 3 (by omega)) (k1 36 0 (by omega)), refR_V h7 (k2 7 (by omega)) (k2 8 (by omega)), errR_V h8 (k2 20 (by omega)) (k2 21 (by omega)), outR_V h9 (k2 15 (by omega)) (k1 41 0 (by omega)), inR_V h10 (k2 17 (by omega)) (k1 42 0 (by omega))⟩
/-- heaps that are the same in the class's part, in the model's part -/
def eqU (U W : VV) : Prop := ∀ a b, a < 33 → W a b = U a b
def eqV (V W : VV) : Prop := ∀ a b, 33 ≤ a → W a b = V a b
theorem relok_eq (h : ∀ a b, 17 ≤ a → a ≤ 20 → W a b = U a b) (rl : relok U) : relok W := by
  unfold relok
  refine ⟨fun i j hi hj => ?_, fun i j hi hj => ?_, fun j hj => ?_⟩
  · rw [h 17 _ (by omega) (by omega)]; exact rl.1 i j hi hj
  · rw [h 19 _ (by omega) (by omega)]; exact rl.2.1 i j hi hj
  · rw [h 20 0 (by omega) (by omega)]; exact rl.2.2 j hj
theorem CR_eqU (h : CR B U V) (k : eqU U W) : CR B W V := CR_U h (fun a b _ _ _ z => k a b z) (relok_eq (fun a b z1 z2 => k a b (by omega)) h.2.2.1)
theorem CR_eqV (h : CR B U V) (k : eqV V W) : CR B U W := CR_V h ⟨fun a b z => k a b (by omega), fun j _ => by rw [k 33 0 (by omega)]⟩
theorem kpU_S (h : offS U W) : kpU U W := fun a b z1 _ _ _ => h a b z1
theorem kpU_C (h : offC U W) : kpU U W := fun a b _ z _ _ => h a b z
theorem kpU_V (h : eqU U W) : kpU U W := fun a b _ _ _ z => h a b z
end
