/-! the calls that change only notes, on both sides -/
section
variable {d : Nat} {B : Int} {H U : VV} {x1 x2 x3 : Int}
theorem op_83 (h : CR B H H) (hB : B ≤ 999990) (r1 : R32 x1) : OP B (d + 12) 83 [aR 1 0, aI (iI x1)] (cmL [(3, 1)]) 234 [aR 33 0, aI (iI x1)] H := by
  have rk := CR_rk h hB
  have mr := CR_mr h
  have hn := rk_n rk
  obtain ⟨k1, k2⟩ := rank_ex (g := H 3 0) (p := H 4 0) (h := H 5 0) (n := H 2 0 8) (r := x1) hn.1
  by_cases c : 0 ≤ x1 ∧ x1 < H 2 0 8
  · have k1 := k1 c
    intro q
    refine ⟨0, _, H, Or.inl ⟨rfl, (e_83 rk r1).trans (cif_neg (by omega))⟩, fun q' _ => ?_⟩
    obtain ⟨b, e1, e2⟩ := s_234 (d := d + 10) (q := q') rk mr r1
    rw [cif_pos c] at e1
    exact ⟨q', b, _, qst_refl q', e1, rfl, fun _ => e2 c, CR_6 h⟩
  · have k2 := k2 c
    intro q
    refine ⟨1, 0, H, Or.inr ⟨by decide, by decide, 3, rfl, rfl, (e_83 rk r1).trans (cif_pos k2)⟩, fun q' _ => ?_⟩
    obtain ⟨b, e1, e2⟩ := s_234 (d := d + 10) (q := q') rk mr r1
    rw [cif_neg c] at e1
    exact ⟨q', b, _, qst_refl q', e1, rfl, fun z => absurd z (by decide), CR_6 h⟩
theorem op_149 (h : CR B H H) : OP B (d + 12) 149 [aR 1 0] (cmL [(3, 1)]) 281 [aR 33 0] H := by
  rcases h.2.2.2.2.2.2.1 with ⟨k1, k2⟩ | ⟨k1, k2, k3⟩
  · exact OP_ex (j := 3) (k := 1) (fun q => (e_149 (by constructor <;> omega)).trans (cif_pos k1)) rfl rfl (by decide) (fun q => (e_281 (by constructor <;> omega)).trans (cif_pos (by omega))) rfl (CR_6 h)
  · exact OP_ok (fun q => (e_149 (by constructor <;> omega)).trans (cif_neg (by omega))) (fun q => (e_281 (by constructor <;> omega)).trans (cif_neg (by omega))) k2 rfl (CR_6 h)
theorem op_151 (h : CR B H H) : OP B (d + 12) 151 [aR 1 0] (cmL [(3, 1)]) 282 [aR 33 0] H := by
  rcases h.2.2.2.2.2.2.1 with ⟨k1, k2⟩ | ⟨k1, k2, k3⟩
  · exact OP_ex (j := 3) (k := 1) (fun q => (e_151 (by constructor <;> omega)).trans (cif_pos k1)) rfl rfl (by decide) (fun q => (e_282 (by constructor <;> omega)).trans (cif_pos (by omega))) rfl (CR_6 h)
  · exact OP_ok (fun q => (e_151 (by constructor <;> omega)).trans (cif_neg (by omega))) (fun q => (e_282 (by constructor <;> omega)).trans (cif_neg (by omega))) k3 rfl (CR_6 h)
theorem op_199 (h : CR B H H) : OP B (d + 12) 199 [aR 1 0] (cmL [(3, 1)]) 301 [aR 33 0] H := by
  obtain ⟨⟨k1, k2, k3⟩, -⟩ := h.2.2.2.2.2.2.2.1
  by_cases c : H 1 0 13 = -1
  · exact OP_ex (j := 3) (k := 1) (fun q => (e_199 (by constructor <;> omega)).trans (cif_pos c)) rfl rfl (by decide) (fun q => (e_301 (by constructor <;> omega)).trans (cif_pos (by omega))) rfl (CR_6 h)
  · exact OP_ok (fun q => (e_199 (by constructor <;> omega)).trans (cif_neg (by omega))) (fun q => (e_301 (by constructor <;> omega)).trans (cif_neg (by omega))) k1.symm rfl (CR_6 h)
theorem op_201 (h : CR B H H) : OP B (d + 12) 201 [aR 1 0] (cmL [(3, 1)]) 302 [aR 33 0] H := by
  obtain ⟨-, k1, k2, k3⟩ := h.2.2.2.2.2.2.2.1
  by_cases c : H 1 0 14 = -1
  · exact OP_ex (j := 3) (k := 1) (fun q => (e_201 (by constructor <;> omega)).trans (cif_pos c)) rfl rfl (by decide) (fun q => (e_302 (by constructor <;> omega)).trans (cif_pos (by omega))) rfl (CR_6 h)
  · exact OP_ok (fun q => (e_201 (by constructor <;> omega)).trans (cif_neg (by omega))) (fun q => (e_302 (by constructor <;> omega)).trans (cif_neg (by omega))) k1.symm rfl (CR_6 h)
theorem op_166 (h : CR B H H) (r1 : R32 x1) : OP B (d + 12) 166 [aR 1 0, aI (iI x1)] (cmL [(2, 1)]) 291 [aR 33 0, aI (iI x1)] H := by
  obtain ⟨L, ⟨a1, a2, a3⟩, ⟨b1, b2, b3⟩, hb⟩ := h.2.2.2.2.2.2.2.2.1
  have at1 : 0 ≤ x1 ∧ x1 < H 31 0 1 → (H 32 0 x1 = H 41 0 x1 ∧ 0 ≤ H 32 0 x1 ∧ H 32 0 x1 < 65536) := fun c => by
    have e1 := a3 x1.toNat (by omega)
    have e2 := b3 x1.toNat (by omega)
    have e3 : ((x1.toNat : Nat) : Int) = x1 := by omega
    rw [e3] at e1 e2
    rw [e1] at e2
    have e4 : H 32 0 x1 = H 41 0 x1 := Option.some.inj e2
    exact ⟨e4, hb _ (List.mem_of_getElem? e1)⟩
  by_cases c : 0 ≤ x1 ∧ x1 < H 31 0 1
  · obtain ⟨t1, t2⟩ := at1 c
    exact OP_ok (fun q => ((e_166 r1 (by constructor <;> omega) (fun _ _ => by omega) (fun _ _ => t2)).trans (cif_neg (by omega))).trans (cif_pos c.2)) (fun q => (e_291 (by omega) r1 (fun _ => by omega)).trans (cif_pos (by omega))) t1.symm rfl (CR_6 h)
  · by_cases c2 : x1 < 0
    · exact OP_ex (j := 2) (k := 1) (fun q => (e_166 r1 (by constructor <;> omega) (fun _ _ => by omega) (fun _ _ => (at1 (by omega)).2)).trans (cif_pos c2)) rfl rfl (by decide) (fun q => (e_291 (by omega) r1 (fun z => by have := at1 (by omega); omega)).trans (cif_neg (by omega))) rfl (CR_6 h)
    · exact OP_ex (j := 2) (k := 1) (fun q => ((e_166 r1 (by constructor <;> omega) (fun _ _ => by omega) (fun _ _ => (at1 (by omega)).2)).trans (cif_neg c2)).trans (cif_neg (by omega))) rfl rfl (by decide) (fun q => (e_291 (by omega) r1 (fun z => by have := at1 (by omega); omega)).trans (cif_neg (by omega))) rfl (CR_6 h)
/-- notes were taken on both sides -/
theorem eqV_S (h : offS H U) : eqV H U := fun a b z => h a b (by omega)
theorem eqV_C (h : offC H U) : eqV H U := fun a b z => h a b (by omega)
theorem rd_eq {V : VV} (h : ∀ a, 2 ≤ a → a ≤ 10 → V a 0 = H a 0) {P : (Int → Int) → (Int → Int) → (Int → Int) → (Int → Int) → Prop} (p : P (H 2 0) (H 3 0) (H 4 0) (H 5 0)) : P (V 2 0) (V 3 0) (V 4 0) (V 5 0) := by
  rw [h 2 (by decide) (by decide), h 3 (by decide) (by decide), h 4 (by decide) (by decide), h 5 (by decide) (by decide)]
  exact p
theorem CR_look (h : CR B H H) : CR B (lookV H) (lookV H) := CR_eqV (CR_U h (kpU_S offS_look) (relok_eq (fun a b z1 z2 => by
  funext k
  show cond (Nat.beq a 14 && Nat.beq b 0) _ _ = _
  rw [beq_no (show a ≠ 14 by omega)]
  rfl) h.2.2.1)) (eqV_S offS_look)
theorem op_13 (h : CR B H H) (hB : B ≤ 999990) : OP B (d + 12) 13 [aR 1 0] (cmL []) 244 [aR 33 0] H := by
  have rk := CR_rk h hB
  have h2 := CR_look h
  intro q
  refine ⟨0, _, lookV H, Or.inl ⟨rfl, e_13 rk⟩, fun q' hq => ?_⟩
  obtain ⟨W, w1, w2⟩ := s_244 (d := d + 9) (q := q') (CR_rk h2 hB) (CR_mr h2) hq
  refine ⟨qX q', _, W, qst_X q', w2, by rw [w1 33 0 (by decide)]; rfl, fun _ => rfl, ?_⟩
  exact CR_end h2 (kpU_refl _) h2.2.2.1 (eqV_refl _) ⟨fun a b z => by rw [w1 a b (by omega), upV_off2 (by omega)], fun j z => by rw [w1 33 0 (by decide), upV_at, if_neg (by omega)]⟩ (fun a b z => by rw [w1 a b (by omega), upV_off2 (by omega)])
theorem op_21 (h : CR B H H) (hB : B ≤ 999990) : OP B (d + 12) 21 [aR 1 0] (cmL []) 246 [aR 33 0] H := by
  have rk := CR_rk h hB
  have h2 := CR_look h
  intro q
  refine ⟨0, _, lookV H, Or.inl ⟨rfl, e_21 (d := d + 1) rk⟩, fun q' hq => ?_⟩
  obtain ⟨W, w1, w2⟩ := s_244 (d := d + 8) (q := q') (CR_rk h2 hB) (CR_mr h2) hq
  refine ⟨qX q', _, W, qst_X q', go_246 w2 (qst_X q').1, by rw [w1 33 0 (by decide)]; rfl, fun _ => rfl, ?_⟩
  exact CR_end h2 (kpU_refl _) h2.2.2.1 (eqV_refl _) ⟨fun a b z => by rw [w1 a b (by omega), upV_off2 (by omega)], fun j z => by rw [w1 33 0 (by decide), upV_at, if_neg (by omega)]⟩ (fun a b z => by rw [w1 a b (by omega), upV_off2 (by omega)])
end
