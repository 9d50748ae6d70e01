/-! a tower is added, a letter is sent, on both sides -/
section
variable {d : Nat} {B : Int} {H U V W : VV} {x1 x2 x3 l : Int}
theorem op_61 (h : CR B H H) (hB : B ≤ 999990) (r1 : R32 x1) (r2 : R32 x2) (r3 : R32 x3) : OP B (d + 12) 61 [aR 1 0, aI (iI x1), aI (iI x2), aI (iI x3)] (cmL [(0, 1), (1, 2)]) 217 [aR 33 0, aI (iI x1), aI (iI x2), aI (iI x3)] H := by
  have rk := CR_rk h hB
  have mr : MR H H := CR_mr h
  have hd := CR_d h
  have hn := rk_n rk
  have e20 : keepV H 0 2 0 = H 2 0 := keepV_off (by decide) (by omega)
  have eU : upV (upV (upV (upV (keepV H 0) 4 0 (H 2 0 8) x1) 5 0 (H 2 0 8) x2) 6 0 (H 2 0 8) x3) 2 0 8 (H 2 0 8 + 1) = towU (keepV H 0) x1 x2 x3 := by
    unfold towU
    rw [e20]
  have ec := fun q => s_61 (d := d + 10) (q := q) rk (CR_ho h) r1 r2 r3
  rw [eU] at ec
  have tw : ∀ a b, ¬ (a = 2 ∨ a = 4 ∨ a = 5 ∨ a = 6) ∨ ¬ b = 0 → towU (keepV H 0) x1 x2 x3 a b = keepV H 0 a b := fun a b z => by
    unfold towU
    rw [upV_off2 (by omega), upV_off2 (by omega), upV_off2 (by omega), upV_off2 (by omega)]
  have eV : eqV H (towU (keepV H 0) x1 x2 x3) := fun a b z => by rw [tw a b (by omega)]; exact eqV_keep a b z
  have no : ∀ x : Int, (∀ q : QQ, RUN (d + 11) 218 (am_en 218 [aR 33 0, aI (iI x1), aI (iI x2), aI (iI x3)]) (HM q (keepM H)) = rI 0 (HM q (upV (keepM H) 33 0 6 x))) → 1 ≤ x ∧ x ≤ 3 → ∀ q : QQ, RUN (d + 12) 217 (am_en 217 [aR 33 0, aI (iI x1), aI (iI x2), aI (iI x3)]) (HM q H) = rI 0 (HM q (backM (upV (keepM H) 33 0 6 x))) := fun x e hx q => go_217 (e q) (e216_no h hx)
  by_cases c : (0 ≤ x1 ∧ x1 < 32) ∧ 1 ≤ x2 ∧ x2 ≤ 9 ∧ 0 ≤ x3 ∧ x3 < 4
  · by_cases c2 : H 2 0 8 < 8 ∧ fstI (posIs (H 4 0) x1) (H 2 0 8) = -1
    · have mk : MR (keepM (towU (keepV H 0) x1 x2 x3)) H := MR_off (by rw [keepM_off (by omega)]; exact eV 34 0 (by omega)) mr
      obtain ⟨w1, w2, w3⟩ := keep_w eV
      have cr : ∀ W : VV, (∀ a b, ¬ a = 34 → W a b = keepM (towU (keepV H 0) x1 x2 x3) a b) → W 34 0 = addS (keepM (towU (keepV H 0) x1 x2 x3) 34 0) (H 2 0 8) x1 x2 x3 → CR (B + 100) (pushM W) (pushM W) := by
        intro W o1 o2
        have rt : RI B 0 (towU (keepV H 0) x1 x2 x3) := RI_add (RI_keep h) (by rw [e20]; exact c2.1) c.1 (by omega) (by omega) (by rw [e20, keep_row (by decide) (by decide) (by decide)]; exact c2.2)
        refine CR_push (U := towU (keepV H 0) x1 x2 x3) (K := H) (r := 0) h (by decide) h.1 mr rfl (fun _ _ _ _ _ => rfl) (tw 11 0 (by omega)) (fun a b z1 z2 z3 => tw a b (by omega)) (fun a b z1 z2 z3 z4 z5 => ?_) (RI_mono rt (by omega)) ?_ (fun j hj => ?_) (fun j hj => ?_) (fun a b hab => ?_) ?_ (fun a b z => ?_)
        · rw [tw a b (by omega)]
          exact keepV_off z4 (by omega)
        · exact relok_eq (fun a b z1 z2 => by rw [tw a b (by omega)]; exact keepV_off (by omega) (by omega)) h.2.2.1
        · rw [o1 35 0 (by omega)]; exact w1 j hj
        · rw [o1 33 0 (by omega)]; exact w2 j hj
        · rw [o1 a b (by omega)]; exact w3 a b (by omega)
        · rw [o2, w3 34 0 (by omega)]
          have := SR_add (U := keepV H 0) (a := x1) (b := x2) (c := x3) (by rw [e20]; omega) (RI_8 (RI_keep h)) (RI_keep h).2.2 (SR_keep h)
          rw [e20] at this
          exact this
        · rw [o1 a b (by omega), keepM_off (by omega)]
      intro q
      refine ⟨0, _, _, Or.inl ⟨rfl, ((ec q).trans (cif_pos c)).trans (cif_pos c2)⟩, fun q' _ => ?_⟩
      obtain ⟨W, o1, o2, o3⟩ := s_218 (d := d + 9) (q := q') rk mk hd r1 r2 r3
      have k5 : W 33 0 5 = H 33 0 5 := by rw [o1 33 0 (by omega)]; exact w2 5 (by omega)
      have k6 : W 33 0 6 = 0 := by rw [o1 33 0 (by omega), keepM_33, if_pos rfl]
      exact ⟨q', _, _, qst_refl q', go_217 ((o3.trans (cif_pos c)).trans (cif_pos c2)) (e216_ok h k5 k6), push_6 k6, fun _ => rfl, cr W o1 o2⟩
    · refine OP_ex (j := 1) (k := 2) (fun q => ((ec q).trans (cif_pos c)).trans (cif_neg c2)) rfl rfl (by decide) (no 2 (fun q => ?_) (by decide)) bk_6 (CR_bk h)
      obtain ⟨W, o1, o2, o3⟩ := s_218 (d := d + 9) (q := q) rk (mr_keep mr) hd r1 r2 r3
      exact (o3.trans (cif_pos c)).trans (cif_neg c2)
  · refine OP_ex (j := 0) (k := 1) (fun q => (ec q).trans (cif_neg c)) rfl rfl (by decide) (no 1 (fun q => ?_) (by decide)) bk_6 (CR_bk h)
    obtain ⟨W, o1, o2, o3⟩ := s_218 (d := d + 9) (q := q) rk (mr_keep mr) hd r1 r2 r3
    exact o3.trans (cif_neg c)
end
