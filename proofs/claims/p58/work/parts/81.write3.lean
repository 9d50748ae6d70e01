/-! a relay is written: the whole -/
theorem rel_go {d : Nat} {q : QQ} {F : VV} {P : Nat → Int} {N : Nat} {D : Int} {l1 l2 : Option AV} (rk : rowok F) (rl : relok F) (hN : N ≤ 7) (h6 : F 15 0 6 = (N : Int) + 1) (h7 : F 15 0 7 = D) (hD : 0 ≤ D ∧ D < 1000) (hP : ∀ i : Nat, i ≤ N → F 21 0 i = P i ∧ 0 ≤ P i ∧ P i < 8) :
    ∀ (k i : Nat) (U : VV), i + k = N + 1 → offO F U → outIs U (relL P i) →
    ∃ W, offO F W ∧ outIs W (relL P (N + 1) ++ [61] ++ numL D) ∧ RUN (d + 5) 162 (15, [sR 1 0, l1, l2, sI i], []) (HM q U) = rI (relL P (N + 1) ++ [61] ++ numL D).length (HM q W) := by
  intro k
  induction k with
  | zero =>
    intro i U hi ho hL
    have e : i = N + 1 := by omega
    subst e
    have e15 : U 15 0 = F 15 0 := ho 15 0 (by omega)
    have hl := relL_len (P := P) (N + 1) (fun i hi => by have := hP i (by omega); omega)
    have h1 := out_add (c := 61) hL (by omega)
    have h2 := out_num (n := D) h1 (by rw [List.length_append]; show (relL P (N + 1)).length + 1 + 3 ≤ 32; omega) hD.1
    rw [g_162_15 (rowok_offO ho rk) (offO_rel ho rl) (outok_is hL) (by rw [e15, h6]; constructor <;> omega) (by constructor <;> omega) (fun _ => by rw [e15, h7]; exact hD) (fun c => absurd (by rw [e15, h6]; omega) c) (fun c => absurd (by rw [e15, h6]; omega) c) (fun c => absurd (by rw [e15, h6]; omega) c) (fun c => absurd (by rw [e15, h6]; omega) c), cif_pos (by rw [e15, h6]; omega), e15, h7]
    refine ⟨_, offO_trans ho (offO_trans (offO_add _ _) (offO_num _ _)), h2, ?_⟩
    rw [h2.1]
  | succ k ih =>
    intro i U hi ho hL
    have e15 : U 15 0 = F 15 0 := ho 15 0 (by omega)
    have e21 : U 21 0 = F 21 0 := ho 21 0 (by omega)
    have hi2 : i ≤ N := by omega
    obtain ⟨p1, p2, p3⟩ := hP i hi2
    have hl := relL_len (P := P) i (fun j hj => by have := hP j (by omega); omega)
    have e0 := g_162_15 (d := d) (q := q) (V := U) (l1 := l1) (l2 := l2) (x3 := i) (rowok_offO ho rk) (offO_rel ho rl) (outok_is hL) (by rw [e15, h6]; constructor <;> omega) (by constructor <;> omega) (fun c => absurd c (by rw [e15, h6]; omega)) (fun _ _ => by omega) (fun _ _ => by rw [e21, p1]; omega) (fun _ _ => by omega) (fun _ _ => by rw [e21, p1]; omega)
    rw [cif_neg (by rw [e15, h6]; omega), e21, p1, show (i : Int) + 1 = ((i + 1 : Nat) : Int) by omega] at e0
    by_cases z : i = 0
    · rw [cif_pos (by omega)] at e0
      have eL : relL P (i + 1) = relL P i ++ numL (P i) := by
        show relL P i ++ (cif (i = 0) [] [62] ++ numL (P i)) = _
        rw [cif_pos z]
        rfl
      obtain ⟨W, w1, w2, w3⟩ := ih (i + 1) (numV U (P i)) (by omega) (offO_trans ho (offO_num _ _)) (by rw [eL]; exact out_num hL (by omega) p2)
      exact ⟨W, w1, w2, e0.trans w3⟩
    · rw [cif_neg (by omega)] at e0
      have eL : relL P (i + 1) = relL P i ++ [62] ++ numL (P i) := by
        show relL P i ++ (cif (i = 0) [] [62] ++ numL (P i)) = _
        rw [cif_neg z, List.append_assoc]
      have h1 := out_add (c := 62) hL (by omega)
      obtain ⟨W, w1, w2, w3⟩ := ih (i + 1) (numV (addV U 62) (P i)) (by omega) (offO_trans ho (offO_trans (offO_add _ _) (offO_num _ _))) (by rw [eL]; exact out_num h1 (by rw [List.length_append]; show (relL P i).length + 1 + 3 ≤ 32; omega) p2)
      exact ⟨W, w1, w2, e0.trans w3⟩
/-- the text of a relay -/
noncomputable def relT (V : VV) (x1 x2 : Int) : List Int := relL (pP V x1 x2) (pN V x1 x2 + 1) ++ [61] ++ numL (pD V x1 x2)
theorem s_162 {d : Nat} {q : QQ} {V : VV} {x1 x2 : Int} (rk : rowok V) (rl : relok V) (ok : outok V) (h1 : R32 x1) (h2 : R32 x2) :
    (¬ (0 ≤ x1 ∧ x1 < V 2 0 8 ∧ 0 ≤ x2 ∧ x2 < V 2 0 8) ∧ RUN (d + 5) 162 (am_en 162 [aR 1 0, aI (iI x1), aI (iI x2)]) (HM q V) = rX 2 (HM (thr q) V)) ∨
    ((0 ≤ x1 ∧ x1 < V 2 0 8 ∧ 0 ≤ x2 ∧ x2 < V 2 0 8) ∧ ¬ pR V x1 x2 ∧ RUN (d + 5) 162 (am_en 162 [aR 1 0, aI (iI x1), aI (iI x2)]) (HM q V) = rX 3 (HM (thr q) (lostV V x2))) ∨
    ((0 ≤ x1 ∧ x1 < V 2 0 8 ∧ 0 ≤ x2 ∧ x2 < V 2 0 8) ∧ pR V x1 x2 ∧ ∃ W, offO (foundV V x1 x2) W ∧ outIs W (relT V x1 x2) ∧ RUN (d + 5) 162 (am_en 162 [aR 1 0, aI (iI x1), aI (iI x2)]) (HM q V) = rI (relT V x1 x2).length (HM q W)) := by
  have e0 := g_162_0 (d := d) (q := q) rk rl ok h1 h2
  by_cases c1 : 0 ≤ x1 ∧ x1 < V 2 0 8
  · rw [cif_pos c1] at e0
    by_cases c2 : 0 ≤ x2 ∧ x2 < V 2 0 8
    · rw [cif_pos c2] at e0
      by_cases hR : pR V x1 x2
      · rw [cif_pos (show spR (V 2 0 8) (cE V) (cW V) x2 x1 from hR)] at e0
        obtain ⟨f1, f2, f3, f4, f5, f6, f7⟩ := found_p rk rl c1 c2 hR
        have hn := rk_n rk
        have hF : offO (foundV V x1 x2) (upV (foundV V x1 x2) 31 0 1 0) := offO_clr _
        obtain ⟨W, w1, w2, w3⟩ := rel_go (d := d) (q := q) (F := foundV V x1 x2) (P := pP V x1 x2) (N := pN V x1 x2) (D := pD V x1 x2) (l1 := sI x1) (l2 := sI x2) rk f7 f2 f3 f4 (pD_b rk rl c1 c2 hR) (fun i hi => by have := f6 i hi; omega) (pN V x1 x2 + 1) 0 (upV (foundV V x1 x2) 31 0 1 0) (by omega) hF (out_clr _)
        exact Or.inr (Or.inr ⟨⟨c1.1, c1.2, c2.1, c2.2⟩, hR, W, w1, w2, e0.trans w3⟩)
      · rw [cif_neg (show ¬ spR (V 2 0 8) (cE V) (cW V) x2 x1 from hR)] at e0
        exact Or.inr (Or.inl ⟨⟨c1.1, c1.2, c2.1, c2.2⟩, hR, e0⟩)
    · rw [cif_neg c2] at e0
      exact Or.inl ⟨fun z => c2 ⟨z.2.2.1, z.2.2.2⟩, e0⟩
  · rw [cif_neg c1] at e0
    exact Or.inl ⟨fun z => c1 ⟨z.1, z.2.1⟩, e0⟩
