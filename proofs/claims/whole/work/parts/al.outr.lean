/-! the model writes a relay -/
theorem offQ_SP {V W U : VV} {x : Int} (h : offQ V W) (sp : SPV V U x) : SPV W U x := by
  unfold SPV
  rw [h.1 38 0 (by decide), h.1 39 0 (by decide)]
  exact sp
theorem relM_go {U : VV} {x1 x2 : Int} (rk : rowok U) (p1 : 0 ≤ x1 ∧ x1 < U 2 0 8) (p2 : 0 ≤ x2 ∧ x2 < U 2 0 8) (hR : pR U x1 x2) : ∀ (k i : Nat) (V : VV), i + k = pN U x1 x2 → MR V U → SPV V U x2 → outM V (relL (pP U x1 x2) (i + 1)) →
    ∃ W, offQ V W ∧ outM W (relT U x1 x2) ∧ ∀ (d : Nat) (q : QQ), RUN (d + 5) 289 (23, [sR 33 0, sI x1, sI x2, sI (pP U x1 x2 i)], []) (HM q V) = rI (relT U x1 x2).length (HM q W) := by
  have hn := rk_n rk
  intro k
  induction k with
  | zero =>
    intro i V hi mr sp hL
    have ei : i = pN U x1 x2 := by omega
    subst ei
    obtain ⟨c1, c2, c3, c4⟩ := pP_is rk sp.2 p1 hR (pN U x1 x2) (Nat.le_refl _)
    have c5 : pP U x1 x2 (pN U x1 x2) = x2 := Classical.byContradiction fun z => by have := c3.mpr z; omega
    rcases sv_c sp p1 with ⟨-, a2, a3, a4, a5, a6, a7⟩ | ⟨a1, -⟩
    · have hl := relL_len (P := pP U x1 x2) (pN U x1 x2 + 1) (fun i hi => by have := (pP_is rk sp.2 p1 hR i (by omega)).1; omega)
      obtain ⟨W, w1, w2, w3⟩ := says_is (c := 61) hL (by omega) (by decide)
      obtain ⟨Z, z1, z2, z3⟩ := num_is (n := pD U x1 x2) w2 (by rw [List.length_append]; show (relL (pP U x1 x2) (pN U x1 x2 + 1)).length + 1 + 3 ≤ 40; omega) (by omega)
      have mrW := offQ_MR w1 mr
      refine ⟨Z, offQ_trans w1 z1, z2, fun d q => ?_⟩
      have f1 := g_289_23 (d := d) (q := q) (V := V) (x1 := x1) (x2 := x2) (x3 := pP U x1 x2 (pN U x1 x2)) rk mr (by constructor <;> omega) (by constructor <;> omega)
      have f1 := f1.trans (cif_pos c5)
      have f2 := g_289_55 (d := d) (q := q) (l2 := sI x2) (l3 := sI (pP U x1 x2 (pN U x1 x2))) rk mr (w3 (d + 4) q) (qle_refl _) (show 0 ≤ x1 ∧ x1 < 8 by omega)
      rw [w1.1 38 0 (by decide), a2] at f2
      have f3 := g_289_65 (d := d) (q := q) (l1 := sI x1) (l2 := sI x2) (l3 := sI (pP U x1 x2 (pN U x1 x2))) rk mrW (z3 (d + 3) q) (qle_refl _)
      rw [z2.1] at f3
      exact f1.trans (f2.trans f3)
    · exact absurd hR a1
  | succ k ih =>
    intro i V hi mr sp hL
    obtain ⟨c1, c2, c3, c4⟩ := pP_is rk sp.2 p1 hR i (by omega)
    obtain ⟨d1, d2, d3, d4⟩ := pP_is rk sp.2 p1 hR (i + 1) (by omega)
    have c5 := c3.mp (by omega)
    rcases sv_c sp p1 with ⟨-, a2, a3, a4, a5, a6, a7⟩ | ⟨a1, -⟩
    · have hl := relL_len (P := pP U x1 x2) (i + 1) (fun i hi => by have := (pP_is rk sp.2 p1 hR i (by omega)).1; omega)
      obtain ⟨W, w1, w2, w3⟩ := says_is (c := 62) hL (by omega) (by decide)
      obtain ⟨Z, z1, z2, z3⟩ := num_is (n := pP U x1 x2 (i + 1)) w2 (by rw [List.length_append]; show (relL (pP U x1 x2) (i + 1)).length + 1 + 3 ≤ 40; omega) (by omega)
      have mrW := offQ_MR w1 mr
      have spW := offQ_SP w1 sp
      have mrZ := offQ_MR z1 mrW
      have spZ := offQ_SP z1 spW
      have eL : relL (pP U x1 x2) (i + 1) ++ [62] ++ numL (pP U x1 x2 (i + 1)) = relL (pP U x1 x2) (i + 1 + 1) := by
        show _ = relL (pP U x1 x2) (i + 1) ++ (cif (i + 1 = 0) [] [62] ++ numL (pP U x1 x2 (i + 1)))
        rw [cif_neg (by omega), List.append_assoc]
      rw [eL] at z2
      obtain ⟨Y, y1, y2, y3⟩ := ih (i + 1) Z (by omega) mrZ spZ z2
      refine ⟨Y, offQ_trans w1 (offQ_trans z1 y1), y2, fun d q => ?_⟩
      have f1 := g_289_23 (d := d) (q := q) (V := V) (x1 := x1) (x2 := x2) (x3 := pP U x1 x2 i) rk mr (by constructor <;> omega) (by constructor <;> omega)
      have f1 := f1.trans (cif_neg c5)
      have f2 := g_289_31 (d := d) (q := q) (x1 := x1) (x2 := x2) (x3 := pP U x1 x2 i) rk mr (w3 (d + 4) q) (qle_refl _)
      have s1 := s_258 (d := d + 1) (q := q) rk mrW spW p2 c1 c2 c5
      rw [c4] at s1
      have f3 := g_289_37 (d := d) (q := q) (x1 := x1) (x2 := x2) (x3 := pP U x1 x2 i) rk mrW s1 (qle_refl _)
      have f4 := g_289_40 (d := d) (q := q) (x1 := x1) (x2 := x2) (x3 := pP U x1 x2 i) rk mrW (z3 (d + 3) q) (qle_refl _)
      have s2 := s_258 (d := d + 1) (q := q) rk mrZ spZ p2 c1 c2 c5
      rw [c4] at s2
      have f5 := g_289_45 (d := d) (q := q) (x1 := x1) (x2 := x2) (l3 := sI (pP U x1 x2 i)) rk mrZ s2 (qle_refl _)
      exact f1.trans (f2.trans (f3.trans (f4.trans (f5.trans (y3 d q)))))
    · exact absurd hR a1
theorem s_289 {d : Nat} {q : QQ} {V U : VV} {x1 x2 : Int} (rk : rowok U) (mr : MR V U) (h3 : R32 x1) (h4 : R32 x2) :
    (¬ ((0 ≤ x1 ∧ x1 < U 2 0 8) ∧ 0 ≤ x2 ∧ x2 < U 2 0 8) ∧ RUN (d + 5) 289 (am_en 289 [aR 33 0, aI (iI x1), aI (iI x2)]) (HM q V) = rI 0 (HM q (upV V 33 0 6 1))) ∨
    (((0 ≤ x1 ∧ x1 < U 2 0 8) ∧ 0 ≤ x2 ∧ x2 < U 2 0 8) ∧ ¬ pR U x1 x2 ∧ RUN (d + 5) 289 (am_en 289 [aR 33 0, aI (iI x1), aI (iI x2)]) (HM q V) = rI 0 (HM q (upV (foundM V U x2) 33 0 6 2))) ∨
    (((0 ≤ x1 ∧ x1 < U 2 0 8) ∧ 0 ≤ x2 ∧ x2 < U 2 0 8) ∧ pR U x1 x2 ∧ ∃ W, offQ (upV (foundM V U x2) 33 0 6 0) W ∧ outM W (relT U x1 x2) ∧ RUN (d + 5) 289 (am_en 289 [aR 33 0, aI (iI x1), aI (iI x2)]) (HM q V) = rI (relT U x1 x2).length (HM q W)) := by
  have hn := rk_n rk
  have e0 := g_289_0 (d := d) (q := q) (V := V) rk mr h3 h4
  by_cases c : (0 ≤ x1 ∧ x1 < U 2 0 8) ∧ 0 ≤ x2 ∧ x2 < U 2 0 8
  · have e0 := e0.trans (cif_pos c)
    by_cases hR : pR U x1 x2
    · obtain ⟨sp, -⟩ := finds_is rk mr c.2
      have mr0 : MR (upV (upV (foundM V U x2) 33 0 6 0) 33 0 15 0) U := mr
      have sp0 : SPV (upV (upV (foundM V U x2) 33 0 6 0) 33 0 15 0) U x2 := sp
      obtain ⟨W, w1, w2, w3⟩ := num_is (n := x1) (outM_0 (upV (foundM V U x2) 33 0 6 0)) (by decide) (by omega)
      have eL : [] ++ numL x1 = relL (pP U x1 x2) (0 + 1) := by
        show [] ++ numL x1 = [] ++ (cif (0 = 0) [] [62] ++ numL x1)
        rw [cif_pos rfl]
        rfl
      rw [eL] at w2
      obtain ⟨Z, z1, z2, z3⟩ := relM_go rk c.1 c.2 hR (pN U x1 x2) 0 W (by omega) (offQ_MR w1 mr0) (offQ_SP w1 sp0) w2
      exact Or.inr (Or.inr ⟨c, hR, Z, offQ_trans (offQ_0 _) (offQ_trans w1 z1), z2, (e0.trans (cif_pos hR)).trans ((g_289_18 rk mr0 (w3 (d + 3) q) (qle_refl _)).trans (z3 d q))⟩)
    · exact Or.inr (Or.inl ⟨c, hR, e0.trans (cif_neg hR)⟩)
  · exact Or.inl ⟨c, e0.trans (cif_neg c)⟩
