/-! the model: whether a letter is refused -/
/-- the model's notes of why -/
def whyV (V : VV) (a b : Int) : VV := upV (upV V 33 0 11 a) 33 0 12 b
theorem s_272 {d : Nat} {q : QQ} {V U : VV} {x1 x2 l : Int} (rk : rowok U) (mr : MR V U) (p1 : 0 ≤ x1 ∧ x1 < U 2 0 8) (p2 : 0 ≤ x2 ∧ x2 < U 2 0 8) (pl : 97 ≤ l ∧ l < 113) :
    (¬ pR U x1 x2 ∧ RUN (d + 4) 272 (am_en 272 [aR 33 0, aI (iI x1), aI (iI x2), aI (iI l)]) (HM q V) = rI 1 (HM q (whyV (foundM V U x2) 1 x1))) ∨
    (pR U x1 x2 ∧ ∃ i : Nat, i < pN U x1 x2 ∧ garb U (pP U x1 x2 i) l ∧ (∀ j : Nat, j < i → ¬ garb U (pP U x1 x2 j) l) ∧ RUN (d + 4) 272 (am_en 272 [aR 33 0, aI (iI x1), aI (iI x2), aI (iI l)]) (HM q V) = rI 1 (HM q (upV (upV (whyV (foundM V U x2) 0 x1) 33 0 11 2) 33 0 12 (pP U x1 x2 (i + 1))))) ∨
    (pR U x1 x2 ∧ (∀ j : Nat, j < pN U x1 x2 → ¬ garb U (pP U x1 x2 j) l) ∧ RUN (d + 4) 272 (am_en 272 [aR 33 0, aI (iI x1), aI (iI x2), aI (iI l)]) (HM q V) = rI 0 (HM q (whyV (foundM V U x2) 0 x1))) := by
  have hn := rk_n rk
  obtain ⟨sp, -⟩ := finds_is rk mr p2
  have bb := sv_b rk sp p1
  have e0 := g_272_0 (d := d) (q := q) (V := V) (x1 := x1) rk mr pl p2 (by omega) (by constructor <;> omega)
  rcases sv_c sp p1 with ⟨hR, a2, a3, a4, a5, -⟩ | ⟨hR, a2, -⟩
  · refine Or.inr ?_
    rw [cif_neg (by omega)] at e0
    have mrW : MR (whyV (foundM V U x2) 0 x1) U := mr
    have spW : SPV (whyV (foundM V U x2) 0 x1) U x2 := sp
    have key : ∀ (k i : Nat), i + k = pN U x1 x2 → (∀ j : Nat, j < i → ¬ garb U (pP U x1 x2 j) l) →
        (∃ i : Nat, i < pN U x1 x2 ∧ garb U (pP U x1 x2 i) l ∧ (∀ j : Nat, j < i → ¬ garb U (pP U x1 x2 j) l) ∧ True) ∧ False ∨
        (∃ i' : Nat, i' < pN U x1 x2 ∧ garb U (pP U x1 x2 i') l ∧ (∀ j : Nat, j < i' → ¬ garb U (pP U x1 x2 j) l) ∧ RUN (d + 4) 272 (33, [sR 33 0, sI x1, sI x2, sI l, sI (pP U x1 x2 i)], []) (HM q (whyV (foundM V U x2) 0 x1)) = rI 1 (HM q (upV (upV (whyV (foundM V U x2) 0 x1) 33 0 11 2) 33 0 12 (pP U x1 x2 (i' + 1))))) ∨
        ((∀ j : Nat, j < pN U x1 x2 → ¬ garb U (pP U x1 x2 j) l) ∧ RUN (d + 4) 272 (33, [sR 33 0, sI x1, sI x2, sI l, sI (pP U x1 x2 i)], []) (HM q (whyV (foundM V U x2) 0 x1)) = rI 0 (HM q (whyV (foundM V U x2) 0 x1))) := by
      intro k
      induction k with
      | zero =>
        intro i hi hj
        have ei : i = pN U x1 x2 := by omega
        obtain ⟨c1, c2, c3, c4⟩ := pP_is rk sp.2 p1 hR i (by omega)
        have c5 : pP U x1 x2 i = x2 := Classical.byContradiction fun z => by have := c3.mpr z; omega
        refine Or.inr (Or.inr ⟨fun j hj2 => hj j (by omega), ?_⟩)
        rw [g_272_33 (V := whyV (foundM V U x2) 0 x1) rk mrW pl (show R32 0 by decide) (by constructor <;> omega) (by constructor <;> omega) (fun _ _ => by omega)]
        exact ((cif_pos (show (0 : Int) = 0 from rfl)).trans (cif_pos c5)).trans (cif_pos (show (0 : Int) ≤ 0 by decide))
      | succ k ih =>
        intro i hi hj
        obtain ⟨c1, c2, c3, c4⟩ := pP_is rk sp.2 p1 hR i (by omega)
        have c5 := c3.mp (by omega)
        have e1 := g_272_33 (d := d) (q := q) (V := whyV (foundM V U x2) 0 x1) (l1 := sI x1) (x2 := x2) (x4 := pP U x1 x2 i) rk mrW pl (show R32 0 by decide) (by constructor <;> omega) (by constructor <;> omega) (fun _ _ => by omega)
        have e1 := (e1.trans (cif_pos (show (0 : Int) = 0 from rfl))).trans (cif_neg c5)
        by_cases g : garb U (pP U x1 x2 i) l
        · refine Or.inr (Or.inl ⟨i, by omega, g, hj, ?_⟩)
          have e1 := e1.trans (cif_neg g)
          have mrX : MR (upV (whyV (foundM V U x2) 0 x1) 33 0 11 2) U := mr
          have spX : SPV (upV (whyV (foundM V U x2) 0 x1) 33 0 11 2) U x2 := sp
          have mrY : MR (upV (upV (whyV (foundM V U x2) 0 x1) 33 0 11 2) 33 0 12 (spNext (U 2 0 8) (cE U) (cW U) x2 (pP U x1 x2 i))) U := mr
          have spY : SPV (upV (upV (whyV (foundM V U x2) 0 x1) 33 0 11 2) 33 0 12 (spNext (U 2 0 8) (cE U) (cW U) x2 (pP U x1 x2 i))) U x2 := sp
          refine e1.trans ((g_272_69 rk mrX pl (s_258 (d := d) rk mrX spX p2 c1 c2 c5) (qle_refl _)).trans ((g_272_78 rk mrY pl (s_258 (d := d) rk mrY spY p2 c1 c2 c5) (qle_refl _)).trans ?_))
          have c6 : 0 ≤ spNext (U 2 0 8) (cE U) (cW U) x2 (pP U x1 x2 i) ∧ spNext (U 2 0 8) (cE U) (cW U) x2 (pP U x1 x2 i) < U 2 0 8 := (spNext_is sp.2 c1 c2 c5).1
          rw [g_272_33 (V := upV (upV (whyV (foundM V U x2) 0 x1) 33 0 11 2) 33 0 12 (spNext (U 2 0 8) (cE U) (cW U) x2 (pP U x1 x2 i))) rk mrY pl (show R32 2 by decide) (by constructor <;> omega) (by constructor <;> omega) (fun _ _ => by omega), c4]
          exact (cif_neg (show ¬ (2 : Int) = 0 by decide)).trans (cif_neg (show ¬ (2 : Int) ≤ 0 by decide))
        · have e1 := e1.trans (cif_pos (Classical.byContradiction fun z => g z))
          have e2 := e1.trans (g_272_78 rk mrW pl (s_258 (d := d) rk mrW spW p2 c1 c2 c5) (qle_refl _))
          rw [c4] at e2
          rcases ih (i + 1) (by omega) (fun j hj2 => by
            by_cases z : j = i
            · rw [z]; exact g
            · exact hj j (by omega)) with ⟨-, z⟩ | ⟨i', z1, z2, z3, z4⟩ | ⟨z1, z2⟩
          · exact absurd z id
          · exact Or.inr (Or.inl ⟨i', z1, z2, z3, e2.trans z4⟩)
          · exact Or.inr (Or.inr ⟨z1, e2.trans z2⟩)
    rcases key (pN U x1 x2) 0 (by omega) (fun j hj => absurd hj (Nat.not_lt_zero j)) with ⟨-, z⟩ | ⟨i', z1, z2, z3, z4⟩ | ⟨z1, z2⟩
    · exact absurd z id
    · exact Or.inl ⟨hR, i', z1, z2, z3, e0.trans z4⟩
    · exact Or.inr ⟨hR, z1, e0.trans z2⟩
  · refine Or.inl ⟨hR, ?_⟩
    rw [cif_pos a2] at e0
    refine e0.trans ?_
    have mrW : MR (whyV (foundM V U x2) 1 x1) U := mr
    rw [show upV (upV (foundM V U x2) 33 0 11 1) 33 0 12 x1 = whyV (foundM V U x2) 1 x1 from rfl, g_272_33 (V := whyV (foundM V U x2) 1 x1) rk mrW pl (show R32 1 by decide) (by constructor <;> omega) (by constructor <;> omega) (fun z => absurd (show (1 : Int) = 0 from z) (by decide))]
    exact (cif_neg (show ¬ (1 : Int) = 0 by decide)).trans (cif_neg (show ¬ (1 : Int) ≤ 0 by decide))
