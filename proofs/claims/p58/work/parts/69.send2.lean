/-! sending is tried -/
noncomputable def pR (V : VV) (x1 x2 : Int) : Prop := spR (V 2 0 8) (cE V) (cW V) x2 x1
noncomputable def pD (V : VV) (x1 x2 : Int) : Int := spD (V 2 0 8) (cE V) (cW V) x2 x1
noncomputable def pN (V : VV) (x1 x2 : Int) : Nat := (spN (V 2 0 8) (cE V) (cW V) x2 x1).toNat
noncomputable def pP (V : VV) (x1 x2 : Int) : Nat → Int := spPath (V 2 0 8) (cE V) (cW V) x2 x1
theorem found_p {V : VV} {x1 x2 : Int} (rk : rowok V) (rl : relok V) (p1 : 0 ≤ x1 ∧ x1 < V 2 0 8) (p2 : 0 ≤ x2 ∧ x2 < V 2 0 8) (hR : pR V x1 x2) :
    (pN V x1 x2 : Int) = spN (V 2 0 8) (cE V) (cW V) x2 x1 ∧ pN V x1 x2 ≤ 7 ∧ foundV V x1 x2 15 0 6 = (pN V x1 x2 : Int) + 1 ∧ foundV V x1 x2 15 0 7 = pD V x1 x2 ∧ pathok (foundV V x1 x2) ∧
      (∀ i : Nat, i ≤ pN V x1 x2 → foundV V x1 x2 21 0 i = pP V x1 x2 i ∧ 0 ≤ pP V x1 x2 i ∧ pP V x1 x2 i < V 2 0 8) ∧ relok (foundV V x1 x2) := by
  obtain ⟨n, h1, h2⟩ := found_is rk rl p1 p2 hR
  have : pN V x1 x2 = n := by
    unfold pN
    omega
  rw [this]
  exact ⟨h1, h2⟩
theorem lost_rl {V : VV} {x2 : Int} (rk : rowok V) (rl : relok V) (p2 : 0 ≤ x2 ∧ x2 < V 2 0 8) : relok (lostV V x2) :=
  (show relok (settleV (stepsV V) x2) from relok_set (relok_steps rk rl) (settle_inv (V := stepsV V) rk (relok_steps rk rl) p2 (V 2 0 8).toNat (show ((V 2 0 8).toNat : Int) ≤ V 2 0 8 by have := rk_n rk; omega)))
theorem passV_congr {V : VV} {P Q : Nat → Int} {l : Int} : ∀ k : Nat, (∀ i : Nat, i ≤ k → P i = Q i) → passV V P l k = passV V Q l k := by
  intro k
  induction k with
  | zero => intro _; rfl
  | succ k ih =>
    intro h
    show stepV _ _ _ _ = stepV _ _ _ _
    rw [ih (fun i hi => h i (by omega)), h k (by omega), h (k + 1) (by omega)]
/-- the first reader that cannot read, if there is one -/
theorem s_134p {d : Nat} {q : QQ} {V : VV} {x1 x2 l : Int} (rk : rowok V) (rl : relok V) (sm : smok V) (p1 : 0 ≤ x1 ∧ x1 < V 2 0 8) (p2 : 0 ≤ x2 ∧ x2 < V 2 0 8) (pl : 97 ≤ l ∧ l < 113) (hR : pR V x1 x2) :
    (∃ i : Nat, i < pN V x1 x2 ∧ garb V (pP V x1 x2 i) l ∧ (∀ j : Nat, j < i → ¬ garb V (pP V x1 x2 j) l) ∧ (0 ≤ pP V x1 x2 (i + 1) ∧ pP V x1 x2 (i + 1) < 8) ∧ RUN (d + 3) 134 (am_en 134 [aR 1 0, aI (iI l)]) (HM q (foundV V x1 x2)) = rI (pP V x1 x2 (i + 1)) (HM q (foundV V x1 x2))) ∨
    ((∀ j : Nat, j < pN V x1 x2 → ¬ garb V (pP V x1 x2 j) l) ∧ RUN (d + 3) 134 (am_en 134 [aR 1 0, aI (iI l)]) (HM q (foundV V x1 x2)) = rI (-1) (HM q (foundV V x1 x2))) := by
  obtain ⟨f1, f2, f3, f4, f5, f6, f7⟩ := found_p rk rl p1 p2 hR
  have hn := rk_n rk
  have hg : ∀ j : Nat, j ≤ pN V x1 x2 → (garb (foundV V x1 x2) (foundV V x1 x2 21 0 j) l ↔ garb V (pP V x1 x2 j) l) := by
    intro j hj
    rw [(f6 j hj).1]
    exact Iff.rfl
  rcases s_134 (d := d) (q := q) (V := foundV V x1 x2) (x1 := l) rk f7 sm f5 pl (by rw [f3]; omega) with ⟨i, a1, a2, a3, a4, a5⟩ | ⟨a1, a2⟩
  · obtain ⟨k, rfl⟩ : ∃ k : Nat, i = ((k + 1 : Nat) : Int) := ⟨(i - 1).toNat, by omega⟩
    have e1 : ((k + 1 : Nat) : Int) - 1 = (k : Int) := by omega
    rw [e1] at a3
    rw [(f6 (k + 1) (by omega)).1] at a5
    refine Or.inl ⟨k, by omega, (hg k (by omega)).1 a3, fun j hj z => ?_, by have := f6 (k + 1) (by omega); omega, a5⟩
    have := a4 ((j : Int) + 1) (by omega) (by omega)
    rw [show (j : Int) + 1 - 1 = j by omega] at this
    exact this ((hg j (by omega)).2 z)
  · refine Or.inr ⟨fun j hj z => ?_, a2⟩
    have := a1 ((j : Int) + 1) (by omega) (by omega)
    rw [show (j : Int) + 1 - 1 = j by omega] at this
    exact this ((hg j (by omega)).2 z)
theorem s_132 {d : Nat} {q : QQ} {V : VV} {B x1 x2 l : Int} (rb : rowB B 0 V) (hB : B ≤ 999990) (rl : relok V) (sm : smok V) (p1 : 0 ≤ x1 ∧ x1 < V 2 0 8) (p2 : 0 ≤ x2 ∧ x2 < V 2 0 8) (pl : 97 ≤ l ∧ l < 113) :
    (¬ pR V x1 x2 ∧ RUN (d + 4) 132 (am_en 132 [aR 1 0, aI (iI x1), aI (iI x2), aI (iI l)]) (HM q V) = rI 0 (HM q (upV (upV (lostV V x2) 1 0 11 1) 1 0 12 x1))) ∨
    (pR V x1 x2 ∧ ∃ i : Nat, i < pN V x1 x2 ∧ garb V (pP V x1 x2 i) l ∧ (∀ j : Nat, j < i → ¬ garb V (pP V x1 x2 j) l) ∧ RUN (d + 4) 132 (am_en 132 [aR 1 0, aI (iI x1), aI (iI x2), aI (iI l)]) (HM q V) = rI 0 (HM q (upV (upV (foundV V x1 x2) 1 0 11 2) 1 0 12 (pP V x1 x2 (i + 1))))) ∨
    (pR V x1 x2 ∧ (∀ j : Nat, j < pN V x1 x2 → ¬ garb V (pP V x1 x2 j) l) ∧ RUN (d + 4) 132 (am_en 132 [aR 1 0, aI (iI x1), aI (iI x2), aI (iI l)]) (HM q V) = rI 1 (HM q (sentV (foundV V x1 x2) (pP V x1 x2) l (pN V x1 x2)))) := by
  have rk := rowok_of rb (by omega)
  by_cases hR : pR V x1 x2
  · refine Or.inr ?_
    obtain ⟨f1, f2, f3, f4, f5, f6, f7⟩ := found_p rk rl p1 p2 hR
    have rkF : rowok (foundV V x1 x2) := rk
    have smF : smok (foundV V x1 x2) := sm
    rcases s_134p (d := d) (q := q) rk rl sm p1 p2 pl hR with ⟨i, a1, a2, a3, a4, a5⟩ | ⟨a1, a2⟩
    · refine Or.inl ⟨hR, i, a1, a2, a3, ?_⟩
      rw [g_132_0 rk rl sm p1 p2 pl, cif_pos (show spR (V 2 0 8) (cE V) (cW V) x2 x1 from hR), g_132_22 rkF f7 smF pl a5 (qle_refl _) (by constructor <;> omega)]
      exact cif_neg (by omega)
    · refine Or.inr ⟨hR, a1, ?_⟩
      have h5 := s_135 (d := d + 2) (q := q) (V := foundV V x1 x2) (x1 := l) (n := pN V x1 x2) rb hB f5 pl f3
      have e5 : sentV (foundV V x1 x2) (fun i => foundV V x1 x2 21 0 i) l (pN V x1 x2) = sentV (foundV V x1 x2) (pP V x1 x2) l (pN V x1 x2) := by
        unfold sentV
        rw [passV_congr (Q := pP V x1 x2) (pN V x1 x2) (fun i hi => (f6 i hi).1)]
      rw [e5] at h5
      rw [g_132_0 rk rl sm p1 p2 pl, cif_pos (show spR (V 2 0 8) (cE V) (cW V) x2 x1 from hR), g_132_22 rkF f7 smF pl a2 (qle_refl _) (by decide), cif_pos rfl]
      exact g_132_44 rkF f7 smF h5 (qle_refl _)
  · refine Or.inl ⟨hR, ?_⟩
    rw [g_132_0 rk rl sm p1 p2 pl]
    exact cif_neg hR
theorem s_138 {d : Nat} {q : QQ} {V : VV} {x1 x2 l : Int} (rk : rowok V) (rl : relok V) (sm : smok V) (h1 : R32 x1) (h2 : R32 x2) (h3 : R32 l) :
    RUN (d + 4) 138 (am_en 138 [aR 1 0, aI (iI x1), aI (iI x2), aI (iI l)]) (HM q V) = cif (0 ≤ x1 ∧ x1 < V 2 0 8) (cif (0 ≤ x2 ∧ x2 < V 2 0 8) (cif (l < 97) (rX 0 (HM (thr q) V)) (cif (l < 113) (cif (pR V x1 x2) (rI (b2i (∃ i : Nat, i < pN V x1 x2 ∧ garb V (pP V x1 x2 i) l)) (HM q (foundV V x1 x2))) (rI 1 (HM q (lostV V x2)))) (rX 0 (HM (thr q) V)))) (rX 2 (HM (thr q) V))) (rX 2 (HM (thr q) V)) := by
  rw [g_138_0 rk rl sm h1 h2 h3]
  refine cif_eq (fun p1 => ?_) (fun c => (cif_neg c).symm)
  rw [cif_pos p1]
  refine cif_eq (fun p2 => ?_) (fun c => (cif_neg c).symm)
  rw [cif_pos p2]
  refine cif_eq (fun c => (cif_pos c).symm) (fun c => ?_)
  rw [cif_neg c]
  refine cif_eq (fun c2 => ?_) (fun c => (cif_neg c).symm)
  rw [cif_pos c2]
  by_cases hR : pR V x1 x2
  · rw [cif_pos (show spR (V 2 0 8) (cE V) (cW V) x2 x1 from hR), cif_pos hR]
    obtain ⟨f1, f2, f3, f4, f5, f6, f7⟩ := found_p rk rl p1 p2 hR
    have rkF : rowok (foundV V x1 x2) := rk
    have smF : smok (foundV V x1 x2) := sm
    rcases s_134p (d := d) (q := q) rk rl sm p1 p2 ⟨by omega, c2⟩ hR with ⟨i, a1, a2, a3, a4, a5⟩ | ⟨a1, a2⟩
    · rw [g_138_24 rkF f7 smF a5 (qle_refl _) (by constructor <;> omega), cif_neg (by omega), b2i_pos ⟨i, a1, a2⟩]
    · rw [g_138_24 rkF f7 smF a2 (qle_refl _) (by decide), cif_pos rfl, b2i_neg (fun ⟨i, z1, z2⟩ => a1 i z1 z2)]
  · rw [cif_neg (show ¬ spR (V 2 0 8) (cE V) (cW V) x2 x1 from hR), cif_neg hR]
