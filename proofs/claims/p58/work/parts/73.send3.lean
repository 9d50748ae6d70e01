/-! sending; a tower is added -/
theorem keepV_off {V : VV} {r a b : Nat} (h : a ≠ 11) (h2 : ¬ (2 ≤ a ∧ a ≤ 10) ∨ b ≠ (V 11 0 1).toNat + 3) : keepV V r a b = V a b := by
  unfold keepV keepW
  rw [upV_off2 (by omega), upV_off2 (by omega), copyV_off h2]
theorem keepV_1 {V : VV} {r : Nat} : keepV V r 11 0 1 = (V 11 0 1 + 1) % 8 := by
  unfold keepV
  rw [upV_at, if_neg (by decide)]
  unfold keepW
  rw [upV_at, if_pos rfl, copyV_off (by omega)]
theorem keepV_2 {V : VV} {r : Nat} : keepV V r 11 0 2 = min (V 11 0 2 + 1) 8 := by
  unfold keepV
  rw [upV_at, if_pos rfl]
  unfold keepW
  rw [upV_at, if_neg (by decide), copyV_off (by omega)]
theorem hisok_keep {V : VV} {r : Nat} (ho : hisok V) : hisok (keepV V r) := by
  have h1 := ho.1
  have h2 := ho.2
  unfold hisok
  rw [keepV_1, keepV_2]
  omega
theorem rowB_keep {V : VV} {r b : Nat} {B : Int} (hb : b < 3) (rb : rowB B b V) : rowB B b (keepV V r) :=
  rowB_off (fun a _ _ => keepV_off (by omega) (by omega)) rb
theorem s_61 {d : Nat} {q : QQ} {V : VV} {x1 x2 x3 : Int} (rk : rowok V) (ho : hisok V) (h3 : R32 x1) (h4 : R32 x2) (h5 : R32 x3) :
    RUN (d + 2) 61 (am_en 61 [aR 1 0, aI (iI x1), aI (iI x2), aI (iI x3)]) (HM q V) = cif ((0 ≤ x1 ∧ x1 < 32) ∧ 1 ≤ x2 ∧ x2 ≤ 9 ∧ 0 ≤ x3 ∧ x3 < 4) (cif (V 2 0 8 < 8 ∧ fstI (posIs (V 4 0) x1) (V 2 0 8) = -1) (rI (V 2 0 8) (HM q (upV (upV (upV (upV (keepV V 0) 4 0 (V 2 0 8) x1) 5 0 (V 2 0 8) x2) 6 0 (V 2 0 8) x3) 2 0 8 (V 2 0 8 + 1)))) (rX 1 (HM (thr q) V))) (rX 0 (HM (thr q) V)) := by
  have e : keepV V 0 2 0 = V 2 0 := keepV_off (by decide) (by omega)
  rw [e_61 rk ho h3 h4 h5 (fun _ _ => rowB_keep (by decide) rk), e]
  refine cif_eq (fun c => ?_) (fun c => (cif_neg c).symm)
  rw [cif_pos c]
  refine cif_eq (fun c2 => ?_) (fun c => (cif_neg c).symm)
  rw [cif_pos c2]
  exact cif_pos c2.1
theorem s_131 {d : Nat} {q : QQ} {V : VV} {B x1 x2 l : Int} (rb : rowB B 0 V) (hB : B ≤ 999990) (rl : relok V) (sm : smok V) (ho : hisok V) (p1 : 0 ≤ x1 ∧ x1 < V 2 0 8) (p2 : 0 ≤ x2 ∧ x2 < V 2 0 8) (pl : 97 ≤ l ∧ l < 113) :
    (¬ pR V x1 x2 ∧ RUN (d + 5) 131 (am_en 131 [aR 1 0, aI (iI x1), aI (iI x2), aI (iI l)]) (HM q V) = rX 4 (HM (thr q) (upV (upV (lostV (copyV V 1 0) x2) 1 0 11 1) 1 0 12 x1))) ∨
    (pR V x1 x2 ∧ ∃ i : Nat, i < pN V x1 x2 ∧ garb V (pP V x1 x2 i) l ∧ (∀ j : Nat, j < i → ¬ garb V (pP V x1 x2 j) l) ∧ RUN (d + 5) 131 (am_en 131 [aR 1 0, aI (iI x1), aI (iI x2), aI (iI l)]) (HM q V) = rX 4 (HM (thr q) (upV (upV (foundV (copyV V 1 0) x1 x2) 1 0 11 2) 1 0 12 (pP V x1 x2 (i + 1))))) ∨
    (pR V x1 x2 ∧ (∀ j : Nat, j < pN V x1 x2 → ¬ garb V (pP V x1 x2 j) l) ∧ RUN (d + 5) 131 (am_en 131 [aR 1 0, aI (iI x1), aI (iI x2), aI (iI l)]) (HM q V) = rI (pD V x1 x2) (HM q (keepV (sentV (foundV (copyV V 1 0) x1 x2) (pP V x1 x2) l (pN V x1 x2)) 1))) := by
  have rk := rowok_of rb (by omega)
  have hn := rk_n rk
  have e0 := g_131_0 (d := d) (q := q) (V := V) (x1 := x1) (x2 := x2) (x3 := l) rk rl sm ho (by constructor <;> omega) (by constructor <;> omega) (by constructor <;> omega)
  rw [cif_pos p1, cif_pos p2, cif_neg (by omega), cif_pos pl.2] at e0
  rw [e0]
  have rbW : rowB B 0 (copyV V 1 0) := rb
  have rkW : rowok (copyV V 1 0) := rk
  have rlW : relok (copyV V 1 0) := rl
  have smW : smok (copyV V 1 0) := sm
  have hoW : hisok (copyV V 1 0) := ho
  rcases s_132 (d := d) (q := q) rbW hB rlW smW p1 p2 pl with ⟨a1, a2⟩ | ⟨a1, i, a2, a3, a4, a5⟩ | ⟨a1, a2, a3⟩
  · refine Or.inl ⟨a1, ?_⟩
    rw [g_131_25 rkW rlW smW hoW a2 (qle_refl _) (by decide) (fun c => absurd rfl c)]
    exact cif_pos rfl
  · refine Or.inr (Or.inl ⟨a1, i, a2, a3, a4, ?_⟩)
    rw [g_131_25 rkW rlW smW hoW a5 (qle_refl _) (by decide) (fun c => absurd rfl c)]
    exact cif_pos rfl
  · refine Or.inr (Or.inr ⟨a1, a2, ?_⟩)
    obtain ⟨f1, f2, f3, f4, f5, f6, f7⟩ := found_p rkW rlW p1 p2 a1
    have e11 : sentV (foundV (copyV V 1 0) x1 x2) (pP (copyV V 1 0) x1 x2) l (pN (copyV V 1 0) x1 x2) 11 0 = V 11 0 := by
      unfold sentV
      rw [upV_off2 (by omega), passV_off (by omega)]
      rfl
    have e15 : sentV (foundV (copyV V 1 0) x1 x2) (pP (copyV V 1 0) x1 x2) l (pN (copyV V 1 0) x1 x2) 15 0 7 = pD V x1 x2 := by
      unfold sentV
      rw [upV_off2 (by omega), passV_off (by omega)]
      rfl
    rw [g_131_25 rkW rlW smW hoW a3 (qle_refl _) (by decide) (fun _ => by unfold hisok; rw [e11]; exact ho), cif_neg (by decide), e15]
    rfl
