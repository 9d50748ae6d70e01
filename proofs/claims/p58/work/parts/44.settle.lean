/-! costs are settled as they should -/
theorem setA_up {V : VV} {A : Nat} {f : Int → Int} {e v : Int} : upV (setA V A 0 f) A 0 e v = setA V A 0 (fun j => if j = e then v else f j) := by
  funext a b j
  unfold upV setA
  cases Nat.beq a A && Nat.beq b 0 <;> rfl
theorem setA_up0 {V : VV} {A : Nat} {e v : Int} : upV V A 0 e v = setA V A 0 (fun j => if j = e then v else V A 0 j) := by
  funext a b j
  unfold upV setA
  cases ha : Nat.beq a A with
  | false => rfl
  | true =>
    cases hb : Nat.beq b 0 with
    | false => rfl
    | true =>
      have e1 := Nat.eq_of_beq_eq_true ha
      have e2 := Nat.eq_of_beq_eq_true hb
      subst e1 e2
      rfl
theorem setA_self {V : VV} {A : Nat} : setA V A 0 (V A 0) = V := by
  funext a b j
  unfold setA
  cases ha : Nat.beq a A with
  | false => rfl
  | true =>
    cases hb : Nat.beq b 0 with
    | false => rfl
    | true =>
      have e1 := Nat.eq_of_beq_eq_true ha
      have e2 := Nat.eq_of_beq_eq_true hb
      subst e1 e2
      rfl
theorem setA_rd {V : VV} {A : Nat} {f : Int → Int} {j : Int} : setA V A 0 f A 0 j = f j := by
  unfold setA
  rw [Nat.beq_refl]
  rfl
def stepW (V : VV) (t u : Int) : Int := V 17 t.toNat u
def initC (V : VV) (last j : Int) : Int := if j = last then 0 else if 0 ≤ j ∧ j < 8 then 1000000 else V 20 0 j
noncomputable def settleC (V : VV) (last : Int) : Int → Int := (djk (V 2 0 8) (stepW V) (initC V last) (V 2 0 8).toNat).2
noncomputable def settleV (V : VV) (last : Int) : VV := setA V 20 0 (settleC V last)
theorem relok_set {V : VV} (rl : relok V) {f : Int → Int} (h : ∀ t, 0 ≤ t ∧ t < 8 → 0 ≤ f t ∧ f t ≤ 1000000) : relok (setA V 20 0 f) := ⟨rl.1, rl.2.1, h⟩
theorem settle_inv {V : VV} (rk : rowok V) (rl : relok V) {last : Int} (hl : 0 ≤ last ∧ last < V 2 0 8) (k : Nat) (hk : (k : Int) ≤ V 2 0 8) : ∀ t, 0 ≤ t ∧ t < 8 → 0 ≤ (djk (V 2 0 8) (stepW V) (initC V last) k).2 t ∧ (djk (V 2 0 8) (stepW V) (initC V last) k).2 t ≤ 1000000 := by
  have hn := rk_n rk
  refine (djk_inv hn hl (fun t u ht hu => (rl_17 rl (by omega) (by omega)).1) (fun t ht => ?_) k hk).1.2.1
  unfold initC
  rw [if_pos ht]
set_option maxHeartbeats 1000000 in
theorem s_45 {d : Nat} {q : QQ} {V : VV} {x1 : Int} (rk : rowok V) (rl : relok V) (p : 0 ≤ x1 ∧ x1 < V 2 0 8) : RUN (d + 1) 45 (am_en 45 [aR 15 0, aI (iI x1)]) (HM q V) = rV (HM q (settleV V x1)) := by
  have hn := rk_n rk
  rw [g_45_0 rk rl (by omega)]
  have e0 : upV (fill20 V 1000000) 20 0 x1 0 = setA V 20 0 (initC V x1) := by
    funext a b j
    unfold upV fill20 rowV setA initC
    cases ha : Nat.beq a 20 with
    | false => rfl
    | true =>
      cases hb : Nat.beq b 0 with
      | false => rfl
      | true =>
        have e1 := Nat.eq_of_beq_eq_true ha
        have e2 := Nat.eq_of_beq_eq_true hb
        subst e1 e2
        rfl
  rw [e0]
  have inner : ∀ (f : Int → Int) (s u k : Int), (∀ t, 0 ≤ t ∧ t < 8 → 0 ≤ f t ∧ f t ≤ 1000000) → 0 ≤ u ∧ u < 8 → ∃ l, RUN (d + 1) 45 (48, [sR 15 0, sI x1, sI s, sI k, sI u, sI 0], []) (HM q (setA V 20 0 f)) = RUN (d + 1) 45 (20, [sR 15 0, sI x1, sI s, sI (k + 1), sI u, l], []) (HM q (setA V 20 0 (relaxF (V 2 0 8) (fun t => costO (stepW V t u) (f u)) f))) := by
    intro f s u k hf hu
    have hin : ∀ i, 0 ≤ i → i ≤ V 2 0 8 → ∀ t, 0 ≤ t ∧ t < 8 → 0 ≤ relaxF i (fun t => costO (stepW V t u) (f u)) f t ∧ relaxF i (fun t => costO (stepW V t u) (f u)) f t ≤ 1000000 := by
      intro i hi hi2 t ht
      have h1 := hf t ht
      have h2 := hf u hu
      unfold relaxF
      by_cases c : 0 ≤ t ∧ t < i
      · rw [if_pos c]
        have h3 := costO_ge (rl_17 rl ht hu).1 h2.2
        show 0 ≤ min (f t) (costO (V 17 t.toNat u) (f u)) ∧ min (f t) (costO (V 17 t.toNat u) (f u)) ≤ 1000000
        omega
      · rw [if_neg c]
        exact h1
    obtain ⟨_, e⟩ := loop_to (fun i g (_ : Unit) => RUN (d + 1) 45 (48, [sR 15 0, sI x1, sI s, sI k, sI u, sI i], []) (HM q (setA V 20 0 g))) (fun i => relaxF i (fun t => costO (stepW V t u) (f u)) f) 0 (V 2 0 8) (by
      intro i l h1 h2
      refine ⟨(), ?_⟩
      try dsimp only
      rw [g_45_48 (V := setA V 20 0 (relaxF i (fun t => costO (stepW V t u) (f u)) f)) rk (relok_set rl (hin i h1 (by omega))) hu (by omega)]
      refine (cif_neg (show ¬ V 2 0 8 ≤ i by omega)).trans ?_
      refine congrArg (fun z => RUN (d + 1) 45 (48, [sR 15 0, sI x1, sI s, sI k, sI u, sI (i + 1)], []) (HM q z)) ?_
      rw [setA_up]
      refine congrArg (setA V 20 0) ?_
      funext j
      rw [setA_rd, setA_rd]
      show (if j = i then min (relaxF i (fun t => costO (stepW V t u) (f u)) f i) (costO (V 17 i.toNat u) (relaxF i (fun t => costO (stepW V t u) (f u)) f u)) else relaxF i (fun t => costO (stepW V t u) (f u)) f j) = relaxF (i + 1) (fun t => costO (stepW V t u) (f u)) f j
      have r1 : relaxF i (fun t => costO (stepW V t u) (f u)) f i = f i := if_neg (by omega)
      have r2 : relaxF i (fun t => costO (stepW V t u) (f u)) f u = f u := by
        unfold relaxF
        by_cases c : 0 ≤ u ∧ u < i
        · rw [if_pos c]
          exact Int.min_eq_left (costO_ge (rl_17 rl hu hu).1 (hf u hu).2)
        · rw [if_neg c]
      rw [r1, r2]
      by_cases ej : j = i
      · subst ej
        rw [if_pos rfl]
        exact (if_pos (by omega)).symm
      · rw [if_neg ej]
        unfold relaxF
        by_cases c : 0 ≤ j ∧ j < i
        · rw [if_pos c, if_pos (by omega)]
        · rw [if_neg c, if_neg (by omega)]) hn.1 ()
    refine ⟨sI (V 2 0 8), ?_⟩
    have z : relaxF 0 (fun t => costO (stepW V t u) (f u)) f = f := by
      funext j
      exact if_neg (by omega)
    try dsimp only at e
    rw [z] at e
    refine Eq.trans e ?_
    rw [g_45_48 (V := setA V 20 0 (relaxF (V 2 0 8) (fun t => costO (stepW V t u) (f u)) f)) rk (relok_set rl (hin _ hn.1 (Int.le_refl _))) hu (by omega)]
    exact cif_pos (Int.le_refl _)
  obtain ⟨l', e⟩ := loop_to (fun i (g : Int × (Int → Int)) (l : Option AV × Option AV) => RUN (d + 1) 45 (20, [sR 15 0, sI x1, sI g.1, sI i, l.1, l.2], []) (HM q (setA V 20 0 g.2))) (fun i => djk (V 2 0 8) (stepW V) (initC V x1) i.toNat) 0 (V 2 0 8) (by
    intro i l h1 h2
    have hf := settle_inv rk rl p i.toNat (by omega)
    have hnb := (nearN_is (s := (djk (V 2 0 8) (stepW V) (initC V x1) i.toNat).1) hf (V 2 0 8).toNat (by omega)).1
    obtain ⟨l2, e2⟩ := inner (djk (V 2 0 8) (stepW V) (initC V x1) i.toNat).2 (bOr (djk (V 2 0 8) (stepW V) (initC V x1) i.toNat).1 (bShl 1 (nearN (djk (V 2 0 8) (stepW V) (initC V x1) i.toNat).2 (djk (V 2 0 8) (stepW V) (initC V x1) i.toNat).1 (V 2 0 8).toNat).1)) (nearN (djk (V 2 0 8) (stepW V) (initC V x1) i.toNat).2 (djk (V 2 0 8) (stepW V) (initC V x1) i.toNat).1 (V 2 0 8).toNat).1 i hf hnb
    refine ⟨(sI (nearN (djk (V 2 0 8) (stepW V) (initC V x1) i.toNat).2 (djk (V 2 0 8) (stepW V) (initC V x1) i.toNat).1 (V 2 0 8).toNat).1, l2), ?_⟩
    try dsimp only
    rw [g_45_20 (V := setA V 20 0 (djk (V 2 0 8) (stepW V) (initC V x1) i.toNat).2) rk (relok_set rl hf) (by omega)]
    refine (cif_neg (show ¬ V 2 0 8 ≤ i by omega)).trans ?_
    rw [show (i + 1).toNat = i.toNat + 1 by omega]
    exact e2) hn.1 (none, none)
  refine Eq.trans e ?_
  have hf := settle_inv rk rl p (V 2 0 8).toNat (by omega)
  try dsimp only
  rw [g_45_20 (V := setA V 20 0 (djk (V 2 0 8) (stepW V) (initC V x1) (V 2 0 8).toNat).2) rk (relok_set rl hf) (by omega)]
  exact cif_pos (Int.le_refl _)
/-- the first next tower that keeps the cost -/
noncomputable def bestN (w : Int → Int → Int) (c : Int → Int) (n t : Int) : Int := if fstI (fun u => costO (w t u) (c u) = c t) n = -1 then t else fstI (fun u => costO (w t u) (c u) = c t) n
theorem s_106 {d : Nat} {q : QQ} {V : VV} {x1 : Int} (rk : rowok V) (rl : relok V) (p : 0 ≤ x1 ∧ x1 < 8) : RUN (d + 1) 106 (am_en 106 [aR 15 0, aI (iI x1)]) (HM q V) = rI (bestN (stepW V) (V 20 0) (V 2 0 8) x1) (HM q V) := by
  have hn := rk_n rk
  rw [g2_106_0 rk rl p]
  unfold bestN
  rcases loop_find (fun i (_ : Unit) => RUN (d + 1) 106 (2, [sR 15 0, sI x1, sI i], []) (HM q V)) (fun u => costO (stepW V x1 u) (V 20 0 u) = V 20 0 x1) (fun i => rI i (HM q V)) 0 (V 2 0 8) (by
    intro i l h1 h2
    refine ⟨(), ?_⟩
    try dsimp only
    rw [g2_106_2 rk rl p (by omega), cif_neg (by omega)]
    rfl) hn.1 () with ⟨i, a1, a2, a3, a4, e⟩ | ⟨a1, _, e⟩
  · rw [fstI_eq a1 a2 a3 a4, if_neg (by omega)]
    exact e
  · rw [fstI_no a1, if_pos rfl]
    refine Eq.trans e ?_
    try dsimp only
    rw [g2_106_2 rk rl p (by omega)]
    exact cif_pos (Int.le_refl _)
