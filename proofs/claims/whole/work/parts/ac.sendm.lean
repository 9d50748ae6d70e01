/-! the model sends a letter -/
theorem setA_at {V : VV} {a : Nat} {f : Int → Int} : setA V a 0 f a 0 = f := by
  funext j
  unfold setA
  rw [Nat.beq_refl]
  rfl
theorem upV_row {V : VV} {a b : Nat} {e v : Int} : upV V a b e v a b = setF (V a b) e v := by
  funext j
  rw [upV_at]
  rfl
/-- a step of the model's sending -/
def stepM (V : VV) (t u l c : Int) : VV := upV (cpV (upV V 34 0 (50 + 13 * t + 3) (c + 1)) 34 0 34 0 (50 + 13 * u + 5) (50 + 13 * u + 5 + 1) 7) 34 0 (50 + 13 * u + 5) l
theorem stepM_1 {V : VV} {t u c j : Int} : cpV (upV V 34 0 (50 + 13 * t + 3) (c + 1)) 34 0 34 0 (50 + 13 * u + 5) (50 + 13 * u + 5 + 1) 7 34 0 j = if 50 + 13 * u + 5 + 1 ≤ j ∧ j < 50 + 13 * u + 5 + 1 + 7 then setF (V 34 0) (50 + 13 * t + 3) (c + 1) (j - 1) else setF (V 34 0) (50 + 13 * t + 3) (c + 1) j := by
  show (if 50 + 13 * u + 5 + 1 ≤ j ∧ j < 50 + 13 * u + 5 + 1 + 7 then upV V 34 0 (50 + 13 * t + 3) (c + 1) 34 0 (50 + 13 * u + 5 + (j - (50 + 13 * u + 5 + 1))) else upV V 34 0 (50 + 13 * t + 3) (c + 1) 34 0 j) = _
  rw [upV_row, show 50 + 13 * u + 5 + (j - (50 + 13 * u + 5 + 1)) = j - 1 by omega]
theorem stepM_4 {V : VV} {t u l c : Int} : stepM V t u l c 34 0 (50 + 13 * u + 4) = setF (V 34 0) (50 + 13 * t + 3) (c + 1) (50 + 13 * u + 4) := by
  unfold stepM
  rw [upV_at, if_neg (by omega), stepM_1, if_neg (by omega)]
theorem stepM_row {V : VV} {t u l c : Int} : upV (stepM V t u l c) 34 0 (50 + 13 * u + 4) (min 8 (stepM V t u l c 34 0 (50 + 13 * u + 4) + 1)) 34 0 = logS (setF (V 34 0) (50 + 13 * t + 3) (c + 1)) u l := by
  rw [upV_row, stepM_4]
  unfold logS
  congr 1
  unfold stepM
  rw [upV_row]
  congr 1
  funext j
  exact stepM_1
theorem cE_eq {U W : VV} (h3 : W 3 0 = U 3 0) (h4 : W 4 0 = U 4 0) (h5 : W 5 0 = U 5 0) : cE W = cE U := by
  show seeT _ _ _ = seeT _ _ _
  rw [h3, h4, h5]
theorem cW_eq {U W : VV} (h2 : W 2 0 = U 2 0) (h4 : W 4 0 = U 4 0) : cW W = cW U := by
  show delT _ _ = delT _ _
  rw [h2, h4]
theorem SPX_eq {U W : VV} {last : Int} {f g : Int → Int} (h2 : W 2 0 = U 2 0) (h3 : W 3 0 = U 3 0) (h4 : W 4 0 = U 4 0) (h5 : W 5 0 = U 5 0) : SPX W last f g = SPX U last f g := by
  unfold SPX
  rw [cE_eq h3 h4 h5, cW_eq h2 h4, h2]
/-- the class's row along the way -/
theorem passV_2345 {U : VV} {P : Nat → Int} {l : Int} (k : Nat) : passV U P l k 2 0 = U 2 0 ∧ passV U P l k 3 0 = U 3 0 ∧ passV U P l k 4 0 = U 4 0 ∧ passV U P l k 5 0 = U 5 0 :=
  ⟨passV_off (by omega) k, passV_off (by omega) k, passV_off (by omega) k, passV_off (by omega) k⟩
theorem send_go {d : Nat} {q : QQ} {U : VV} {B x1 x2 l : Int} (rb : rowB B 0 U) (hB : B ≤ 999990) (p1 : 0 ≤ x1 ∧ x1 < U 2 0 8) (p2 : 0 ≤ x2 ∧ x2 < U 2 0 8) (pl : 97 ≤ l ∧ l < 113) (hR : pR U x1 x2) : ∀ (k i : Nat) (V : VV) (l5 l6 : Option AV), i + k = pN U x1 x2 → pN U x1 x2 ≤ 7 → MR V (passV U (pP U x1 x2) l i) → SPX U x2 (V 38 0) (V 39 0) →
    ∃ W, (∀ a b, a ≠ 34 → W a b = V a b) ∧ MR W (sentV U (pP U x1 x2) l (pN U x1 x2)) ∧ RUN (d + 5) 271 (63, [sR 33 0, sI x1, sI x2, sI l, sI (pP U x1 x2 i), l5, l6], []) (HM q V) = rI (V 38 0 x1) (HM q W) := by
  have rk := rowok_of rb (by omega)
  have hn := rk_n rk
  intro k
  induction k with
  | zero =>
    intro i V l5 l6 hi h7 mr sp
    have ei : i = pN U x1 x2 := by omega
    subst ei
    obtain ⟨c1, c2, c3, c4⟩ := pP_is rk sp.2 p1 hR (pN U x1 x2) (Nat.le_refl _)
    have c5 : pP U x1 x2 (pN U x1 x2) = x2 := Classical.byContradiction fun z => by have := c3.mpr z; omega
    have hP : ∀ i : Nat, i ≤ pN U x1 x2 → 0 ≤ pP U x1 x2 i ∧ pP U x1 x2 i < 8 := fun i hi => by have := (pP_is rk sp.2 p1 hR i hi).1; omega
    have rkk : rowok (passV U (pP U x1 x2) l (pN U x1 x2)) := rowok_of (rowB_pass rb (by omega) (pN U x1 x2) hP) (by omega)
    refine ⟨_, fun a b h => ?_, ?_, (g_271_63 rkk mr (by constructor <;> omega) (by constructor <;> omega) (fun _ => by omega) (fun _ => by omega) (fun _ => by omega)).trans (cif_pos c5)⟩
    · exact upV_off h
    · unfold MR
      rw [upV_row, show 34 + l - 97 = 34 + (l - 97) by omega]
      exact SR_sent (by omega) (fun t ht => rk_8 rkk ht) mr
  | succ k ih =>
    intro i V l5 l6 hi h7 mr sp
    obtain ⟨c1, c2, c3, c4⟩ := pP_is rk sp.2 p1 hR i (by omega)
    obtain ⟨d1, d2, d3, d4⟩ := pP_is rk sp.2 p1 hR (i + 1) (by omega)
    have c5 := c3.mp (by omega)
    have hP : ∀ j : Nat, j ≤ i → 0 ≤ pP U x1 x2 j ∧ pP U x1 x2 j < 8 := fun j hj => by have := (pP_is rk sp.2 p1 hR j (by omega)).1; omega
    have rbk := rowB_pass (l := l) rb (by omega) i hP
    have rkk : rowok (passV U (pP U x1 x2) l i) := rowok_of rbk (by omega)
    obtain ⟨q2, q3, q4, q5⟩ := passV_2345 (U := U) (P := pP U x1 x2) (l := l) i
    have b8 : ∀ t, 0 ≤ t ∧ t < 8 → 0 ≤ passV U (pP U x1 x2) l i 8 0 t ∧ passV U (pP U x1 x2) l i 8 0 t ≤ 8 := fun t ht => rk_8 rkk ht
    -- the next tower, with the row as it is now
    have e258 : ∀ (d : Nat), RUN (d + 3) 258 (am_en 258 [aR 33 0, aI (iI (pP U x1 x2 i))]) (HM q V) = rI (pP U x1 x2 (i + 1)) (HM q V) := by
      intro d
      have := s_258 (d := d) (q := q) (V := V) (last := x2) (t := pP U x1 x2 i) rkk mr (show SPX _ _ _ _ by rw [SPX_eq q2 q3 q4 q5]; exact sp) (by rw [q2]; exact p2) (by rw [q2]; exact c1) (by unfold pR; rw [cE_eq q3 q4 q5, cW_eq q2 q4, q2]; exact c2) c5
      rw [this, cE_eq q3 q4 q5, cW_eq q2 q4, q2, c4]
    generalize hUk : passV U (pP U x1 x2) l i = Uk at *
    have eU : passV U (pP U x1 x2) l (i + 1) = stepV Uk (pP U x1 x2 i) (pP U x1 x2 (i + 1)) l := by
      show stepV (passV U (pP U x1 x2) l i) _ _ _ = _
      rw [hUk]
    have mrX : MR (upV (stepM V (pP U x1 x2 i) (pP U x1 x2 (i + 1)) l (Uk 7 0 (pP U x1 x2 i))) 34 0 (50 + 13 * pP U x1 x2 (i + 1) + 4) (min 8 (stepM V (pP U x1 x2 i) (pP U x1 x2 (i + 1)) l (Uk 7 0 (pP U x1 x2 i)) 34 0 (50 + 13 * pP U x1 x2 (i + 1) + 4) + 1))) (passV U (pP U x1 x2) l (i + 1)) := by
      unfold MR
      rw [stepM_row, eU]
      exact SR_log (by omega) b8 (SR_count (by omega) b8 mr)
    obtain ⟨W, w1, w2, w3⟩ := ih (i + 1) _ (sI (pP U x1 x2 (i + 1))) (sI (50 + 13 * pP U x1 x2 (i + 1) + 5)) (by omega) h7 mrX sp
    refine ⟨W, fun a b h => ?_, w2, Eq.trans ?_ w3⟩
    · rw [w1 a b h]
      unfold stepM
      rw [upV_off h, upV_off h, cpV_off (by omega), upV_off h]
    · have s1 := g_271_63 (d := d) (q := q) (V := V) (x1 := x1) (x2 := x2) (x3 := l) (x4 := pP U x1 x2 i) (l5 := l5) (l6 := l6) rkk mr (by constructor <;> omega) (by constructor <;> omega) (fun z => absurd z c5) (fun z => absurd z c5) (fun z => absurd z c5)
      refine (s1.trans (cif_neg c5)).trans ?_
      refine (g_271_72 rkk mr (e258 (d + 1)) (qle_refl _)).trans ?_
      refine (g_271_85 rkk mr (run_220 (x1 := pP U x1 x2 i) (x2 := 3) (z := Uk 7 0 (pP U x1 x2 i)) (by omega) (by decide) (mr_t3 mr (by omega))) (qle_refl _) (by omega) (by decide) (by omega) (by omega) (by omega) (by omega) (by omega)).trans ?_
      have bu := b8 (pP U x1 x2 (i + 1)) (by omega)
      have ez : stepM V (pP U x1 x2 i) (pP U x1 x2 (i + 1)) l (Uk 7 0 (pP U x1 x2 i)) 34 0 (50 + 13 * pP U x1 x2 (i + 1) + 4) = Uk 8 0 (pP U x1 x2 (i + 1)) := by
        rw [stepM_4, setF_ne (by omega)]
        exact mr_t4 mr (by omega)
      have rkU : rowok (passV U (pP U x1 x2) l (i + 1)) := rowok_of (rowB_pass (l := l) rb (by omega) (i + 1) (fun j hj => by have := (pP_is rk sp.2 p1 hR j (by omega)).1; omega)) (by omega)
      exact gz_271_142 (V := stepM V (pP U x1 x2 i) (pP U x1 x2 (i + 1)) l (Uk 7 0 (pP U x1 x2 i))) (run_220 (x1 := pP U x1 x2 (i + 1)) (x2 := 4) (by omega) (by decide) rfl) (qle_refl _) (by decide) (by rw [ez]; constructor <;> omega) (by omega) (by decide)
