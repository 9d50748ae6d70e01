/-! the law's sights: towers one after the other, watches, and the end -/
section
variable {d b : Nat} {q : QQ} {V : VV}
theorem so_go (lw : LW V) (hs : q.1.2.2 b = some (Sum.inl (0, 32, fun _ => aN))) {t m : Int} (ht : 0 ≤ t ∧ t < V 2 0 8) (l7 l8 : Option AV) :
    ∃ l7', RUN (d + 12) 314 (123, [sR 1 0, sI (V 2 0 8), sR 46 b, sI t, sI (V 4 0 t), sI m, sI 0, l7, l8], []) (HM q V) =
      RUN (d + 12) 314 (200, [sR 1 0, sI (V 2 0 8), sR 46 b, sI t, sI (V 4 0 t), sI m, sI (V 2 0 8), l7', l8], []) (HM q V) := by
  have hn := rk_n lw.1
  have h4 := rk_4 lw.1 (j := t) (by omega)
  have h18 := eyeV_b lw.1 (t := t) (by omega)
  obtain ⟨l', e⟩ := loop_to (fun (i : Int) (_ : Unit) (l : Option AV) => RUN (d + 12) 314 (123, [sR 1 0, sI (V 2 0 8), sR 46 b, sI t, sI (V 4 0 t), sI m, sI i, l, l8], []) (HM q V)) (fun _ => ()) 0 (V 2 0 8) (by
    intro i l h1 h2
    try dsimp only
    have i4 := rk_4 lw.1 (j := i) (by omega)
    have i18 := eyeV_b lw.1 (t := i) (by omega)
    have zero : ¬ seeT (V 3 0) (V 4 0) (V 5 0) t i → RUN (d + 12) 314 (165, [sR 1 0, sI (V 2 0 8), sR 46 b, sI t, sI (V 4 0 t), sI m, sI i, l, l8], []) (HM q V) = RUN (d + 12) 314 (123, [sR 1 0, sI (V 2 0 8), sR 46 b, sI t, sI (V 4 0 t), sI m, sI (i + 1), sI 0, l8], []) (HM q V) := by
      intro c
      refine Eq.trans (g_314_165 hs lw.1 lw.2.2.1) ?_
      refine Eq.trans (g_314_166 hs lw.1 lw.2.2.1 ht ⟨h1, h2⟩ ⟨by decide, by decide⟩) ?_
      exact cif_pos (b2i_neg c)
    have st := g_314_123 (d := d) (q := q) (V := V) (b2 := b) (x1 := V 2 0 8) (x3 := t) (x4 := V 4 0 t) (x5 := m) (x6 := i) (l7 := l) (l8 := l8) hs lw.1 lw.2.2.1 (by omega) (by omega) (by omega) (fun _ _ => ht) (fun _ _ => ⟨h1, h2⟩) (fun _ _ => by omega) (fun _ _ => ⟨h18.1, Int.lt_of_le_of_lt h18.2 (by decide)⟩) (fun _ _ => by omega) (fun _ _ => ⟨i18.1, Int.lt_of_le_of_lt i18.2 (by decide)⟩)
    rw [cif_neg (by omega)] at st
    by_cases c : i = t
    · rw [cif_pos c] at st
      exact ⟨sI 0, st.trans (zero (fun z => z.1 c.symm))⟩
    · rw [cif_neg c] at st
      by_cases c2 : clear (V 3 0) (V 4 0 t) (eyeV (V 3 0) (V 4 0) (V 5 0) t) (V 4 0 i) (eyeV (V 3 0) (V 4 0) (V 5 0) i)
      · rw [cif_pos c2] at st
        refine ⟨sI 1, st.trans ?_⟩
        refine Eq.trans (g_314_166 hs lw.1 lw.2.2.1 ht ⟨h1, h2⟩ ⟨by decide, by decide⟩) ?_
        exact cif_pos (b2i_pos ⟨fun z => c z.symm, c2⟩)
      · rw [cif_neg c2] at st
        exact ⟨sI 0, st.trans (zero (fun z => c2 z.2))⟩) hn.1 l7
  refine ⟨l', Eq.trans e ?_⟩
  try dsimp only
  refine Eq.trans (g_314_123 hs lw.1 lw.2.2.1 (by omega) (by omega) (by omega) (fun z => absurd (Int.le_refl _) z) (fun z => absurd (Int.le_refl _) z) (fun z => absurd (Int.le_refl _) z) (fun z => absurd (Int.le_refl _) z) (fun z => absurd (Int.le_refl _) z) (fun z => absurd (Int.le_refl _) z)) ?_
  exact cif_pos (Int.le_refl _)
theorem posF_eq (lw : LW V) {t : Int} (ht : 0 ≤ t ∧ t < V 2 0 8) : fstI (posIs (V 4 0) (V 4 0 t)) (V 2 0 8) = t :=
  fstI_eq ht.1 ht.2 (show V 4 0 t = V 4 0 t from rfl) (fun j j1 j2 e => lw.2.2.1 j t ⟨j1, by omega⟩ ht (by omega) e)
theorem popM {P : Int → Prop} : popF (maskI P 32) = cntI P 32 := by
  rw [popF_cnt]
  exact cntI_congr fun j j1 j2 => ⟨fun z => ((tbit_maskI P (by decide) ⟨j1, j2⟩).mp z).2, fun z => (tbit_maskI P (by decide) ⟨j1, j2⟩).mpr ⟨j2, z⟩⟩
/-- one tower -/
theorem st_go1 (lw : LW V) (hs : q.1.2.2 b = some (Sum.inl (0, 32, fun _ => aN))) {t : Int} (ht : 0 ≤ t ∧ t < V 2 0 8) (l7 l8 : Option AV) :
    ∃ l4 l5 l6 l7' l8', RUN (d + 12) 314 (123, [sR 1 0, sI (V 2 0 8), sR 46 b, sI t, sI (V 4 0 t), sI (cntI (seeP (V 3 0) (V 4 0) (V 5 0) t) 32), sI 0, l7, l8], []) (HM q V) =
      RUN (d + 12) 314 (12, [sR 1 0, sI (V 2 0 8), sR 46 b, sI (t + 1), l4, l5, l6, l7', l8'], []) (HM q V) := by
  have hn := rk_n lw.1
  have h4 := rk_4 lw.1 (j := t) (by omega)
  have h6 := rk_6 lw.1 (j := t) (by omega)
  obtain ⟨l', e⟩ := so_go (d := d) (m := cntI (seeP (V 3 0) (V 4 0) (V 5 0) t) 32) lw hs ht l7 l8
  rw [e]
  have hp := posF_eq lw ht
  have hc := cntI_b (seeP (V 3 0) (V 4 0) (V 5 0) t) (n := 32) (by decide)
  obtain ⟨r1, r2, r3⟩ := rankF_in (g := V 3 0) (p := V 4 0) (h := V 5 0) ht
  have fin : ∀ l4 l5 l6 l7 l8, RUN (d + 12) 314 (289, [sR 1 0, sI (V 2 0 8), sR 46 b, sI t, l4, l5, l6, l7, l8], []) (HM q V) = RUN (d + 12) 314 (12, [sR 1 0, sI (V 2 0 8), sR 46 b, sI (t + 1), l4, l5, l6, l7, l8], []) (HM q V) := by
    intro l4 l5 l6 l7 l8
    refine Eq.trans (g_314_289 hs lw.1 lw.2.2.1 ht) ?_
    exact (cif_neg (by omega)).trans (cif_pos (by omega))
  have end245 : ∀ x7 s0 : Int, ¬ s0 < 0 → R32 s0 → (-13 ≤ x7 ∧ x7 < 8) → (s0 = 0 → ¬ rankF (V 3 0) (V 4 0) (V 5 0) (V 2 0 8) t < x7) → ∃ l4 l5 l6 l7' l8', RUN (d + 12) 314 (245, [sR 1 0, sI (V 2 0 8), sR 46 b, sI t, sI (V 4 0 t), sI (cntI (seeP (V 3 0) (V 4 0) (V 5 0) t) 32), sI (rankF (V 3 0) (V 4 0) (V 5 0) (V 2 0 8) t), sI x7, l8], [aI (iI s0)]) (HM q V) =
      RUN (d + 12) 314 (12, [sR 1 0, sI (V 2 0 8), sR 46 b, sI (t + 1), l4, l5, l6, l7', l8'], []) (HM q V) := by
    intro x7 s0 k1 k2 k3 k4
    have st := h_314_245 (d := d) (q := q) (V := V) (b2 := b) (x1 := V 2 0 8) (x3 := t) (x4 := V 4 0 t) (x5 := cntI (seeP (V 3 0) (V 4 0) (V 5 0) t) 32) (x6 := rankF (V 3 0) (V 4 0) (V 5 0) (V 2 0 8) t) (x7 := x7) (s0 := s0) (l8 := l8) hs lw.1 lw.2.2.1 ht popM (by omega) (by omega) hp (by omega) (by omega) (by omega) k1 k2 k3 k4
    by_cases c : s0 = 0
    · rw [cif_pos c] at st
      exact ⟨_, _, _, _, _, st.trans (fin _ _ _ _ _)⟩
    · rw [cif_neg c] at st
      exact ⟨_, _, _, _, _, st.trans (fin _ _ _ _ _)⟩
  have e200 := h_314_200 (d := d) (q := q) (V := V) (b2 := b) (x1 := V 2 0 8) (x3 := t) (x4 := V 4 0 t) (x5 := cntI (seeP (V 3 0) (V 4 0) (V 5 0) t) 32) (l6 := sI (V 2 0 8)) (l7 := l') (l8 := l8) hs lw.1 lw.2.2.1 ht (show ¬ rankF (V 3 0) (V 4 0) (V 5 0) (V 2 0 8) t = -1 by omega) (fun z => by
    obtain ⟨a1, a2, a3⟩ := rankF_in (g := V 3 0) (p := V 4 0) (h := V 5 0) (n := V 2 0 8) (r := t - 1) (by omega)
    show ¬ rankF (V 3 0) (V 4 0) (V 5 0) (V 2 0 8) (t - 1) = -1
    omega)
  rw [e200]
  by_cases c : t = 0
  · rw [cif_pos c]
    obtain ⟨l4, l5, l6, l7', l8', ee⟩ := end245 (-1) 1 (by decide) ⟨by decide, by decide⟩ (by decide) (fun z => absurd z (by decide))
    refine ⟨l4, l5, l6, l7', l8', ?_⟩
    refine Eq.trans (g_314_222 hs lw.1 lw.2.2.1 (by omega) (fun z => absurd c z) (fun z => absurd c z)) ?_
    exact (cif_pos c).trans ee
  · rw [cif_neg c]
    obtain ⟨a1, a2, a3⟩ := rankF_in (g := V 3 0) (p := V 4 0) (h := V 5 0) (n := V 2 0 8) (r := t - 1) (by omega)
    have b1 := eyeV_b lw.1 (t := rankF (V 3 0) (V 4 0) (V 5 0) (V 2 0 8) (t - 1)) (by omega)
    have b2 := eyeV_b lw.1 (t := rankF (V 3 0) (V 4 0) (V 5 0) (V 2 0 8) t) (by omega)
    have rs := rankF_step (g := V 3 0) (p := V 4 0) (h := V 5 0) (n := V 2 0 8) (r := t) (by omega)
    obtain ⟨l4, l5, l6, l7', l8', ee⟩ := end245 (rankF (V 3 0) (V 4 0) (V 5 0) (V 2 0 8) (t - 1)) (eyeV (V 3 0) (V 4 0) (V 5 0) (rankF (V 3 0) (V 4 0) (V 5 0) (V 2 0 8) (t - 1)) - eyeV (V 3 0) (V 4 0) (V 5 0) (rankF (V 3 0) (V 4 0) (V 5 0) (V 2 0 8) t)) (by omega) (by omega) (by omega) (fun z => by have := rs.2 z; omega)
    refine ⟨l4, l5, l6, l7', l8', ?_⟩
    refine Eq.trans (g_314_222 (s0 := rankF (V 3 0) (V 4 0) (V 5 0) (V 2 0 8) (t - 1)) (x6 := rankF (V 3 0) (V 4 0) (V 5 0) (V 2 0 8) t) hs lw.1 lw.2.2.1 (by omega) (fun _ => ⟨a1, a2⟩) (fun _ => ⟨r1, r2⟩)) ?_
    exact (cif_neg c).trans ee
theorem st_go (lw : LW V) (hs : q.1.2.2 b = some (Sum.inl (0, 32, fun _ => aN))) {t : Int} (ht : 0 ≤ t ∧ t < V 2 0 8) (l4 l5 l6 l7 l8 : Option AV) :
    ∃ l4' l5' l6' l7' l8', RUN (d + 12) 314 (12, [sR 1 0, sI (V 2 0 8), sR 46 b, sI t, l4, l5, l6, l7, l8], []) (HM q (setA V 46 b (seenC V t))) =
      RUN (d + 12) 314 (12, [sR 1 0, sI (V 2 0 8), sR 46 b, sI (t + 1), l4', l5', l6', l7', l8'], []) (HM q (setA V 46 b (seenC V (t + 1)))) := by
  have hn := rk_n lw.1
  have lw0 : LW (setA V 46 b (seenC V t)) := lw.of_kp (kp_46 (n0 := b) lw (Nat.le_refl _))
  have lw1 : LW (setA V 46 b (seenC V (t + 1))) := lw.of_kp (kp_46 (n0 := b) lw (Nat.le_refl _))
  have h4 := rk_4 lw.1 (j := t) (by omega)
  obtain ⟨l7a, e1⟩ := si_go (d := d) (N := V 2 0 8) lw hs ht l7 l8
  obtain ⟨k4, k5, k6, k7, k8, e2⟩ := st_go1 (d := d) (V := setA V 46 b (seenC V (t + 1))) lw1 hs ht l7a l8
  refine ⟨k4, k5, k6, k7, k8, ?_⟩
  refine Eq.trans (g_314_12 (V := setA V 46 b (seenC V t)) hs lw0.1 lw0.2.2.1 (by omega) (by omega) (fun _ => ht)) ?_
  refine Eq.trans (cif_neg (by omega)) ?_
  refine Eq.trans e1 ?_
  refine Eq.trans (g_314_30 (V := setA V 46 b (seenC V (t + 1))) hs lw1.1 lw1.2.2.1 ⟨by decide, by decide⟩ (fun z => absurd (Int.le_refl _) z) (fun z => absurd (Int.le_refl _) z) (fun z => absurd (Int.le_refl _) z) (fun z => absurd (Int.le_refl _) z)) ?_
  refine Eq.trans (cif_pos (Int.le_refl _)) ?_
  exact e2
end
