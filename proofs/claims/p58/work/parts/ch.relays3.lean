/-! the law's relays: the loops and the end -/
section
variable {V : VV} {d n0 : Nat}
theorem frs_first (lw : LW V) {i : Int} (hi : 0 ≤ i ∧ i < V 2 0 8) : frs V i (V 2 0 8) ↔ firstS (V 2 0 8) (cE V) (cW V) i := by
  constructor
  · intro h j j1 j2 hR
    exact h j ⟨j1, by omega⟩ j2 ((pR_iff lw (by omega) hi).mp hR)
  · intro h t ht h2 hR
    exact h t ht.1 h2 ((pR_iff lw hi ht).mp hR)
theorem rl_to (lw : LW V) {i G : Int} (hi : 0 ≤ i ∧ i < V 2 0 8) : ∀ (r : Nat) (j : Int) (q : QQ) (W : VV) (l6 l7 l8 l9 l10 : Option AV), j + r = V 2 0 8 → 0 ≤ j → same V W → LW W →
    ∃ q' W' l6' l7' l8' l9' l10', RUN (d + 13) 328 (20, [sR 1 0, sI (V 2 0 8), sI G, sI i, sI (b2i (frs V i j)), sI j, l6, l7, l8, l9, l10], []) (HM q W) = RUN (d + 13) 328 (20, [sR 1 0, sI (V 2 0 8), sI G, sI i, sI (b2i (frs V i (V 2 0 8))), sI (V 2 0 8), l6', l7', l8', l9', l10'], []) (HM q' W') ∧ GO (4400 * r) n0 q W q' W' := by
  intro r
  induction r with
  | zero =>
    intro j q W l6 l7 l8 l9 l10 e0 hj sm lwW
    have ej : j = V 2 0 8 := by omega
    subst ej
    exact ⟨q, W, l6, l7, l8, l9, l10, rfl, GO.refl lwW⟩
  | succ r ih =>
    intro j q W l6 l7 l8 l9 l10 e0 hj sm lwW
    obtain ⟨q1, W1, k6, k7, k8, k9, k10, e1, g1⟩ := rp_go (d := d) (n0 := n0) (G := G) lw hi (show 0 ≤ j ∧ j < V 2 0 8 by omega) (q := q) sm lwW l6 l7 l8 l9 l10
    have sm1 : same V W1 := fun a a1 a2 => (g1.same a a1 a2).trans (sm a a1 a2)
    obtain ⟨q2, W2, m6, m7, m8, m9, m10, e2, g2⟩ := ih (j + 1) q1 W1 k6 k7 k8 k9 k10 (by omega) (by omega) sm1 (g1.lw lwW)
    exact ⟨q2, W2, m6, m7, m8, m9, m10, e1.trans e2, (g1.trans g2).mono (by omega)⟩
theorem rl_from (lw : LW V) : ∀ (r : Nat) (i : Int) (q : QQ) (W : VV) (l4 l5 l6 l7 l8 l9 l10 : Option AV), i + r = V 2 0 8 → 0 ≤ i → same V W → LW W →
    ∃ q' W' l4' l5' l6' l7' l8' l9' l10', RUN (d + 13) 328 (9, [sR 1 0, sI (V 2 0 8), sI (cntI (firstS (V 2 0 8) (cE V) (cW V)) i), sI i, l4, l5, l6, l7, l8, l9, l10], []) (HM q W) = RUN (d + 13) 328 (9, [sR 1 0, sI (V 2 0 8), sI (cntI (firstS (V 2 0 8) (cE V) (cW V)) (V 2 0 8)), sI (V 2 0 8), l4', l5', l6', l7', l8', l9', l10'], []) (HM q' W') ∧ GO (35200 * r) n0 q W q' W' := by
  have hn := rk_n lw.1
  intro r
  induction r with
  | zero =>
    intro i q W l4 l5 l6 l7 l8 l9 l10 e0 hi sm lwW
    have ei : i = V 2 0 8 := by omega
    subst ei
    exact ⟨q, W, l4, l5, l6, l7, l8, l9, l10, rfl, GO.refl lwW⟩
  | succ r ih =>
    intro i q W l4 l5 l6 l7 l8 l9 l10 e0 hi0 sm lwW
    have hi : 0 ≤ i ∧ i < V 2 0 8 := by omega
    have e9 := g_328_9 (d := d + 5) (q := q) (V := W) (x1 := V 2 0 8) (x2 := cntI (firstS (V 2 0 8) (cE V) (cW V)) i) (x3 := i) (l4 := l4) (l5 := l5) (l6 := l6) (l7 := l7) (l8 := l8) (l9 := l9) (l10 := l10) lwW.1 (by omega) (by omega)
    rw [cif_neg (by omega)] at e9
    have h0 : b2i (frs V i 0) = 1 := b2i_pos fun t ht => by omega
    obtain ⟨q1, W1, k6, k7, k8, k9, k10, e1, g1⟩ := rl_to (d := d) (n0 := n0) (G := cntI (firstS (V 2 0 8) (cE V) (cW V)) i) lw hi (V 2 0 8).toNat 0 q W l6 l7 l8 l9 l10 (by omega) (by omega) sm lwW
    rw [h0] at e1
    have sm1 : same V W1 := fun a a1 a2 => (g1.same a a1 a2).trans (sm a a1 a2)
    have lw1 := g1.lw lwW
    have n1 := sm1.n
    have e20 := g_328_20 (d := d + 5) (q := q1) (V := W1) (x1 := V 2 0 8) (x2 := cntI (firstS (V 2 0 8) (cE V) (cW V)) i) (x3 := i) (x4 := b2i (frs V i (V 2 0 8))) (x5 := V 2 0 8) (l6 := k6) (l7 := k7) (l8 := k8) (l9 := k9) (l10 := k10) lw1.1 (by omega) (by omega) (b2i_R _) (fun z => absurd (Int.le_refl _) z) (fun z => absurd (Int.le_refl _) z) (fun z => absurd (Int.le_refl _) z)
    rw [cif_pos (Int.le_refl _)] at e20
    have hs := cntI_succ (firstS (V 2 0 8) (cE V) (cW V)) hi.1
    have e21 : RUN (d + 13) 328 (20, [sR 1 0, sI (V 2 0 8), sI (cntI (firstS (V 2 0 8) (cE V) (cW V)) i), sI i, sI (b2i (frs V i (V 2 0 8))), sI (V 2 0 8), k6, k7, k8, k9, k10], []) (HM q1 W1) = RUN (d + 13) 328 (9, [sR 1 0, sI (V 2 0 8), sI (cntI (firstS (V 2 0 8) (cE V) (cW V)) (i + 1)), sI (i + 1), sI (b2i (frs V i (V 2 0 8))), sI (V 2 0 8), k6, k7, k8, k9, k10], []) (HM q1 W1) := by
      refine Eq.trans e20 ?_
      by_cases c : frs V i (V 2 0 8)
      · rw [cif_neg (fun z => b2i_z.mp z c), hs, b2i_pos ((frs_first lw hi).mp c)]
      · rw [cif_pos (b2i_neg c), hs, b2i_neg (fun z => c ((frs_first lw hi).mpr z))]
    obtain ⟨q2, W2, m4, m5, m6, m7, m8, m9, m10, e2, g2⟩ := ih (i + 1) q1 W1 (sI (b2i (frs V i (V 2 0 8)))) (sI (V 2 0 8)) k6 k7 k8 k9 k10 (by omega) (by omega) sm1 lw1
    exact ⟨q2, W2, m4, m5, m6, m7, m8, m9, m10, e9.trans (e1.trans (e21.trans e2)), (g1.trans g2).mono (by omega)⟩
theorem s_328 {q : QQ} (lw : LW V) (h0 : 0 < V 2 0 8) : ∃ q' W, RUN (d + 13) 328 (am_en 328 [aR 1 0]) (HM q V) = rI 1 (HM q' W) ∧ GO 281610 n0 q V q' W := by
  have hn := rk_n lw.1
  have no : ¬ (0 ≤ V 2 0 8 ∧ V 2 0 8 < V 2 0 8) := by omega
  have e0 := g_328_0 (d := d + 5) (q := q) (V := V) lw.1
  obtain ⟨q1, W1, m4, m5, m6, m7, m8, m9, m10, e1, g1⟩ := rl_from (d := d) (n0 := n0) lw (V 2 0 8).toNat 0 q V none none none none none none none (by omega) (by omega) (fun _ _ _ => rfl) lw
  have lw1 := g1.lw lw
  have n1 := g1.same.n
  have e9 := g_328_9 (d := d + 5) (q := q1) (V := W1) (x1 := V 2 0 8) (x2 := cntI (firstS (V 2 0 8) (cE V) (cW V)) (V 2 0 8)) (x3 := V 2 0 8) (l4 := m4) (l5 := m5) (l6 := m6) (l7 := m7) (l8 := m8) (l9 := m9) (l10 := m10) lw1.1 (by omega) (by omega)
  rw [cif_pos (Int.le_refl _)] at e9
  have e25 := e_25 (d := d + 8) (q := q1) (V := W1) lw1.1 lw1.2.2.2.2.1
  rw [n1, g1.same.cE, g1.same.cW] at e25
  have k2 : kp n0 W1 (tabS W1) := kp_tab lw1
  have lw2 : LW (tabS W1) := lw1.of_kp k2
  have n2 : tabS W1 2 0 8 = V 2 0 8 := n1
  have hc := cntI_b (firstS (V 2 0 8) (cE V) (cW V)) hn.1
  have e288 := h_328_288 (d := d + 5) (q := q1) (V := W1) (x1 := V 2 0 8) (x2 := cntI (firstS (V 2 0 8) (cE V) (cW V)) (V 2 0 8)) (l3 := sI (V 2 0 8)) (l4 := m4) (l5 := m5) (l6 := m6) (l7 := m7) (l8 := m8) (l9 := m9) (l10 := m10) lw1.1 e25 (qle_refl _) (by omega) (by omega) (fun _ => lw2.1) (by omega) (fun _ => by rw [n2]; exact no)
  rw [cif_pos rfl] at e288
  have no2 : ¬ (0 ≤ V 2 0 8 ∧ V 2 0 8 < tabS W1 2 0 8) := by omega
  have r0 : (0 : Int) ≤ 0 ∧ 0 < tabS W1 2 0 8 := by omega
  have e331 := e_331 (d := d + 6) (q := thr q1) (V := tabS W1) (x1 := 0) (x2 := V 2 0 8) lw2.1 lw2.2.2.2.2.1 (by omega) (by omega)
  rw [cif_pos r0, cif_neg no2] at e331
  have e309 := g_328_309 (d := d + 5) (q := thr q1) (V := tabS W1) (x1 := V 2 0 8) (l2 := sI (cntI (firstS (V 2 0 8) (cE V) (cW V)) (V 2 0 8))) (l3 := sI (V 2 0 8)) (l4 := m4) (l5 := m5) (l6 := m6) (l7 := m7) (l8 := m8) (l9 := m9) (l10 := m10) (s0 := V 2 0 8) (s1 := 0) lw2.1 e331 (qle_thr _) ⟨by decide, by decide⟩
  rw [cif_pos rfl] at e309
  have e333 := e_333 (d := d + 7) (q := thr (thr q1)) (V := tabS W1) (x1 := V 2 0 8) (x2 := 0) lw2.1 lw2.2.2.2.2.1 (by omega) (by omega) (fun z => absurd z no2)
  rw [cif_neg no2] at e333
  have e320 := g_328_320 (d := d + 5) (q := thr (thr q1)) (V := tabS W1) (x1 := V 2 0 8) (l2 := sI (cntI (firstS (V 2 0 8) (cE V) (cW V)) (V 2 0 8))) (l3 := sI (V 2 0 8)) (l4 := m4) (l5 := m5) (l6 := m6) (l7 := m7) (l8 := m8) (l9 := m9) (l10 := m10) (s0 := 0) (s1 := V 2 0 8) lw2.1 e333 (qle_thr _) ⟨by decide, by decide⟩
  rw [cif_pos rfl] at e320
  have e332 := e_332 (d := d + 6) (q := thr (thr (thr q1))) (V := tabS W1) (x1 := V 2 0 8) (x2 := V 2 0 8) lw2.1 lw2.2.2.2.2.1 (by omega) (by omega)
  rw [cif_neg no2] at e332
  have e331' := g_328_331 (d := d + 5) (q := thr (thr (thr q1))) (V := tabS W1) (x1 := V 2 0 8) (l2 := sI (cntI (firstS (V 2 0 8) (cE V) (cW V)) (V 2 0 8))) (l3 := sI (V 2 0 8)) (l4 := m4) (l5 := m5) (l6 := m6) (l7 := m7) (l8 := m8) (l9 := m9) (l10 := m10) (s0 := V 2 0 8) (s1 := V 2 0 8) lw2.1 e332 (qle_thr _) ⟨by decide, by decide⟩
  rw [cif_pos rfl] at e331'
  have e335 := e2_335 (d := d + 6) (q := thr (thr (thr (thr q1)))) (V := tabS W1) (x1 := 0) (x2 := V 2 0 8) (x3 := 0) lw2.1 lw2.2.2.2.2.1 (by omega) (by omega) (fun _ z => absurd z no2) (fun _ z => absurd z no2) (fun _ z => absurd z no2)
  rw [cif_pos r0, cif_neg no2] at e335
  have e343 := fun l0 l1 l2 l3 l4 l5 l6 l7 l8 l9 l10 => g_328_343 (d := d + 5) (q := thr (thr (thr (thr q1)))) (V := tabS W1) (l0 := l0) (l1 := l1) (l2 := l2) (l3 := l3) (l4 := l4) (l5 := l5) (l6 := l6) (l7 := l7) (l8 := l8) (l9 := l9) (l10 := l10) (s0 := 0) (s1 := V 2 0 8) (s2 := 0) lw2.1 e335 (qle_thr _) ⟨by decide, by decide⟩
  have gk : GO 0 n0 q1 W1 q1 (tabS W1) := ⟨adv_refl _, k2⟩
  have gt : GO 5 n0 q1 (tabS W1) (thr (thr (thr (thr (thr q1))))) (tabS W1) := (((((GO.thr lw2).trans (GO.thr lw2)).trans (GO.thr lw2)).trans (GO.thr lw2)).trans (GO.thr lw2))
  refine ⟨_, tabS W1, ?_, ((g1.trans gk).trans gt).mono (by omega)⟩
  exact e0.trans (e1.trans (e9.trans (e288.trans (e309.trans (e320.trans (e331'.trans ((e343 _ _ _ _ _ _ _ _ _ _ _).trans (cif_pos rfl))))))))
end
