/-! the law's look at a relay: it is one, and no smaller tower could stand there -/
section
variable {V : VV} {d n0 : Nat}
theorem ir_in (lw : LW V) {x1 x2 D L sum t p nx step : Int} (h1 : 0 ≤ x1 ∧ x1 < V 2 0 8) (h2 : 0 ≤ x2 ∧ x2 < V 2 0 8) (ht : 0 ≤ t ∧ t < V 2 0 8) (hnx : 0 ≤ nx ∧ nx < V 2 0 8)
    (hno : ∀ u, 0 ≤ u → u < nx → ¬ (cE V t u ∧ pR V u x2 ∧ pD V t x2 = cW V t u + pD V u x2 ∧ (pN V t x2 : Int) = pN V u x2 + 1)) (hD : D - sum + step = pD V t x2) (hL : L - p = pN V t x2) (hp : R32 p) (hRt : pR V t x2) :
    ∀ (r : Nat) (i : Int) (q : QQ) (W : VV) (l12 : Option AV), i + r = nx → 0 ≤ i → same V W → LW W →
      ∃ q' W' l', RUN (d + 7) 334 (82, [sR 1 0, sI x1, sI x2, sI D, sI L, sI sum, sI t, sI 1, sI p, sI nx, sI step, sI i, l12], []) (HM q W) = RUN (d + 7) 334 (28, [sR 1 0, sI x1, sI x2, sI D, sI L, sI sum, sI nx, sI 1, sI (p + 1), sI nx, sI step, sI nx, l'], []) (HM q' W') ∧ GO (4 * r) n0 q W q' W' := by
  have hn := rk_n lw.1
  have bD := pD_c lw ht h2 hRt
  have bN := pN_b lw ht h2 hRt
  intro r
  induction r with
  | zero =>
    intro i q W l12 e0 hi sm lwW
    have hnW := sm.n
    have ei : i = nx := by omega
    subst ei
    refine ⟨q, W, l12, ?_, GO.refl lwW⟩
    refine Eq.trans (g_334_82 (V := W) lwW.1 (by omega) (by omega) (by omega) (by omega) ⟨by decide, by decide⟩ (fun z => absurd (Int.le_refl _) z) (fun z => absurd (Int.le_refl _) z) (fun z => absurd (Int.le_refl _) z)) ?_
    exact cif_pos (Int.le_refl _)
  | succ r ih =>
    intro i q W l12 e0 hi sm lwW
    have hnW := sm.n
    have hin : 0 ≤ i ∧ i < V 2 0 8 := by omega
    have hE : seeT (W 3 0) (W 4 0) (W 5 0) t i = cE V t i := congrFun (congrFun sm.cE t) i
    have hW : delT (W 4 0) (W 2 0 9) t i = cW V t i := congrFun (congrFun sm.cW t) i
    have cb := cW_b lw ht hin
    have go : ∀ (q2 : QQ) (W2 : VV) (l : Option AV), GO 4 n0 q W q2 W2 → RUN (d + 7) 334 (82, [sR 1 0, sI x1, sI x2, sI D, sI L, sI sum, sI t, sI 1, sI p, sI nx, sI step, sI i, l12], []) (HM q W) = RUN (d + 7) 334 (82, [sR 1 0, sI x1, sI x2, sI D, sI L, sI sum, sI t, sI 1, sI p, sI nx, sI step, sI (i + 1), l], []) (HM q2 W2) →
        ∃ q' W' l', RUN (d + 7) 334 (82, [sR 1 0, sI x1, sI x2, sI D, sI L, sI sum, sI t, sI 1, sI p, sI nx, sI step, sI i, l12], []) (HM q W) = RUN (d + 7) 334 (28, [sR 1 0, sI x1, sI x2, sI D, sI L, sI sum, sI nx, sI 1, sI (p + 1), sI nx, sI step, sI nx, l'], []) (HM q' W') ∧ GO (4 * (r + 1)) n0 q W q' W' := by
      intro q2 W2 l hg he
      have sm2 : same V W2 := fun a a1 a2 => (hg.same a a1 a2).trans (sm a a1 a2)
      obtain ⟨q', W', l', e', g'⟩ := ih (i + 1) q2 W2 l (by omega) (by omega) sm2 (hg.lw lwW)
      exact ⟨q', W', l', he.trans e', (hg.trans g').mono (by omega)⟩
    have e := g_334_82 (d := d) (q := q) (V := W) (x1 := x1) (x2 := x2) (x3 := D) (x4 := L) (x5 := sum) (x6 := t) (x7 := 1) (x8 := p) (x9 := nx) (x10 := step) (x11 := i) (l12 := l12) lwW.1 (by omega) (by omega) (by omega) (by omega) ⟨by decide, by decide⟩ (fun _ _ => by omega) (fun _ _ => by omega) (fun _ _ _ => by rw [hW]; omega)
    rw [cif_neg (by omega), cif_neg (by decide), hE, hW] at e
    by_cases c1 : cE V t i
    · rw [cif_pos c1, cif_neg (by omega)] at e
      obtain ⟨q1, W1, e1, g1⟩ := x_331 (d := d) (n0 := n0) (q := q) (V := W) (x1 := i) (x2 := x2) lwW (by omega) (by omega)
      rw [sm.xvD] at e1
      have sm1 : same V W1 := fun a a1 a2 => (g1.same a a1 a2).trans (sm a a1 a2)
      have lw1 := g1.lw lwW
      have n1 := sm1.n
      by_cases c2 : pR V i x2
      · have bi := pD_c lw hin h2 c2
        have bn := pN_b lw hin h2 c2
        have v1 : vD V i x2 = pD V i x2 := cif_pos c2
        have v2 : vL V i x2 = (pN V i x2 : Int) + 1 := cif_pos c2
        rw [v1] at e1
        have e113 := g_334_113 (d := d) (q := q) (V := W) (x1 := x1) (x2 := x2) (x3 := D) (x4 := L) (x5 := sum) (x6 := t) (l7 := sI 1) (x8 := p) (x9 := nx) (x10 := step) (x11 := i) (x12 := cW V t i) (s0 := x2) (s1 := i) lwW.1 (by omega) (by omega) e1 g1.qle (by omega)
        rw [cif_neg (by omega)] at e113
        obtain ⟨q2, W2, e2, g2⟩ := x_331 (d := d) (n0 := n0) (q := q1) (V := W1) (x1 := i) (x2 := x2) lw1 (by omega) (by omega)
        rw [sm1.xvD, v1] at e2
        have sm2 : same V W2 := fun a a1 a2 => (g2.same a a1 a2).trans (sm1 a a1 a2)
        have lw2 := g2.lw lw1
        have n2 := sm2.n
        have e125 := g_334_125 (d := d) (q := q1) (V := W1) (x1 := x1) (x2 := x2) (x3 := D) (x4 := L) (x5 := sum) (x6 := t) (l7 := sI 1) (x8 := p) (x9 := nx) (x10 := step) (x11 := i) (l12 := sI (cW V t i)) (s0 := x2) (s1 := i) (s3 := cW V t i) lw1.1 (by omega) (by omega) e2 g2.qle (by omega) (by omega)
        by_cases c3 : cW V t i + pD V i x2 = D - sum + step
        · rw [cif_pos c3] at e125
          obtain ⟨q3, W3, e3, g3⟩ := x_332 (d := d) (n0 := n0) (q := q2) (V := W2) (x1 := i) (x2 := x2) lw2 (by omega) (by omega)
          rw [sm2.xvL, v2] at e3
          have e143 := g_334_143 (d := d) (q := q2) (V := W2) (x1 := x1) (x2 := x2) (x3 := D) (x4 := L) (x5 := sum) (x6 := t) (l7 := sI 1) (x8 := p) (x9 := nx) (x10 := step) (x11 := i) (l12 := sI (cW V t i)) (s0 := x2) (s1 := i) lw2.1 (by omega) (by omega) e3 g3.qle (by omega) (by omega)
          rw [cif_neg (fun z => hno i hi (by omega) ⟨c1, c2, by omega, by omega⟩)] at e143
          exact go q3 W3 _ (((g1.trans g2).trans g3).mono (by decide)) (e.trans (e113.trans (e125.trans e143)))
        · rw [cif_neg c3] at e125
          exact go q2 W2 _ ((g1.trans g2).mono (by decide)) (e.trans (e113.trans e125))
      · have v1 : vD V i x2 = -13 := cif_neg c2
        rw [v1] at e1
        have e113 := g_334_113 (d := d) (q := q) (V := W) (x1 := x1) (x2 := x2) (x3 := D) (x4 := L) (x5 := sum) (x6 := t) (l7 := sI 1) (x8 := p) (x9 := nx) (x10 := step) (x11 := i) (x12 := cW V t i) (s0 := x2) (s1 := i) lwW.1 (by omega) (by omega) e1 g1.qle ⟨by decide, by decide⟩
        rw [cif_pos (by decide)] at e113
        exact go q1 W1 _ (g1.mono (by decide)) (e.trans e113)
    · rw [cif_neg c1] at e
      exact go (thr q) W _ ((GO.thr lwW).mono (by decide)) e
theorem s_334 (lw : LW V) {x1 x2 : Int} (h1 : 0 ≤ x1 ∧ x1 < V 2 0 8) (h2 : 0 ≤ x2 ∧ x2 < V 2 0 8) (hR : pR V x1 x2) {q : QQ} : ∃ q' W', RUN (d + 7) 334 (am_en 334 [aR 1 0, aI (iI x1), aI (iI x2), aI (iI (pD V x1 x2)), aI (iI (pN V x1 x2 + 1))]) (HM q V) = rI 1 (HM q' W') ∧ GO 400 n0 q V q' W' := by
  have hn := rk_n lw.1
  have bD := pD_c lw h1 h2 hR
  have bN := pN_b lw h1 h2 hR
  have sp := sp_of lw h2
  have hw1 : ∀ t u, 0 ≤ t ∧ t < V 2 0 8 → 0 ≤ u ∧ u < V 2 0 8 → cE V t u → 1 ≤ cW V t u := fun t u ht hu _ => (cW_b lw ht hu).1
  have hpath : ∀ k : Nat, k ≤ pN V x1 x2 → (0 ≤ pP V x1 x2 k ∧ pP V x1 x2 k < V 2 0 8) ∧ pR V (pP V x1 x2 k) x2 ∧ (pN V (pP V x1 x2 k) x2 : Int) = (pN V x1 x2 : Int) - k := by
    intro k hk
    obtain ⟨a, b, c⟩ := spPath_is hw1 sp h1 hR k (by omega)
    refine ⟨a, b, ?_⟩
    have := pN_b (a := pP V x1 x2 k) lw a h2 b
    unfold pP at this ⊢
    omega
  -- the places, one after the other
  have walk : ∀ (r p : Nat) (q : QQ) (W : VV) (l9 l10 l11 l12 : Option AV), p + r = pN V x1 x2 → same V W → LW W →
      ∃ q' W' l9' l10' l11' l12', RUN (d + 7) 334 (28, [sR 1 0, sI x1, sI x2, sI (pD V x1 x2), sI (pN V x1 x2 + 1), sI (pD V x1 x2 - pD V (pP V x1 x2 p) x2), sI (pP V x1 x2 p), sI 1, sI ((p : Int) + 1), l9, l10, l11, l12], []) (HM q W) =
        RUN (d + 7) 334 (28, [sR 1 0, sI x1, sI x2, sI (pD V x1 x2), sI (pN V x1 x2 + 1), sI (pD V x1 x2 - pD V (pP V x1 x2 (pN V x1 x2)) x2), sI (pP V x1 x2 (pN V x1 x2)), sI 1, sI ((pN V x1 x2 : Int) + 1), l9', l10', l11', l12'], []) (HM q' W') ∧ GO (40 * r) n0 q W q' W' := by
    intro r
    induction r with
    | zero =>
      intro p q W l9 l10 l11 l12 e0 sm lwW
      have ep : p = pN V x1 x2 := by omega
      subst ep
      exact ⟨q, W, l9, l10, l11, l12, rfl, GO.refl lwW⟩
    | succ r ih =>
      intro p q W l9 l10 l11 l12 e0 sm lwW
      have hnW := sm.n
      obtain ⟨t1, t2, t3⟩ := hpath p (by omega)
      obtain ⟨u1, u2, u3⟩ := hpath (p + 1) (by omega)
      have dt := pD_c lw t1 h2 t2
      have du := pD_c lw u1 h2 u2
      have nt := pN_b lw t1 h2 t2
      have nu := pN_b lw u1 h2 u2
      have hl : ¬ pP V x1 x2 p = x2 := fun z => by
        have := val_self lw h2
        rw [z] at t3
        have n2 := pN_b lw h2 h2 this.1
        have := this.2
        have d2 := pD_c lw h2 h2 (val_self lw h2).1
        unfold valR at this
        omega
      obtain ⟨s1, s2, s3, s4, s5⟩ := spNext_is sp t1 t2 hl
      have cb := cW_b lw t1 u1
      have e28 := g_334_28 (d := d) (q := q) (V := W) (x1 := x1) (x2 := x2) (x3 := pD V x1 x2) (x4 := pN V x1 x2 + 1) (x5 := pD V x1 x2 - pD V (pP V x1 x2 p) x2) (x6 := pP V x1 x2 p) (x7 := 1) (x8 := (p : Int) + 1) (l9 := l9) (l10 := l10) (l11 := l11) (l12 := l12) lwW.1 (by omega) (by omega) (by omega) (by omega) ⟨by decide, by decide⟩
      rw [cif_neg (by omega), cif_neg (by decide)] at e28
      obtain ⟨q1, W1, e1, g1⟩ := x_335 (d := d) (n0 := n0) (q := q) (V := W) (x1 := x1) (x2 := x2) (x3 := (p : Int) + 1) lwW (by omega) (by omega) (by omega)
      have vp : vP V x1 x2 ((p : Int) + 1) = pP V x1 x2 (p + 1) := by
        unfold vP
        rw [cif_pos hR, cif_pos (by omega)]
        rfl
      rw [sm.xvP, vp] at e1
      have sm1 : same V W1 := fun a a1 a2 => (g1.same a a1 a2).trans (sm a a1 a2)
      have lw1 := g1.lw lwW
      have n1 := sm1.n
      have hE : seeT (W1 3 0) (W1 4 0) (W1 5 0) (pP V x1 x2 p) (pP V x1 x2 (p + 1)) = cE V (pP V x1 x2 p) (pP V x1 x2 (p + 1)) := congrFun (congrFun sm1.cE _) _
      have hW : delT (W1 4 0) (W1 2 0 9) (pP V x1 x2 p) (pP V x1 x2 (p + 1)) = cW V (pP V x1 x2 p) (pP V x1 x2 (p + 1)) := congrFun (congrFun sm1.cW _) _
      have e45 := g_334_45 (d := d) (q := q) (V := W) (x1 := x1) (x2 := x2) (x3 := pD V x1 x2) (x4 := pN V x1 x2 + 1) (x5 := pD V x1 x2 - pD V (pP V x1 x2 p) x2) (x6 := pP V x1 x2 p) (l7 := sI 1) (x8 := (p : Int) + 1) (l9 := l9) (l10 := l10) (l11 := l11) (l12 := l12) (s0 := (p : Int) + 1) (s1 := x2) (s2 := x1) lwW.1 (by omega) (by omega) e1 g1.qle lw1.1 (by omega) (by omega) (fun _ => by rw [hW]; omega)
      rw [hE, hW, cif_pos (show cE V (pP V x1 x2 p) (pP V x1 x2 (p + 1)) from s2), cif_neg (by omega)] at e45
      have hs4 : pD V (pP V x1 x2 p) x2 = cW V (pP V x1 x2 p) (pP V x1 x2 (p + 1)) + pD V (pP V x1 x2 (p + 1)) x2 := s4
      obtain ⟨q2, W2, l', e2, g2⟩ := ir_in (d := d) (n0 := n0) (x1 := x1) (D := pD V x1 x2) (L := pN V x1 x2 + 1) (sum := pD V x1 x2 - pD V (pP V x1 x2 p) x2 + cW V (pP V x1 x2 p) (pP V x1 x2 (p + 1))) (p := (p : Int) + 1) (step := cW V (pP V x1 x2 p) (pP V x1 x2 (p + 1))) (nx := pP V x1 x2 (p + 1)) lw h1 h2 t1 u1 (fun u k1 k2 => by
        intro hu
        have ur := pN_b (a := u) lw (by omega) h2 hu.2.1
        rcases fstI_cases (fun u => cE V (pP V x1 x2 p) u ∧ spR (V 2 0 8) (cE V) (cW V) x2 u ∧ spD (V 2 0 8) (cE V) (cW V) x2 (pP V x1 x2 p) = cW V (pP V x1 x2 p) u + spD (V 2 0 8) (cE V) (cW V) x2 u ∧ spN (V 2 0 8) (cE V) (cW V) x2 (pP V x1 x2 p) = spN (V 2 0 8) (cE V) (cW V) x2 u + 1) (V 2 0 8) with ⟨f1, f2, f3, f4⟩ | ⟨f1, f2⟩
        · exact f4 u k1 k2 ⟨hu.1, hu.2.1, hu.2.2.1, by omega⟩
        · exact f2 u k1 (by omega) ⟨hu.1, hu.2.1, hu.2.2.1, by omega⟩) (by omega) (by omega) (by omega) t2 (pP V x1 x2 (p + 1)).toNat 0 q1 W1 l12 (by omega) (by omega) sm1 lw1
      have sm2 : same V W2 := fun a a1 a2 => (g2.same a a1 a2).trans (sm1 a a1 a2)
      obtain ⟨q3, W3, m9, m10, m11, m12, e3, g3⟩ := ih (p + 1) q2 W2 (sI (pP V x1 x2 (p + 1))) (sI (cW V (pP V x1 x2 p) (pP V x1 x2 (p + 1)))) (sI (pP V x1 x2 (p + 1))) l' (by omega) sm2 (g2.lw lw1)
      refine ⟨q3, W3, m9, m10, m11, m12, ?_, ((g1.trans g2).trans g3).mono (by omega)⟩
      rw [show pD V x1 x2 - pD V (pP V x1 x2 p) x2 + cW V (pP V x1 x2 p) (pP V x1 x2 (p + 1)) = pD V x1 x2 - pD V (pP V x1 x2 (p + 1)) x2 by omega] at e45 e2
      exact e28.trans (e45.trans (e2.trans e3))
  have e0 := g_334_0 (d := d) (q := q) (V := V) (x1 := x1) (x2 := x2) (x3 := pD V x1 x2) (x4 := pN V x1 x2 + 1) lw.1 h1 h2
  obtain ⟨q1, W1, e1, g1⟩ := x_335 (d := d) (n0 := n0) (q := q) (V := V) (x1 := x1) (x2 := x2) (x3 := 0) lw h1 h2 ⟨by decide, by decide⟩
  have vp : vP V x1 x2 0 = x1 := by
    unfold vP
    rw [cif_pos hR, cif_pos (by omega)]
    rfl
  rw [vp] at e1
  have lw1 := g1.lw lw
  have e7 := g_334_7 (d := d) (q := q) (V := V) (x1 := x1) (x2 := x2) (x3 := pD V x1 x2) (x4 := pN V x1 x2 + 1) (x5 := 0) (l6 := none) (l7 := none) (l8 := none) (l9 := none) (l10 := none) (l11 := none) (l12 := none) (s0 := 0) (s1 := x2) (s2 := x1) lw.1 h1 h2 e1 g1.qle (by omega)
  rw [cif_pos rfl] at e7
  obtain ⟨q2, W2, m9, m10, m11, m12, e2, g2⟩ := walk (pN V x1 x2) 0 q1 W1 none none none none (by omega) g1.same lw1
  have sm2 : same V W2 := fun a a1 a2 => (g2.same a a1 a2).trans (g1.same a a1 a2)
  have lw2 := g2.lw lw1
  have n2 := sm2.n
  obtain ⟨t1, t2, t3⟩ := hpath (pN V x1 x2) (Nat.le_refl _)
  have hlast : pP V x1 x2 (pN V x1 x2) = x2 := by
    have h0 := sp.2.2.2 _ t1 t2
    have nb := pN_b lw t1 h2 t2
    exact (sp_N hw1 sp (spD (V 2 0 8) (cE V) (cW V) x2 (pP V x1 x2 (pN V x1 x2))).toNat _ t1 t2 (by omega)).2.mp (by omega)
  have hD0 : pD V x2 x2 = 0 := sp.1.2.1
  have e28 := g_334_28 (d := d) (q := q2) (V := W2) (x1 := x1) (x2 := x2) (x3 := pD V x1 x2) (x4 := pN V x1 x2 + 1) (x5 := pD V x1 x2 - pD V (pP V x1 x2 (pN V x1 x2)) x2) (x6 := pP V x1 x2 (pN V x1 x2)) (x7 := 1) (x8 := (pN V x1 x2 : Int) + 1) (l9 := m9) (l10 := m10) (l11 := m11) (l12 := m12) lw2.1 (by omega) (by omega) (by omega) (by omega) ⟨by decide, by decide⟩
  rw [cif_pos (Int.le_refl _)] at e28
  have e177 := g_334_177 (d := d) (q := q2) (V := W2) (x1 := x1) (x2 := x2) (x3 := pD V x1 x2) (x4 := pN V x1 x2 + 1) (x5 := pD V x1 x2 - pD V (pP V x1 x2 (pN V x1 x2)) x2) (x6 := pP V x1 x2 (pN V x1 x2)) (x7 := 1) (l8 := sI ((pN V x1 x2 : Int) + 1)) (l9 := m9) (l10 := m10) (l11 := m11) (l12 := m12) lw2.1 (by omega) (by omega) ⟨by decide, by decide⟩ (by omega) (by rw [hlast, hD0]; omega) (by omega)
  rw [cif_neg (by decide), cif_pos hlast, cif_pos (by rw [hlast, hD0]; omega)] at e177
  obtain ⟨q3, W3, e3, g3⟩ := x_335 (d := d) (n0 := n0) (q := q2) (V := W2) (x1 := x1) (x2 := x2) (x3 := pN V x1 x2 + 1) lw2 (by omega) (by omega) (by omega)
  have vp3 : vP V x1 x2 (pN V x1 x2 + 1) = -13 := by
    unfold vP
    rw [cif_pos hR, cif_neg (by omega)]
  rw [sm2.xvP, vp3] at e3
  have sm3 : same V W3 := fun a a1 a2 => (g3.same a a1 a2).trans (sm2 a a1 a2)
  have lw3 := g3.lw lw2
  have n3 := sm3.n
  have e199 := g_334_199 (d := d) (q := q2) (V := W2) (x1 := x1) (x2 := x2) (l3 := sI (pD V x1 x2)) (l4 := sI (pN V x1 x2 + 1)) (l5 := sI (pD V x1 x2 - pD V (pP V x1 x2 (pN V x1 x2)) x2)) (l6 := sI (pP V x1 x2 (pN V x1 x2))) (l7 := sI 1) (l8 := sI ((pN V x1 x2 : Int) + 1)) (l9 := m9) (l10 := m10) (l11 := m11) (l12 := m12) (s0 := pN V x1 x2 + 1) (s1 := x2) (s2 := x1) lw2.1 (by omega) (by omega) e3 g3.qle ⟨by decide, by decide⟩
  rw [cif_pos rfl] at e199
  obtain ⟨q4, W4, e4, g4⟩ := x_335 (d := d) (n0 := n0) (q := q3) (V := W3) (x1 := x1) (x2 := x2) (x3 := -1) lw3 (by omega) (by omega) ⟨by decide, by decide⟩
  have vp4 : vP V x1 x2 (-1) = -13 := by
    unfold vP
    rw [cif_pos hR, cif_neg (by omega)]
  rw [sm3.xvP, vp4] at e4
  have e211 := fun l0 l1 l2 l3 l4 l5 l6 l7 l8 l9 l10 l11 l12 => g_334_211 (d := d) (q := q3) (V := W3) (l0 := l0) (l1 := l1) (l2 := l2) (l3 := l3) (l4 := l4) (l5 := l5) (l6 := l6) (l7 := l7) (l8 := l8) (l9 := l9) (l10 := l10) (l11 := l11) (l12 := l12) (s0 := -1) (s1 := x2) (s2 := x1) lw3.1 e4 g4.qle ⟨by decide, by decide⟩
  refine ⟨q4, W4, ?_, ((((g1.trans g2).trans g3).trans g4)).mono (by omega)⟩
  have h00 : pD V x1 x2 - pD V (pP V x1 x2 0) x2 = 0 := by
    show pD V x1 x2 - pD V x1 x2 = 0
    omega
  rw [h00] at e2
  exact e0.trans (e7.trans (e2.trans (e28.trans (e177.trans (e199.trans ((e211 _ _ _ _ _ _ _ _ _ _ _ _ _).trans (cif_pos rfl)))))))
end
