/-! the law's relays: all pairs of towers -/
theorem clear_sym {g : Int → Int} {a ha b hb : Int} (h : clear g a ha b hb) : clear g b hb a ha := by
  rcases Int.lt_trichotomy a b with c | c | c
  · exact (clr_dn (by omega)).mp ((clr_up c).mpr h)
  · subst c
    exact (clr_dn (Int.le_refl _)).mp (fun j j1 j2 => by omega)
  · exact (clr_up c).mp ((clr_dn (by omega)).mpr h)
section
variable {V : VV} {d n0 : Nat}
theorem cE_sym {t u : Int} (h : cE V t u) : cE V u t := ⟨fun z => h.1 z.symm, clear_sym h.2⟩
theorem pR_sym (lw : LW V) {b : Int} (hb : 0 ≤ b ∧ b < V 2 0 8) : ∀ (k : Nat) (t : Int), 0 ≤ t ∧ t < V 2 0 8 → pR V t b → valR V t b ≤ k → pR V b t := by
  have hw1 : ∀ t u, 0 ≤ t ∧ t < V 2 0 8 → 0 ≤ u ∧ u < V 2 0 8 → cE V t u → 1 ≤ cW V t u := fun t u ht hu _ => (cW_b lw ht hu).1
  intro k
  induction k with
  | zero =>
    intro t ht hR hk
    have := val_pos lw hb ht hR
    omega
  | succ k ih =>
    intro t ht hR hk
    by_cases c : t = b
    · subst c
      exact hR
    · obtain ⟨u, hu, u1, u2, u3⟩ := val_next lw hb ht hR c
      have cb := cW_b lw ht hu
      have h1 := ih u hu u2 (by omega)
      have h2 := (val_step lw ht hu ht (cE_sym u1) (val_self lw ht).1).1
      have h3 := pD_c lw hb hu h1
      exact (sp_tri hw1 (fun l hl => sp_of lw hl) hu ht h2 (pD V b u).toNat b hb h1 (by unfold pD at h3 ⊢; omega)).1
theorem pR_iff (lw : LW V) {a b : Int} (ha : 0 ≤ a ∧ a < V 2 0 8) (hb : 0 ≤ b ∧ b < V 2 0 8) : pR V a b ↔ pR V b a :=
  ⟨fun h => pR_sym lw hb (valR V a b).toNat a ha h (by have := val_pos lw hb ha h; omega), fun h => pR_sym lw ha (valR V b a).toNat b hb h (by have := val_pos lw ha hb h; omega)⟩
noncomputable def dlR (V : VV) (a b : Int) : Int := cif (cE V a b) (cW V a b) (-13)
noncomputable def bsR (V : VV) (a b : Int) : Int := cif (pR V a b) (valR V a b) (-1)
def frs (V : VV) (i j : Int) : Prop := ∀ t, 0 ≤ t ∧ t < j → t < i → ¬ pR V i t
theorem frs_next {i j : Int} (hj : 0 ≤ j) : frs V i (j + 1) ↔ frs V i j ∧ (j < i → ¬ pR V i j) := by
  constructor
  · intro h
    exact ⟨fun t ht => h t (by omega), h j (by omega)⟩
  · intro h t ht
    by_cases e : t = j
    · subst e
      exact h.2
    · exact h.1 t (by omega)
theorem rp_83 (lw : LW V) {i j G f : Int} (hi : 0 ≤ i ∧ i < V 2 0 8) (hj : 0 ≤ j ∧ j < V 2 0 8) (hf : R32 f) {q : QQ} {W : VV} (sm : same V W) (lwW : LW W) (l6 l7 l8 l9 l10 : Option AV) :
    ∃ l6', RUN (d + 13) 328 (20, [sR 1 0, sI (V 2 0 8), sI G, sI i, sI f, sI j, l6, l7, l8, l9, l10], []) (HM q W) = RUN (d + 13) 328 (83, [sR 1 0, sI (V 2 0 8), sI G, sI i, sI f, sI j, l6', l7, l8, l9, l10], [aI (iI (dlR V i j))]) (HM q W) := by
  have hn := rk_n lw.1
  have hnW := sm.n
  have bi := rk_4 lw.1 (j := i) (by omega)
  have bj := rk_4 lw.1 (j := j) (by omega)
  have bw := rk_w lw.1
  have p4 : W 4 0 = V 4 0 := sm.r (by decide) (by decide)
  have hE : seeT (W 3 0) (W 4 0) (W 5 0) i j = cE V i j := congrFun (congrFun sm.cE i) j
  refine ⟨sI (V 4 0 j - V 4 0 i), ?_⟩
  have e := g_328_20 (d := d + 5) (q := q) (V := W) (x1 := V 2 0 8) (x2 := G) (x3 := i) (x4 := f) (x5 := j) (l6 := l6) (l7 := l7) (l8 := l8) (l9 := l9) (l10 := l10) lwW.1 (by omega) (by omega) hf (fun _ => by omega) (fun _ => by omega) (fun _ _ => by rw [p4]; omega)
  rw [cif_neg (by omega), hE, p4, sm.w] at e
  refine Eq.trans e ?_
  unfold dlR
  by_cases c : cE V i j
  · rw [cif_pos (b2i_pos c), cif_pos c]
    have hd : cW V i j = max (if V 4 0 j - V 4 0 i ≤ 0 then V 2 0 9 - (V 4 0 j - V 4 0 i) else V 4 0 j - V 4 0 i - V 2 0 9) 1 := rfl
    by_cases c2 : V 4 0 j - V 4 0 i ≤ 0
    · rw [cif_pos c2]
      refine Eq.trans (g_328_74 (d := d + 5) (V := W) lwW.1 (by omega) (by omega)) ?_
      rw [hd, if_pos c2]
      rw [show max 1 (max (V 4 0 j - V 4 0 i) (-(V 4 0 j - V 4 0 i)) - -V 2 0 9) = max (V 2 0 9 - (V 4 0 j - V 4 0 i)) 1 by omega]
    · rw [cif_neg c2]
      refine Eq.trans (g_328_74 (d := d + 5) (V := W) lwW.1 (by omega) (by omega)) ?_
      rw [hd, if_neg c2]
      rw [show max 1 (max (V 4 0 j - V 4 0 i) (-(V 4 0 j - V 4 0 i)) - V 2 0 9) = max (V 4 0 j - V 4 0 i - V 2 0 9) 1 by omega]
  · rw [cif_neg (fun z => by rw [b2i_neg c] at z; exact absurd z (by decide)), cif_neg c]
theorem TB_5 : ∀ n : Nat, n < 6 → TB n n ≤ 3905 := by decide
theorem rp_134 (lw : LW V) {i j G f : Int} (hi : 0 ≤ i ∧ i < V 2 0 8) (hj : 0 ≤ j ∧ j < V 2 0 8) {q : QQ} {W : VV} (sm : same V W) (lwW : LW W) (l6 l8 l9 l10 : Option AV) (l7 : Option AV) (s : Int) :
    ∃ q' W', RUN (d + 13) 328 (83, [sR 1 0, sI (V 2 0 8), sI G, sI i, sI f, sI j, l6, l7, l8, l9, l10], [aI (iI s)]) (HM q W) = RUN (d + 13) 328 (134, [sR 1 0, sI (V 2 0 8), sI G, sI i, sI f, sI j, l6, sI s, l8, l9, l10], [aI (iI (bsR V i j))]) (HM q' W') ∧ GO 3905 n0 q W q' W' := by
  have hn := rk_n lw.1
  have hnW := sm.n
  have e := g_328_83 (d := d + 5) (q := q) (V := W) (x1 := V 2 0 8) (x2 := G) (x3 := i) (x4 := f) (x5 := j) (l6 := l6) (l7 := l7) (l8 := l8) (l9 := l9) (l10 := l10) (s0 := s) lwW.1 (by omega)
  unfold bsR
  by_cases c : 6 ≤ V 2 0 8
  · rw [cif_pos c] at e
    obtain ⟨q1, W1, e1, g1⟩ := x_331 (d := d + 6) (n0 := n0) (q := q) (V := W) (x1 := i) (x2 := j) lwW (by omega) (by omega)
    rw [sm.xvD] at e1
    have sm1 : same V W1 := fun a a1 a2 => (g1.same a a1 a2).trans (sm a a1 a2)
    have lw1 := g1.lw lwW
    have n1 := sm1.n
    by_cases c2 : pR V i j
    · have bi := pD_c lw hi hj c2
      have bn := pN_b lw hi hj c2
      have v1 : vD V i j = pD V i j := cif_pos c2
      have v2 : vL V i j = (pN V i j : Int) + 1 := cif_pos c2
      rw [v1] at e1
      have e106 := g_328_106 (d := d + 5) (q := q) (V := W) (x1 := V 2 0 8) (x2 := G) (x3 := i) (x4 := f) (x5 := j) (l6 := l6) (x7 := s) (l8 := l8) (l9 := l9) (l10 := l10) (s0 := j) (s1 := i) lwW.1 e1 g1.qle (by omega)
      rw [cif_pos bi.1] at e106
      obtain ⟨q2, W2, e2, g2⟩ := x_331 (d := d + 6) (n0 := n0) (q := q1) (V := W1) (x1 := i) (x2 := j) lw1 (by omega) (by omega)
      rw [sm1.xvD, v1] at e2
      have sm2 : same V W2 := fun a a1 a2 => (g2.same a a1 a2).trans (sm1 a a1 a2)
      have lw2 := g2.lw lw1
      have n2 := sm2.n
      have e122 := g_328_122 (d := d + 5) (q := q1) (V := W1) (x1 := V 2 0 8) (x2 := G) (x3 := i) (x4 := f) (x5 := j) (l6 := l6) (x7 := s) (l8 := l8) (l9 := l9) (l10 := l10) (s0 := j) (s1 := i) (s3 := 100) lw1.1 e2 g2.qle
      obtain ⟨q3, W3, e3, g3⟩ := x_332 (d := d + 6) (n0 := n0) (q := q2) (V := W2) (x1 := i) (x2 := j) lw2 (by omega) (by omega)
      rw [sm2.xvL, v2] at e3
      have e130 := g_328_130 (d := d + 5) (q := q2) (V := W2) (x1 := V 2 0 8) (x2 := G) (x3 := i) (x4 := f) (x5 := j) (l6 := l6) (x7 := s) (l8 := l8) (l9 := l9) (l10 := l10) (s0 := j) (s1 := i) (s3 := 100 * pD V i j) lw2.1 e3 g3.qle
      rw [cif_pos c2]
      refine ⟨q3, W3, ?_, ((g1.trans g2).trans g3).mono (by decide)⟩
      rw [show valR V i j = 100 * pD V i j + ((pN V i j : Int) + 1) by unfold valR; omega]
      exact e.trans (e106.trans (e122.trans e130))
    · have v1 : vD V i j = -13 := cif_neg c2
      rw [v1] at e1
      have e106 := g_328_106 (d := d + 5) (q := q) (V := W) (x1 := V 2 0 8) (x2 := G) (x3 := i) (x4 := f) (x5 := j) (l6 := l6) (x7 := s) (l8 := l8) (l9 := l9) (l10 := l10) (s0 := j) (s1 := i) lwW.1 e1 g1.qle ⟨by decide, by decide⟩
      rw [cif_neg (by decide)] at e106
      rw [cif_neg c2]
      exact ⟨q1, W1, e.trans e106, g1.mono (by decide)⟩
  · rw [cif_neg c] at e
    have hcn : cntI (fun t => ¬ tbit 0 t ∧ ¬ t = i) (V 2 0 8) < ((V 2 0 8).toNat : Nat) := by
      have := cntI_lt (P := fun t => ¬ tbit 0 t ∧ ¬ t = i) hi (fun z => z.2 rfl)
      omega
    obtain ⟨v, q1, W1, e1, g1, b1, lo, up⟩ := br_go (to := j) (d := d + (7 - (V 2 0 8).toNat)) (n0 := n0) lw hj (V 2 0 8).toNat i 0 q W (by omega) sm lwW hi hcn
    rw [show d + (7 - (V 2 0 8).toNat) + (V 2 0 8).toNat + 5 = d + 5 + 7 by omega] at e1
    have e96 := g_328_96 (d := d + 5) (q := q) (V := W) (x1 := V 2 0 8) (x2 := G) (x3 := i) (x4 := f) (x5 := j) (l6 := l6) (x7 := s) (l8 := l8) (l9 := l9) (l10 := l10) (s0 := 0) (s1 := j) (s2 := i) lwW.1 e1 g1.qle
    refine ⟨q1, W1, ?_, g1.mono (TB_5 _ (by omega))⟩
    refine (e.trans e96).trans ?_
    by_cases c2 : pR V i j
    · have h1 := up c2 (fun x _ hx => absurd hx (tbit_0 x))
      have h2 := lo h1.1
      rw [cif_pos c2, show v = valR V i j by omega]
    · rw [cif_neg c2]
      have : v = -1 := by
        by_cases z : 0 ≤ v
        · exact absurd (lo z).1 c2
        · omega
      rw [this]
theorem rp_191 (lw : LW V) {i j G dl : Int} (hi : 0 ≤ i ∧ i < V 2 0 8) (hj : 0 ≤ j ∧ j < V 2 0 8) {q : QQ} {W : VV} (sm : same V W) (lwW : LW W) (l6 l8 l9 l10 : Option AV) :
    RUN (d + 13) 328 (134, [sR 1 0, sI (V 2 0 8), sI G, sI i, sI (b2i (frs V i j)), sI j, l6, sI dl, l8, l9, l10], [aI (iI (bsR V i j))]) (HM q W) = RUN (d + 13) 328 (191, [sR 1 0, sI (V 2 0 8), sI G, sI i, sI (b2i (frs V i j)), sI j, l6, sI dl, sI (bsR V i j), sI (vD V i j), sI (vL V i j)], [aI (iI (b2i (frs V i (j + 1))))]) (HM q W) := by
  have hn := rk_n lw.1
  have hb : R32 (bsR V i j) := by
    unfold bsR
    by_cases c : pR V i j
    · have := val_pos lw hj hi c
      rw [cif_pos c]
      omega
    · rw [cif_neg c]
      omega
  -- from 168 on
  have tail : RUN (d + 13) 328 (168, [sR 1 0, sI (V 2 0 8), sI G, sI i, sI (b2i (frs V i j)), sI j, l6, sI dl, sI (bsR V i j), sI (vD V i j), l10], [aI (iI (vL V i j))]) (HM q W) = RUN (d + 13) 328 (191, [sR 1 0, sI (V 2 0 8), sI G, sI i, sI (b2i (frs V i j)), sI j, l6, sI dl, sI (bsR V i j), sI (vD V i j), sI (vL V i j)], [aI (iI (b2i (frs V i (j + 1))))]) (HM q W) := by
    have nx := frs_next (V := V) (i := i) hj.1
    refine Eq.trans (g_328_168 (d := d + 5) (V := W) lwW.1 (b2i_R _) (by omega) (by omega) hb) ?_
    have one : frs V i (j + 1) → RUN (d + 5 + 8) 328 (186, [sR 1 0, sI (V 2 0 8), sI G, sI i, sI (b2i (frs V i j)), sI j, l6, sI dl, sI (bsR V i j), sI (vD V i j), sI (vL V i j)], []) (HM q W) = RUN (d + 13) 328 (191, [sR 1 0, sI (V 2 0 8), sI G, sI i, sI (b2i (frs V i j)), sI j, l6, sI dl, sI (bsR V i j), sI (vD V i j), sI (vL V i j)], [aI (iI (b2i (frs V i (j + 1))))]) (HM q W) := by
      intro h
      rw [b2i_pos h]
      exact g_328_186 (d := d + 5) (V := W) lwW.1
    have zero : ¬ frs V i (j + 1) → RUN (d + 5 + 8) 328 (190, [sR 1 0, sI (V 2 0 8), sI G, sI i, sI (b2i (frs V i j)), sI j, l6, sI dl, sI (bsR V i j), sI (vD V i j), sI (vL V i j)], []) (HM q W) = RUN (d + 13) 328 (191, [sR 1 0, sI (V 2 0 8), sI G, sI i, sI (b2i (frs V i j)), sI j, l6, sI dl, sI (bsR V i j), sI (vD V i j), sI (vL V i j)], [aI (iI (b2i (frs V i (j + 1))))]) (HM q W) := by
      intro h
      rw [b2i_neg h]
      exact g_328_190 (d := d + 5) (V := W) lwW.1
    by_cases c1 : frs V i j
    · rw [cif_neg (fun z => b2i_z.mp z c1)]
      by_cases c2 : i ≤ j
      · rw [cif_pos c2]
        exact one (nx.mpr ⟨c1, fun z => by omega⟩)
      · rw [cif_neg c2]
        by_cases c3 : pR V i j
        · have vp := val_pos lw hj hi c3
          have : bsR V i j = valR V i j := cif_pos c3
          rw [cif_pos (by omega)]
          exact zero (fun z => (nx.mp z).2 (by omega) c3)
        · have : bsR V i j = -1 := cif_neg c3
          rw [cif_neg (by omega)]
          exact one (nx.mpr ⟨c1, fun _ => c3⟩)
    · rw [cif_pos (b2i_neg c1)]
      exact zero (fun z => c1 (nx.mp z).1)
  refine Eq.trans (g_328_134 (d := d + 5) (V := W) lwW.1 hb) ?_
  by_cases c : pR V i j
  · have vp := val_pos lw hj hi c
    have bi := pD_c lw hi hj c
    have bn := pN_b lw hi hj c
    have hbs : bsR V i j = valR V i j := cif_pos c
    have hv1 : vD V i j = pD V i j := cif_pos c
    have hv2 : vL V i j = (pN V i j : Int) + 1 := cif_pos c
    have q1 : bsR V i j / 100 = vD V i j := by
      rw [hbs, hv1]
      unfold valR
      omega
    have q2 : bsR V i j % 100 = vL V i j := by
      rw [hbs, hv2]
      unfold valR
      omega
    rw [cif_pos (by omega), q1]
    refine Eq.trans (g_328_151 (d := d + 5) (V := W) lwW.1 hb) ?_
    rw [cif_pos (by omega), q2]
    exact tail
  · have hbs : bsR V i j = -1 := cif_neg c
    have hv1 : vD V i j = -13 := cif_neg c
    have hv2 : vL V i j = -13 := cif_neg c
    rw [cif_neg (by omega)]
    refine Eq.trans (g_328_151 (d := d + 5) (V := W) lwW.1 hb) ?_
    rw [cif_neg (by omega), ← hv2]
    rw [hv2, ← hv1]
    have t2 := tail
    rw [hv2] at t2
    rw [hv1] at t2 ⊢
    exact t2
theorem rp_go (lw : LW V) {i j G : Int} (hi : 0 ≤ i ∧ i < V 2 0 8) (hj : 0 ≤ j ∧ j < V 2 0 8) {q : QQ} {W : VV} (sm : same V W) (lwW : LW W) (l6 l7 l8 l9 l10 : Option AV) :
    ∃ q' W' l6' l7' l8' l9' l10', RUN (d + 13) 328 (20, [sR 1 0, sI (V 2 0 8), sI G, sI i, sI (b2i (frs V i j)), sI j, l6, l7, l8, l9, l10], []) (HM q W) = RUN (d + 13) 328 (20, [sR 1 0, sI (V 2 0 8), sI G, sI i, sI (b2i (frs V i (j + 1))), sI (j + 1), l6', l7', l8', l9', l10'], []) (HM q' W') ∧ GO 4400 n0 q W q' W' := by
  have hn := rk_n lw.1
  obtain ⟨k6, e83⟩ := rp_83 (d := d) (G := G) lw hi hj (b2i_R (frs V i j)) (q := q) sm lwW l6 l7 l8 l9 l10
  obtain ⟨q1, W1, e134, g1⟩ := rp_134 (d := d) (n0 := n0) (G := G) (f := b2i (frs V i j)) lw hi hj (q := q) sm lwW k6 l8 l9 l10 l7 (dlR V i j)
  have sm1 : same V W1 := fun a a1 a2 => (g1.same a a1 a2).trans (sm a a1 a2)
  have lw1 := g1.lw lwW
  have n1 := sm1.n
  have e191 := rp_191 (d := d) (G := G) (dl := dlR V i j) lw hi hj (q := q1) sm1 lw1 k6 l8 l9 l10
  have hE : seeT (W1 3 0) (W1 4 0) (W1 5 0) i j = cE V i j := congrFun (congrFun sm1.cE i) j
  have hW : delT (W1 4 0) (W1 2 0 9) i j = cW V i j := congrFun (congrFun sm1.cW i) j
  have cb := cW_b lw hi hj
  have hdl : R32 (dlR V i j) := by
    unfold dlR
    by_cases c : cE V i j
    · rw [cif_pos c]; omega
    · rw [cif_neg c]; omega
  have hvD : R32 (vD V i j) := by
    unfold vD
    by_cases c : pR V i j
    · have := pD_c lw hi hj c
      rw [cif_pos c]; omega
    · rw [cif_neg c]; omega
  have hvL : R32 (vL V i j) := by
    unfold vL
    by_cases c : pR V i j
    · have := pN_b lw hi hj c
      rw [cif_pos c]; omega
    · rw [cif_neg c]; omega
  have hbs : R32 (bsR V i j) := by
    unfold bsR
    by_cases c : pR V i j
    · have := val_pos lw hj hi c
      rw [cif_pos c]; omega
    · rw [cif_neg c]; omega
  -- the delay
  have s191 := g_328_191 (d := d + 5) (q := q1) (V := W1) (x1 := V 2 0 8) (x2 := G) (x3 := i) (l4 := sI (b2i (frs V i j))) (x5 := j) (l6 := k6) (x7 := dlR V i j) (x8 := bsR V i j) (x9 := vD V i j) (x10 := vL V i j) (s0 := b2i (frs V i (j + 1))) lw1.1 (by omega) (by omega) hdl
  rw [hE, hW] at s191
  have e209 : ∃ q2, RUN (d + 13) 328 (191, [sR 1 0, sI (V 2 0 8), sI G, sI i, sI (b2i (frs V i j)), sI j, k6, sI (dlR V i j), sI (bsR V i j), sI (vD V i j), sI (vL V i j)], [aI (iI (b2i (frs V i (j + 1))))]) (HM q1 W1) = RUN (d + 13) 328 (209, [sR 1 0, sI (V 2 0 8), sI G, sI i, sI (b2i (frs V i (j + 1))), sI j, k6, sI (dlR V i j), sI (bsR V i j), sI (vD V i j), sI (vL V i j)], [aI (iI j), aI (iI i), aR 1 0]) (HM q2 W1) ∧ GO 1 n0 q1 W1 q2 W1 := by
    by_cases c : cE V i j
    · rw [cif_pos c, cif_pos (show cW V i j = dlR V i j from (cif_pos c).symm)] at s191
      exact ⟨q1, s191, GO.refl lw1⟩
    · rw [cif_neg c, cif_pos (show (-13 : Int) = dlR V i j from (cif_neg c).symm)] at s191
      exact ⟨_, s191, GO.thr lw1⟩
  obtain ⟨q2, e209, g2⟩ := e209
  obtain ⟨q3, W3, e3, g3⟩ := x_331 (d := d + 6) (n0 := n0) (q := q2) (V := W1) (x1 := i) (x2 := j) lw1 (by omega) (by omega)
  rw [sm1.xvD] at e3
  have sm3 : same V W3 := fun a a1 a2 => (g3.same a a1 a2).trans (sm1 a a1 a2)
  have lw3 := g3.lw lw1
  have n3 := sm3.n
  have s209 := g_328_209 (d := d + 5) (q := q2) (V := W1) (x1 := V 2 0 8) (x2 := G) (x3 := i) (x4 := b2i (frs V i (j + 1))) (x5 := j) (l6 := k6) (l7 := sI (dlR V i j)) (x8 := bsR V i j) (x9 := vD V i j) (x10 := vL V i j) (s0 := j) (s1 := i) lw1.1 e3 g3.qle hvD hvD
  rw [cif_pos rfl] at s209
  obtain ⟨q4, W4, e4, g4⟩ := x_333 (d := d + 7) (n0 := n0) (q := q3) (V := W3) (x1 := i) (x2 := j) lw3 (by omega) (by omega)
  rw [sm3.xvD] at e4
  have sm4 : same V W4 := fun a a1 a2 => (g4.same a a1 a2).trans (sm3 a a1 a2)
  have lw4 := g4.lw lw3
  have n4 := sm4.n
  have s221 := g_328_221 (d := d + 5) (q := q3) (V := W3) (x1 := V 2 0 8) (x2 := G) (x3 := i) (x4 := b2i (frs V i (j + 1))) (x5 := j) (l6 := k6) (l7 := sI (dlR V i j)) (x8 := bsR V i j) (x9 := vD V i j) (x10 := vL V i j) (s0 := j) (s1 := i) lw3.1 e4 g4.qle hvD hvD
  rw [cif_pos rfl] at s221
  obtain ⟨q5, W5, e5, g5⟩ := x_332 (d := d + 6) (n0 := n0) (q := q4) (V := W4) (x1 := i) (x2 := j) lw4 (by omega) (by omega)
  rw [sm4.xvL] at e5
  have sm5 : same V W5 := fun a a1 a2 => (g5.same a a1 a2).trans (sm4 a a1 a2)
  have lw5 := g5.lw lw4
  have n5 := sm5.n
  have s233 := g_328_233 (d := d + 5) (q := q4) (V := W4) (x1 := V 2 0 8) (x2 := G) (x3 := i) (x4 := b2i (frs V i (j + 1))) (x5 := j) (l6 := k6) (l7 := sI (dlR V i j)) (x8 := bsR V i j) (x9 := vD V i j) (x10 := vL V i j) (s0 := j) (s1 := i) lw4.1 e5 g5.qle hvL hvL hbs
  rw [cif_pos rfl] at s233
  have g15 := (((g1.trans g2).trans g3).trans g4).trans g5
  have e15 := e83.trans (e134.trans (e191.trans (e209.trans (s209.trans s221))))
  by_cases c : pR V i j
  · have vp := val_pos lw hj hi c
    have hb1 : bsR V i j = valR V i j := cif_pos c
    have hv1 : vD V i j = pD V i j := cif_pos c
    have hv2 : vL V i j = (pN V i j : Int) + 1 := cif_pos c
    rw [cif_neg (by omega), hv1, hv2] at s233
    obtain ⟨q6, W6, e6, g6⟩ := s_334 (d := d + 5) (n0 := n0) (V := W5) lw5 (x1 := i) (x2 := j) (by omega) (by omega) (by rw [sm5.xpR]; exact c) (q := q5)
    rw [sm5.xpD, sm5.xpN] at e6
    have s254 := g_328_254 (d := d + 5) (q := q5) (V := W5) (x1 := V 2 0 8) (x2 := G) (x3 := i) (x4 := b2i (frs V i (j + 1))) (x5 := j) (l6 := k6) (l7 := sI (dlR V i j)) (l8 := sI (bsR V i j)) (l9 := sI (pD V i j)) (l10 := sI (pN V i j + 1)) (s0 := (pN V i j : Int) + 1) (s1 := pD V i j) (s2 := j) (s3 := i) lw5.1 e6 g6.qle ⟨by decide, by decide⟩
    rw [cif_neg (by decide)] at s254
    rw [hv1, hv2] at e15
    exact ⟨q6, W6, _, _, _, _, _, e15.trans (s233.trans s254), (g15.trans g6).mono (by decide)⟩
  · have hb1 : bsR V i j = -1 := cif_neg c
    rw [cif_pos (by omega)] at s233
    exact ⟨q5, W5, _, _, _, _, _, e15.trans s233, g15.mono (by decide)⟩
end
