/-! the law's patterns -/
theorem dN_8 (k v : Nat) : dN k v ≤ 8 := by
  unfold dN pc8
  omega
theorem cover2 : ∀ k, k < 256 → dN k (nrS k 16) ≤ 2 := by decide +kernel
/-- the least so far, and its letter -/
def lsF (k : Nat) (i : Int) : Int := if i = 0 then 9 else (dN k (nrS k i.toNat) : Nat)
def ltF (k : Nat) (i : Int) : Int := if i = 0 then 0 else 97 + (nrS k i.toNat : Nat)
theorem ls_step {k : Nat} {i : Int} (hi : 0 ≤ i) : (lsF k i ≤ (dN k i.toNat : Nat) → min (lsF k i) (dN k i.toNat : Nat) = lsF k (i + 1) ∧ ltF k i = ltF k (i + 1)) ∧ (¬ lsF k i ≤ (dN k i.toNat : Nat) → min (lsF k i) (dN k i.toNat : Nat) = lsF k (i + 1) ∧ 97 + i = ltF k (i + 1)) := by
  have b := dN_8 k i.toNat
  have e1 : (i + 1).toNat = i.toNat + 1 := by omega
  have e2 : nrS k (i.toNat + 1) = if dN k i.toNat < dN k (nrS k i.toNat) then i.toNat else nrS k i.toNat := rfl
  unfold lsF ltF
  rw [if_neg (show ¬ i + 1 = 0 by omega), if_neg (show ¬ i + 1 = 0 by omega), e1, e2]
  by_cases c : i = 0
  · subst c
    rw [if_pos rfl, if_pos rfl]
    have e3 : nrS k (Int.toNat 0) = 0 := rfl
    rw [e3, if_neg (show ¬ dN k (Int.toNat 0) < dN k 0 from Nat.lt_irrefl _)]
    have e4 : dN k (Int.toNat 0) = dN k 0 := rfl
    rw [e4] at b ⊢
    omega
  · rw [if_neg c, if_neg c]
    by_cases c2 : dN k i.toNat < dN k (nrS k i.toNat)
    · rw [if_pos c2]
      omega
    · rw [if_neg c2]
      omega
theorem nrD_2 {x : Int} (h : 0 ≤ x ∧ x < 256) : nrD x ≤ 2 := by
  have := cover2 x.toNat (by omega)
  unfold nrD
  omega
section
variable {V : VV} {d n0 : Nat}
theorem pt_set (lw : LW V) {x : Int} (hx : 0 ≤ x ∧ x < 256) {q : QQ} (l5 : Option AV) :
    ∃ q' l2 l3 l4 l5', RUN (d + 6) 336 (17, [sR 1 0, sI x, sI 9, sI 0, sI 0, l5], []) (HM q V) = RUN (d + 6) 336 (2, [sR 1 0, sI (x + 1), l2, l3, l4, l5'], []) (HM q' V) ∧ GO 2 n0 q V q' V := by
  have rk := lw.1
  have sm := lw.2.1
  have hb := fun i => dN_8 x.toNat (nrS x.toNat i)
  have hls : ∀ i, R32 (lsF x.toNat i) := by
    intro i
    unfold lsF
    have := hb i.toNat
    split <;> omega
  obtain ⟨l5', e⟩ := loop_to (fun (i : Int) (s : Int × Int) (l : Option AV) => RUN (d + 6) 336 (17, [sR 1 0, sI x, sI s.1, sI s.2, sI i, l], []) (HM q V)) (fun i => (lsF x.toNat i, ltF x.toNat i)) 0 16 (by
    intro i l h1 h2
    refine ⟨sI (popF (bXor (patT i) x)), ?_⟩
    try dsimp only
    rw [g_336_17 rk sm (by omega) (hls i) (fun _ => ⟨h1, h2⟩), cif_neg (by omega)]
    obtain ⟨s1, s2⟩ := ls_step (k := x.toNat) h1
    rw [popF_xor hx ⟨h1, h2⟩]
    by_cases c : lsF x.toNat i ≤ (dN x.toNat i.toNat : Nat)
    · rw [cif_pos c, (s1 c).1, (s1 c).2]
    · rw [cif_neg c, (s2 c).1, (s2 c).2]) (by decide) l5
  have e' : RUN (d + 6) 336 (17, [sR 1 0, sI x, sI 9, sI 0, sI 0, l5], []) (HM q V) = RUN (d + 6) 336 (17, [sR 1 0, sI x, sI (nrD x), sI (97 + nrV x), sI 16, l5'], []) (HM q V) := e
  have bV := nrV_b hx
  have bD := nrD_b hx
  have b2 := nrD_2 hx
  rw [e']
  have e17 := g_336_17 (d := d) (q := q) (V := V) (x1 := x) (x2 := nrD x) (x3 := 97 + nrV x) (x4 := 16) (l5 := l5') rk sm ⟨by decide, by decide⟩ (by omega) (fun z => absurd (Int.le_refl _) z)
  rw [cif_pos (Int.le_refl _)] at e17
  have e76 := fun s0 (h : R32 s0) => g_336_76 (d := d) (q := q) (V := V) (x1 := x) (x2 := nrD x) (l3 := sI (97 + nrV x)) (l4 := sI 16) (l5 := l5') (s0 := s0) rk sm hx (by omega) (fun _ => by omega) h
  by_cases c : nrD x ≤ 1
  · rw [cif_pos c] at e17
    have e1 := e76 (97 + nrV x) (by omega)
    rw [cif_neg (by omega), cif_pos c, cif_neg (by omega), cif_pos (by omega), cif_pos rfl] at e1
    exact ⟨q, _, _, _, _, e17.trans e1, GO.refl lw⟩
  · rw [cif_neg c] at e17
    have e1 := e76 (-13) ⟨by decide, by decide⟩
    rw [cif_neg (by omega), cif_neg c, cif_pos rfl, cif_pos rfl] at e1
    exact ⟨_, _, _, _, _, e17.trans e1, (GO.thr lw).trans (GO.thr lw)⟩
theorem pt_sets (lw : LW V) : ∀ (r : Nat) (x : Int) (q : QQ) (l2 l3 l4 l5 : Option AV), x + r = 256 → 0 ≤ x →
    ∃ q' l2' l3' l4' l5', RUN (d + 6) 336 (2, [sR 1 0, sI x, l2, l3, l4, l5], []) (HM q V) = RUN (d + 6) 336 (122, [sR 1 0, sI 0, l2', l3', l4', l5'], []) (HM q' V) ∧ GO (2 * r) n0 q V q' V := by
  intro r
  induction r with
  | zero =>
    intro x q l2 l3 l4 l5 e0 hx
    refine ⟨q, l2, l3, l4, l5, ?_, GO.refl lw⟩
    rw [g_336_2 lw.1 lw.2.1 (by omega), cif_pos (by omega)]
  | succ r ih =>
    intro x q l2 l3 l4 l5 e0 hx
    have e2 := g_336_2 (d := d) (q := q) (V := V) (x1 := x) (l2 := l2) (l3 := l3) (l4 := l4) (l5 := l5) lw.1 lw.2.1 (by omega)
    rw [cif_neg (by omega)] at e2
    obtain ⟨q1, k2, k3, k4, k5, e3, g3⟩ := pt_set (d := d) (n0 := n0) lw (x := x) (by omega) (q := q) l5
    obtain ⟨q2, m2, m3, m4, m5, e4, g4⟩ := ih (x + 1) q1 k2 k3 k4 k5 (by omega) (by omega)
    exact ⟨q2, m2, m3, m4, m5, e2.trans (e3.trans e4), (g3.trans g4).mono (by omega)⟩
theorem pt_tow (lw : LW V) {v t : Int} (hv : 0 ≤ v ∧ v < 16) (ht : 0 ≤ t ∧ t < V 2 0 8) {q : QQ} (l3 l4 l5 : Option AV) :
    ∃ l3' l4' l5', RUN (d + 6) 336 (148, [sR 1 0, sI v, sI t, l3, l4, l5], []) (HM q V) = RUN (d + 6) 336 (148, [sR 1 0, sI v, sI (t + 1), l3', l4', l5'], []) (HM q V) := by
  have rk := lw.1
  have sm := lw.2.1
  have hn := rk_n rk
  have b6 := rk_6 rk (j := t) (by omega)
  have b7 := rk_7 rk (j := t) (by omega)
  -- the end of it
  have fin : ∀ s1 s0 l3 l4 l5, bOr s1 s0 = chgF (V 6 0 t) (V 7 0 t) → RUN (d + 6) 336 (226, [sR 1 0, sI v, sI t, l3, l4, l5], [aI (iI s0), aI (iI s1)]) (HM q V) = RUN (d + 6) 336 (148, [sR 1 0, sI v, sI (t + 1), l3, l4, sI (bOr s1 s0)], []) (HM q V) := by
    intro s1 s0 l3 l4 l5 h
    refine Eq.trans (g_336_226 rk sm ht (by omega) (by omega) hv) ?_
    refine cif_pos ?_
    rw [h]
    unfold sigN
    rw [show (97 + v) % 65536 - 97 = v by omega]
  -- from 197
  have mid : ∀ s0, (s0 = if V 6 0 t = 0 then 0 else if V 6 0 t = 1 ∧ ¬ V 7 0 t % 3 = 2 then 0 else bShl 1 (V 7 0 t % 8)) → ∃ l3' l4' l5', RUN (d + 6) 336 (197, [sR 1 0, sI v, sI t, sI (V 7 0 t), sI (V 6 0 t), l5], [aI (iI s0)]) (HM q V) = RUN (d + 6) 336 (148, [sR 1 0, sI v, sI (t + 1), l3', l4', l5'], []) (HM q V) := by
    intro s0 hs
    have hR : R32 s0 := by
      rw [hs]
      split
      · decide
      · split
        · decide
        · exact bShl_R _ _
    have e := g_336_197 (d := d) (q := q) (V := V) (x1 := v) (x2 := t) (x3 := V 7 0 t) (x4 := V 6 0 t) (l5 := l5) (s0 := s0) rk sm (by omega) (fun _ => by omega) (fun _ _ => by omega)
    have z225 : bOr s0 0 = chgF (V 6 0 t) (V 7 0 t) → ∃ l3' l4' l5', RUN (d + 6) 336 (225, [sR 1 0, sI v, sI t, sI (V 7 0 t), sI (V 6 0 t), sI s0], [aI (iI s0)]) (HM q V) = RUN (d + 6) 336 (148, [sR 1 0, sI v, sI (t + 1), l3', l4', l5'], []) (HM q V) := fun h => ⟨_, _, _, (g_336_225 rk sm).trans (fin s0 0 _ _ _ h)⟩
    by_cases c : V 6 0 t = 3
    · have hs0 : s0 = bShl 1 (V 7 0 t % 8) := by
        rw [hs, if_neg (by omega), if_neg (by omega)]
      rw [cif_pos c] at e
      by_cases c2 : V 7 0 t % 2 = 1
      · rw [cif_pos c2] at e
        refine ⟨_, _, _, e.trans (fin s0 _ _ _ _ ?_)⟩
        unfold chgF
        rw [cif_neg (by omega), cif_neg (by omega), cif_pos c, cif_pos c2, hs0]
      · rw [cif_neg c2] at e
        obtain ⟨a, b, cc, ee⟩ := z225 (by
          rw [bOr_0 hR]
          unfold chgF
          rw [cif_neg (by omega), cif_neg (by omega), cif_pos c, cif_neg c2, hs0])
        exact ⟨a, b, cc, e.trans ee⟩
    · rw [cif_neg c] at e
      obtain ⟨a, b, cc, ee⟩ := z225 (by
        rw [bOr_0 hR, hs]
        unfold chgF
        by_cases k0 : V 6 0 t = 0
        · rw [if_pos k0, cif_neg (by omega), cif_neg (by omega), cif_neg c]
        · rw [if_neg k0]
          by_cases k1 : V 6 0 t = 1
          · rw [cif_pos k1]
            by_cases k2 : V 7 0 t % 3 = 2
            · rw [cif_pos k2, if_neg (fun z => z.2 k2)]
            · rw [cif_neg k2, if_pos ⟨k1, k2⟩]
          · rw [cif_neg k1, cif_pos (by omega), if_neg (fun z => k1 z.1)])
      exact ⟨a, b, cc, e.trans ee⟩
  have e := g_336_148 (d := d) (q := q) (V := V) (x1 := v) (x2 := t) (l3 := l3) (l4 := l4) (l5 := l5) rk sm (by omega) (fun _ => ht) (fun _ => by omega) (fun _ _ _ => by omega)
  rw [cif_neg (by omega)] at e
  by_cases k0 : V 6 0 t = 0
  · rw [cif_pos k0] at e
    obtain ⟨a, b, cc, ee⟩ := mid 0 (by rw [if_pos k0])
    exact ⟨a, b, cc, e.trans ((g_336_187 rk sm).trans ee)⟩
  · rw [cif_neg k0] at e
    by_cases k1 : V 6 0 t = 1
    · rw [cif_pos k1] at e
      by_cases k2 : V 7 0 t % 3 = 2
      · rw [cif_pos k2] at e
        obtain ⟨a, b, cc, ee⟩ := mid (bShl 1 (V 7 0 t % 8)) (by rw [if_neg k0, if_neg (fun z => z.2 k2)])
        exact ⟨a, b, cc, e.trans ((g_336_191 rk sm (by omega)).trans ee)⟩
      · rw [cif_neg k2] at e
        obtain ⟨a, b, cc, ee⟩ := mid 0 (by rw [if_neg k0, if_pos ⟨k1, k2⟩])
        exact ⟨a, b, cc, e.trans ((g_336_187 rk sm).trans ee)⟩
    · rw [cif_neg k1] at e
      obtain ⟨a, b, cc, ee⟩ := mid (bShl 1 (V 7 0 t % 8)) (by rw [if_neg k0, if_neg (fun z => k1 z.1)])
      exact ⟨a, b, cc, e.trans ((g_336_191 rk sm (by omega)).trans ee)⟩
theorem pt_val (lw : LW V) {v : Int} (hv : 0 ≤ v ∧ v < 16) {q : QQ} (l2 l3 l4 l5 : Option AV) :
    ∃ l2' l3' l4' l5', RUN (d + 6) 336 (122, [sR 1 0, sI v, l2, l3, l4, l5], []) (HM q V) = RUN (d + 6) 336 (122, [sR 1 0, sI (v + 1), l2', l3', l4', l5'], []) (HM q V) := by
  have rk := lw.1
  have sm := lw.2.1
  have hn := rk_n rk
  have hp := patT_b hv
  have h23 : V 23 0 ((97 + v) % 65536 - 97) = patT v := by
    rw [show (97 + v) % 65536 - 97 = v by omega]
    exact sm v hv
  have e := g_336_122 (d := d) (q := q) (V := V) (x1 := v) (l2 := l2) (l3 := l3) (l4 := l4) (l5 := l5) rk sm (by omega) (fun _ => by omega) (fun _ => by omega) (fun _ => hv) (fun _ => by rw [h23]; omega)
  rw [cif_neg (by omega), cif_pos h23] at e
  obtain ⟨⟨m3, m4, m5⟩, e2⟩ := loop_to (fun (i : Int) (_ : Unit) (l : Option AV × Option AV × Option AV) => RUN (d + 6) 336 (148, [sR 1 0, sI v, sI i, l.1, l.2.1, l.2.2], []) (HM q V)) (fun _ => ()) 0 (V 2 0 8) (by
    intro i l h1 h2
    obtain ⟨k3, k4, k5, ee⟩ := pt_tow (d := d) lw hv ⟨h1, h2⟩ (q := q) l.1 l.2.1 l.2.2
    exact ⟨(k3, k4, k5), ee⟩) hn.1 (l3, l4, l5)
  refine ⟨sI (V 2 0 8), m3, m4, m5, e.trans (Eq.trans e2 ?_)⟩
  refine Eq.trans (g_336_148 rk sm (by omega) (fun z => absurd (Int.le_refl _) z) (fun z => absurd (Int.le_refl _) z) (fun z => absurd (Int.le_refl _) z)) ?_
  exact cif_pos (Int.le_refl _)
theorem s_336 {q : QQ} (lw : LW V) (h0 : 0 < V 2 0 8) : ∃ q' W, RUN (d + 6) 336 (am_en 336 [aR 1 0]) (HM q V) = rI 1 (HM q' W) ∧ GO 530 n0 q V q' W := by
  have rk := lw.1
  have sm := lw.2.1
  have rl := lw.2.2.2.2.1
  have hn := rk_n rk
  have no : ¬ (0 ≤ V 2 0 8 ∧ V 2 0 8 < V 2 0 8) := by omega
  have r0 : (0 : Int) ≤ 0 ∧ 0 < V 2 0 8 := by omega
  obtain ⟨q1, l2, l3, l4, l5, e2, g2⟩ := pt_sets (d := d) (n0 := n0) lw 256 0 q none none none none (by decide) (by decide)
  obtain ⟨⟨m2, m3, m4, m5⟩, e3⟩ := loop_to (fun (i : Int) (_ : Unit) (l : Option AV × Option AV × Option AV × Option AV) => RUN (d + 6) 336 (122, [sR 1 0, sI i, l.1, l.2.1, l.2.2.1, l.2.2.2], []) (HM q1 V)) (fun _ => ()) 0 16 (by
    intro i l h1 h2
    obtain ⟨k2, k3, k4, k5, ee⟩ := pt_val (d := d) lw ⟨h1, h2⟩ (q := q1) l.1 l.2.1 l.2.2.1 l.2.2.2
    exact ⟨(k2, k3, k4, k5), ee⟩) (by decide) (l2, l3, l4, l5)
  have e4 := g_336_122 (d := d) (q := q1) (V := V) (x1 := 16) (l2 := m2) (l3 := m3) (l4 := m4) (l5 := m5) rk sm ⟨by decide, by decide⟩ (fun z => absurd (Int.le_refl _) z) (fun z => absurd (Int.le_refl _) z) (fun z => absurd (Int.le_refl _) z) (fun z => absurd (Int.le_refl _) z)
  rw [cif_pos (Int.le_refl _)] at e4
  have e5 := h_336_263 (d := d) (q := q1) (V := V) (l1 := sI 16) (l2 := m2) (l3 := m3) (l4 := m4) (l5 := m5) rk sm no r0 (fun z => absurd z no)
  have gt : GO 10 n0 q1 V (thr (thr (thr (thr (thr (thr (thr (thr (thr (thr q1)))))))))) V := (((((((((GO.thr lw).trans (GO.thr lw)).trans (GO.thr lw)).trans (GO.thr lw)).trans (GO.thr lw)).trans (GO.thr lw)).trans (GO.thr lw)).trans (GO.thr lw)).trans (GO.thr lw)).trans (GO.thr lw)
  generalize thr (thr (thr (thr (thr (thr (thr (thr (thr (thr q1))))))))) = q2 at e5 gt
  have c1 := e_347 (d := d) (q := q2) (V := V) (x1 := V 2 0 8) (x2 := 0) (x3 := 122) rk rl sm (by omega) ⟨by decide, by decide⟩ ⟨by decide, by decide⟩
  rw [cif_neg no] at c1
  have e6 := g_336_384 (d := d) (q := q2) (V := V) (l1 := sI (V 2 0 8)) (l2 := m2) (l3 := m3) (l4 := m4) (l5 := m5) (s0 := 122) (s1 := 0) (s2 := V 2 0 8) rk sm c1 (qle_thr _) ⟨by decide, by decide⟩
  rw [cif_pos rfl] at e6
  have c2 := e_347 (d := d) (q := thr q2) (V := V) (x1 := 0) (x2 := 0) (x3 := 113) rk rl sm ⟨by decide, by decide⟩ ⟨by decide, by decide⟩ ⟨by decide, by decide⟩
  rw [cif_pos r0, cif_pos r0, cif_neg (by decide), cif_neg (by decide)] at c2
  have e7 := g_336_397 (d := d) (q := thr q2) (V := V) (l1 := sI (V 2 0 8)) (l2 := m2) (l3 := m3) (l4 := m4) (l5 := m5) (s0 := 113) (s1 := 0) (s2 := 0) rk sm c2 (qle_thr _) ⟨by decide, by decide⟩
  rw [cif_pos rfl] at e7
  have c3 := e_347 (d := d) (q := thr (thr q2)) (V := V) (x1 := 0) (x2 := 0) (x3 := 97) rk rl sm ⟨by decide, by decide⟩ ⟨by decide, by decide⟩ ⟨by decide, by decide⟩
  obtain ⟨vs1, vs2⟩ := val_self lw r0
  have np : ¬ garbL V 0 0 97 := by
    intro ⟨i, hi, _⟩
    have dz := pD_c lw r0 r0 vs1
    unfold valR at vs2
    omega
  rw [cif_pos r0, cif_pos r0, cif_neg (by decide), cif_pos (by decide), cif_pos vs1, cif_neg np] at c3
  have e8 := fun l0 l1 l2 l3 l4 l5 => g_336_410 (d := d) (q := thr (thr q2)) (V := V) (l0 := l0) (l1 := l1) (l2 := l2) (l3 := l3) (l4 := l4) (l5 := l5) (s0 := 97) (s1 := 0) (s2 := 0) rk sm c3 (qle_refl _) ⟨by decide, by decide⟩
  have gk : GO 0 n0 (thr (thr q2)) V (thr (thr q2)) (foundV V 0 0) := ⟨adv_refl _, kp_found lw r0 r0 vs1⟩
  refine ⟨_, foundV V 0 0, ?_, (((g2.trans gt).trans ((GO.thr lw).trans (GO.thr lw))).trans gk).mono (by decide)⟩
  exact (g_336_0 rk sm).trans (e2.trans (Eq.trans e3 (e4.trans (e5.trans (e6.trans (e7.trans ((e8 _ _ _ _ _ _).trans (cif_pos rfl))))))))
end
