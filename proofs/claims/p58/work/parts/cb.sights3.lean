/-! the law's sights: watches by all sets, and the end -/
theorem bAnd_nn {a b : Int} (h : 0 ≤ b) (hb : b < 2147483648) : 0 ≤ bAnd a b := by
  have e := nN_and a b
  have l : nN a &&& nN b ≤ nN b := Nat.and_le_right
  rw [← e, nN_eq, nN_eq] at l
  have r : R32 (bAnd a b) := bAnd_R a b
  omega
/-- the fewest by all sets below k -/
noncomputable def fwN (n : Int) (C : Int → Prop) : Nat → Int
  | 0 => n
  | k + 1 => cif (C (k : Int)) (min (fwN n C k) (popF (k : Int))) (fwN n C k)
noncomputable def fwI (n : Int) (C : Int → Prop) (i : Int) : Int := fwN n C i.toNat
theorem fwI_succ {n : Int} {C : Int → Prop} {i : Int} (h : 0 ≤ i) : fwI n C (i + 1) = cif (C i) (min (fwI n C i) (popF i)) (fwI n C i) := by
  unfold fwI
  rw [show (i + 1).toNat = i.toNat + 1 by omega]
  show cif (C (i.toNat : Int)) (min (fwN n C i.toNat) (popF (i.toNat : Int))) (fwN n C i.toNat) = _
  rw [show (i.toNat : Int) = i by omega]
theorem fwN_is {n : Int} {C : Int → Prop} (k : Nat) : fwN n C k ≤ n ∧ (∀ x : Int, 0 ≤ x → x < k → C x → fwN n C k ≤ popF x) ∧ (fwN n C k = n ∨ ∃ x : Int, 0 ≤ x ∧ x < k ∧ C x ∧ popF x = fwN n C k) := by
  induction k with
  | zero => exact ⟨Int.le_refl _, fun x h1 h2 => by omega, Or.inl rfl⟩
  | succ k ih =>
    obtain ⟨i1, i2, i3⟩ := ih
    show cif (C (k : Int)) (min (fwN n C k) (popF (k : Int))) (fwN n C k) ≤ n ∧ (∀ x : Int, 0 ≤ x → x < (k + 1 : Nat) → C x → cif (C (k : Int)) (min (fwN n C k) (popF (k : Int))) (fwN n C k) ≤ popF x) ∧ (cif (C (k : Int)) (min (fwN n C k) (popF (k : Int))) (fwN n C k) = n ∨ ∃ x : Int, 0 ≤ x ∧ x < (k + 1 : Nat) ∧ C x ∧ popF x = cif (C (k : Int)) (min (fwN n C k) (popF (k : Int))) (fwN n C k))
    by_cases c : C (k : Int)
    · rw [cif_pos c]
      refine ⟨by omega, fun x h1 h2 hx => ?_, ?_⟩
      · by_cases e : x = (k : Int)
        · subst e
          omega
        · have := i2 x h1 (by omega) hx
          omega
      · by_cases z : fwN n C k ≤ popF (k : Int)
        · rw [show min (fwN n C k) (popF (k : Int)) = fwN n C k by omega]
          rcases i3 with h | ⟨x, a1, a2, a3, a4⟩
          · exact Or.inl h
          · exact Or.inr ⟨x, a1, by omega, a3, a4⟩
        · rw [show min (fwN n C k) (popF (k : Int)) = popF (k : Int) by omega]
          exact Or.inr ⟨k, by omega, by omega, c, rfl⟩
    · rw [cif_neg c]
      refine ⟨i1, fun x h1 h2 hx => ?_, ?_⟩
      · by_cases e : x = (k : Int)
        · subst e
          exact absurd hx c
        · exact i2 x h1 (by omega) hx
      · rcases i3 with h | ⟨x, a1, a2, a3, a4⟩
        · exact Or.inl h
        · exact Or.inr ⟨x, a1, by omega, a3, a4⟩
theorem fw_watch {n : Int} {S : Int → Int → Prop} (hn : 0 ≤ n ∧ n ≤ 8) : fwI n (fun x => cov n S (tbit x)) (bShl 1 n) = watchN n S := by
  refine (watchN_eq ?_).symm
  have hb : 0 ≤ bShl 1 n := by
    rw [shl1 hn]
    exact Int.ofNat_nonneg _
  obtain ⟨i1, i2, i3⟩ := fwN_is (n := n) (C := fun x => cov n S (tbit x)) (bShl 1 n).toNat
  have e : ((bShl 1 n).toNat : Int) = bShl 1 n := by omega
  rw [e] at i2 i3
  refine ⟨?_, fun T hT => ?_⟩
  · rcases i3 with h | ⟨x, a1, a2, a3, a4⟩
    · refine ⟨fun _ => True, cov_all, ?_⟩
      rw [cntI_true hn.1 (fun _ _ _ => trivial)]
      exact h.symm
    · refine ⟨tbit x, a3, ?_⟩
      rw [← pop_of hn ⟨a1, a2⟩]
      exact a4
  · obtain ⟨y, y1, y2, y3, y4⟩ := mask_of hn T
    rw [← y3]
    exact i2 y y1 y2 ((cov_congr y4).mpr hT)
section
variable {d b : Nat} {q : QQ} {V : VV}
/-- what all sets see below k -/
def covK (V : VV) (x k : Int) : Prop := ∀ j, 0 ≤ j ∧ j < k → (∃ t, 0 ≤ t ∧ t < V 2 0 8 ∧ seesV V t j) → ∃ t, 0 ≤ t ∧ t < V 2 0 8 ∧ tbit x t ∧ seesV V t j
theorem saw_bit (hn : 0 ≤ V 2 0 8 ∧ V 2 0 8 ≤ 8) {k t : Int} (ht : 0 ≤ t ∧ t < 32) : tbit (seenM V (V 2 0 8) k) t ↔ t < V 2 0 8 ∧ seesV V t k := tbit_maskI _ (by omega) ht
theorem saw_0 (hn : 0 ≤ V 2 0 8 ∧ V 2 0 8 ≤ 8) {k : Int} : seenM V (V 2 0 8) k = 0 ↔ ¬ ∃ t, 0 ≤ t ∧ t < V 2 0 8 ∧ seesV V t k := by
  constructor
  · intro e ⟨t, t1, t2, t3⟩
    have := (saw_bit (V := V) hn (k := k) (t := t) (by omega)).mpr ⟨t2, t3⟩
    rw [e] at this
    exact tbit_0 t this
  · intro h
    refine tbit_ext (maskI_R _ _) ⟨by decide, by decide⟩ (fun t ht => ?_)
    exact ⟨fun z => absurd ⟨t, ht.1, ((saw_bit hn ht).mp z).1, ((saw_bit hn ht).mp z).2⟩ h, fun z => absurd z (tbit_0 t)⟩
theorem saw_and (hn : 0 ≤ V 2 0 8 ∧ V 2 0 8 ≤ 8) {k x : Int} (hx : 0 ≤ x ∧ x < 257) : bAnd (seenM V (V 2 0 8) k) x ≤ 0 ↔ ¬ ∃ t, 0 ≤ t ∧ t < V 2 0 8 ∧ tbit x t ∧ seesV V t k := by
  have nn := bAnd_nn (a := seenM V (V 2 0 8) k) hx.1 (by omega)
  constructor
  · intro e ⟨t, t1, t2, t3, t4⟩
    have e0 : bAnd (seenM V (V 2 0 8) k) x = 0 := by omega
    have : tbit (bAnd (seenM V (V 2 0 8) k) x) t := tbit_and.mpr ⟨(saw_bit hn (by omega)).mpr ⟨t2, t4⟩, t3⟩
    rw [e0] at this
    exact tbit_0 t this
  · intro h
    have e0 : bAnd (seenM V (V 2 0 8) k) x = 0 := by
      refine tbit_ext (bAnd_R _ _) ⟨by decide, by decide⟩ (fun t ht => ⟨fun z => ?_, fun z => absurd z (tbit_0 t)⟩)
      have z2 := tbit_and.mp z
      have z3 := (saw_bit hn ht).mp z2.1
      exact absurd ⟨t, ht.1, z3.1, z2.2, z3.2⟩ h
    omega
theorem covK_next {x k : Int} (h0 : 0 ≤ k) : covK V x (k + 1) ↔ covK V x k ∧ ((∃ t, 0 ≤ t ∧ t < V 2 0 8 ∧ seesV V t k) → ∃ t, 0 ≤ t ∧ t < V 2 0 8 ∧ tbit x t ∧ seesV V t k) := by
  constructor
  · intro h
    exact ⟨fun j hj => h j (by omega), h k (by omega)⟩
  · intro h j hj
    by_cases e : j = k
    · subst e
      exact h.2
    · exact h.1 j (by omega)
/-- one set -/
theorem sw_in (lw : LW V) (hs : q.1.2.2 b = some (Sum.inl (0, 32, fun _ => aN))) {x m : Int} (hx : 0 ≤ x ∧ x < 257) (hm : R32 m) (l7 l8 : Option AV) :
    RUN (d + 12) 314 (333, [sR 1 0, sI (V 2 0 8), sR 46 b, sI m, sI x, sI 1, sI 0, l7, l8], []) (HM q (setA V 46 b (seenC V (V 2 0 8)))) =
      RUN (d + 12) 314 (333, [sR 1 0, sI (V 2 0 8), sR 46 b, sI m, sI x, sI (b2i (covK V x 32)), sI 32, l7, l8], []) (HM q (setA V 46 b (seenC V (V 2 0 8)))) := by
  have hn := rk_n lw.1
  have lw1 : LW (setA V 46 b (seenC V (V 2 0 8))) := lw.of_kp (kp_46 (n0 := b) lw (Nat.le_refl _))
  obtain ⟨_, e⟩ := loop_to (fun (i : Int) (s : Int) (_ : Unit) => RUN (d + 12) 314 (333, [sR 1 0, sI (V 2 0 8), sR 46 b, sI m, sI x, sI s, sI i, l7, l8], []) (HM q (setA V 46 b (seenC V (V 2 0 8))))) (fun i => b2i (covK V x i)) 0 32 (by
    intro i l h1 h2
    refine ⟨(), ?_⟩
    try dsimp only
    have e46 : setA V 46 b (seenC V (V 2 0 8)) 46 b i = seenM V (V 2 0 8) i := by
      rw [set46_at]
      exact cif_pos ⟨h1, h2⟩
    have st := g_314_333 (d := d) (q := q) (V := setA V 46 b (seenC V (V 2 0 8))) (b2 := b) (x1 := V 2 0 8) (x3 := m) (x4 := x) (x5 := b2i (covK V x i)) (x6 := i) (l7 := l7) (l8 := l8) hs lw1.1 lw1.2.2.1 (by omega) (b2i_R _) hm (fun _ _ => ⟨h1, h2⟩) (fun _ _ => by rw [e46]; exact maskI_R _ _)
    rw [cif_neg (by omega), e46] at st
    refine Eq.trans st ?_
    have nx := covK_next (V := V) (x := x) h1
    by_cases c : covK V x i
    · rw [cif_neg (fun z => b2i_z.mp z c)]
      by_cases c2 : seenM V (V 2 0 8) i = 0
      · rw [cif_pos c2, b2i_pos (nx.mpr ⟨c, fun z => absurd z ((saw_0 hn).mp c2)⟩)]
      · rw [cif_neg c2]
        by_cases c3 : bAnd (seenM V (V 2 0 8) i) x ≤ 0
        · rw [cif_pos c3]
          have : ¬ covK V x (i + 1) := by
            intro z
            refine (saw_and hn hx).mp c3 ((nx.mp z).2 ?_)
            exact Classical.byContradiction fun y => c2 ((saw_0 hn).mpr y)
          rw [b2i_neg this]
        · rw [cif_neg c3]
          have : covK V x (i + 1) := nx.mpr ⟨c, fun _ => Classical.byContradiction fun y => c3 ((saw_and hn hx).mpr y)⟩
          rw [b2i_pos this]
    · rw [cif_pos (b2i_neg c), b2i_neg (fun z => c (nx.mp z).1)]) (by decide) ()
  have e0 : b2i (covK V x 0) = 1 := b2i_pos fun j hj => by omega
  rw [e0] at e
  exact e
theorem sw_all (lw : LW V) (hs : q.1.2.2 b = some (Sum.inl (0, 32, fun _ => aN))) (l5 l6 l7 l8 : Option AV) :
    ∃ l5' l6', RUN (d + 12) 314 (319, [sR 1 0, sI (V 2 0 8), sR 46 b, sI (V 2 0 8), sI 0, l5, l6, l7, l8], []) (HM q (setA V 46 b (seenC V (V 2 0 8)))) =
      RUN (d + 12) 314 (403, [sR 1 0, sI (V 2 0 8), sR 46 b, sI (watchN (V 2 0 8) (seesV V)), sI 0, l5', l6', l7, l8], []) (HM q (setA V 46 b (seenC V (V 2 0 8)))) := by
  have hn := rk_n lw.1
  have hsh := shl1 hn
  have h256 : 2 ^ (V 2 0 8).toNat ≤ 2 ^ 8 := Nat.pow_le_pow_right (by decide) (by omega)
  have hs2 : 0 ≤ bShl 1 (V 2 0 8) ∧ bShl 1 (V 2 0 8) < 257 := by
    rw [hsh]
    revert h256
    generalize 2 ^ (V 2 0 8).toNat = p
    intro h
    omega
  have lw1 : LW (setA V 46 b (seenC V (V 2 0 8))) := lw.of_kp (kp_46 (n0 := b) lw (Nat.le_refl _))
  have hf : ∀ i : Int, 0 ≤ i → i < 257 → R32 (fwI (V 2 0 8) (fun x => cov (V 2 0 8) (seesV V) (tbit x)) i) := by
    intro i h1 h2
    obtain ⟨i1, _, i3⟩ := fwN_is (n := V 2 0 8) (C := fun x => cov (V 2 0 8) (seesV V) (tbit x)) i.toNat
    have i1' : fwI (V 2 0 8) (fun x => cov (V 2 0 8) (seesV V) (tbit x)) i ≤ V 2 0 8 := i1
    rcases i3 with h | ⟨x, _, _, _, a4⟩
    · have h' : fwI (V 2 0 8) (fun x => cov (V 2 0 8) (seesV V) (tbit x)) i = V 2 0 8 := h
      omega
    · have h' : popF x = fwI (V 2 0 8) (fun x => cov (V 2 0 8) (seesV V) (tbit x)) i := a4
      have := popF_R x
      omega
  obtain ⟨⟨l5', l6'⟩, e⟩ := loop_to (fun (i : Int) (s : Int) (l : Option AV × Option AV) => RUN (d + 12) 314 (319, [sR 1 0, sI (V 2 0 8), sR 46 b, sI s, sI i, l.1, l.2, l7, l8], []) (HM q (setA V 46 b (seenC V (V 2 0 8))))) (fun i => fwI (V 2 0 8) (fun x => cov (V 2 0 8) (seesV V) (tbit x)) i) 0 (bShl 1 (V 2 0 8)) (by
    intro i l h1 h2
    refine ⟨(sI (b2i (covK V i 32)), sI 32), ?_⟩
    try dsimp only
    have hi : 0 ≤ i ∧ i < 257 := by omega
    have hR := hf i h1 hi.2
    refine Eq.trans (g_314_319 (V := setA V 46 b (seenC V (V 2 0 8))) (x1 := V 2 0 8) hs lw1.1 lw1.2.2.1 (by omega)) ?_
    refine Eq.trans (cif_neg (by omega)) ?_
    refine Eq.trans (sw_in lw hs hi hR l7 l8) ?_
    refine Eq.trans (g_314_333 (V := setA V 46 b (seenC V (V 2 0 8))) (x1 := V 2 0 8) hs lw1.1 lw1.2.2.1 ⟨by decide, by decide⟩ (b2i_R _) hR (fun z => absurd (Int.le_refl _) z) (fun z => absurd (Int.le_refl _) z)) ?_
    refine Eq.trans (cif_pos (Int.le_refl _)) ?_
    rw [fwI_succ h1]
    by_cases c : covK V i 32
    · rw [cif_neg (fun z => b2i_z.mp z c), cif_pos (show cov (V 2 0 8) (seesV V) (tbit i) from c)]
    · rw [cif_pos (b2i_neg c), cif_neg (show ¬ cov (V 2 0 8) (seesV V) (tbit i) from c)]) hs2.1 (l5, l6)
  refine ⟨l5', l6', ?_⟩
  refine Eq.trans e ?_
  try dsimp only
  rw [fw_watch hn]
  refine Eq.trans (g_314_319 (V := setA V 46 b (seenC V (V 2 0 8))) (x1 := V 2 0 8) hs lw1.1 lw1.2.2.1 (by omega)) ?_
  exact cif_pos (Int.le_refl _)
theorem sw_at (lw : LW V) (hs : q.1.2.2 b = some (Sum.inl (0, 32, fun _ => aN))) (l5 l6 l7 l8 : Option AV) :
    ∃ l4', RUN (d + 12) 314 (403, [sR 1 0, sI (V 2 0 8), sR 46 b, sI (watchN (V 2 0 8) (seesV V)), sI 0, l5, l6, l7, l8], []) (HM q (setA V 46 b (seenC V (V 2 0 8)))) =
      RUN (d + 12) 314 (451, [sR 1 0, sI (V 2 0 8), sR 46 b, sI (watchN (V 2 0 8) (seesV V)), l4', l5, l6, l7, l8], [aR 1 0]) (HM q (lookV (lookV (setA V 46 b (seenC V (V 2 0 8)))))) := by
  have hn := rk_n lw.1
  have hw := watchN_R lw.1 (seesV V)
  have lw1 : LW (setA V 46 b (seenC V (V 2 0 8))) := lw.of_kp (kp_46 (n0 := b) lw (Nat.le_refl _))
  obtain ⟨_, e⟩ := loop_to (fun (i : Int) (_ : Unit) (_ : Unit) => RUN (d + 12) 314 (403, [sR 1 0, sI (V 2 0 8), sR 46 b, sI (watchN (V 2 0 8) (seesV V)), sI i, l5, l6, l7, l8], []) (HM q (setA V 46 b (seenC V (V 2 0 8))))) (fun _ => ()) 0 32 (by
    intro i l h1 h2
    refine ⟨(), ?_⟩
    try dsimp only
    have e46 : setA V 46 b (seenC V (V 2 0 8)) 46 b i = seenM V (V 2 0 8) i := by
      rw [set46_at]
      exact cif_pos ⟨h1, h2⟩
    have ep : popF (seenM V (V 2 0 8) i) = cntI (sawBy (V 3 0) (V 4 0) (V 5 0) i) (V 2 0 8) := by
      rw [popF_cnt]
      refine Eq.trans (cntI_cut (P := tbit (seenM V (V 2 0 8) i)) (n := V 2 0 8) (m := 32) hn.1 (by omega) (fun j j1 j2 z => by have := (saw_bit (V := V) hn (k := i) (t := j) (by omega)).mp z; omega)) ?_
      exact cntI_congr fun j j1 j2 => ⟨fun z => ((saw_bit (V := V) hn (k := i) (t := j) (by omega)).mp z).2, fun z => (saw_bit (V := V) hn (k := i) (t := j) (by omega)).mpr ⟨j2, z⟩⟩
    have st := g_314_403 (d := d) (q := q) (V := setA V 46 b (seenC V (V 2 0 8))) (b2 := b) (x1 := V 2 0 8) (x3 := watchN (V 2 0 8) (seesV V)) (x4 := i) (l5 := l5) (l6 := l6) (l7 := l7) (l8 := l8) hs lw1.1 lw1.2.2.1 (by omega) (fun _ => hw) hw (fun _ => ⟨h1, h2⟩)
    rw [cif_neg (by omega), e46, ep] at st
    exact st.trans (cif_pos rfl)) (by decide) ()
  refine ⟨sI 32, ?_⟩
  refine Eq.trans e ?_
  try dsimp only
  refine Eq.trans (g_314_403 (V := setA V 46 b (seenC V (V 2 0 8))) (x1 := V 2 0 8) hs lw1.1 lw1.2.2.1 ⟨by decide, by decide⟩ (fun _ => hw) hw (fun z => absurd (Int.le_refl _) z)) ?_
  refine Eq.trans (cif_pos (Int.le_refl _)) ?_
  exact cif_pos rfl
end
theorem kp_41 {n0 : Nat} {U W : VV} (lw : LW U) (o : offC (lookV (lookV (agreeV U))) W) : kp n0 U W := by
  have rl3 : relok (lookV (lookV (agreeV U))) := relok_set (relok_tabS lw.1 lw.2.2.2.2.1) (agree_is lw.1 lw.2.2.2.2.1).1
  have o1 : offS U (lookV (lookV (agreeV U))) := offS_of fun _ => ⟨rfl, rfl, rfl, rfl, rfl, rfl, rfl, rfl, rfl, rfl, rfl, rfl, rfl, rfl, rfl, rfl, rfl, rfl, rfl, rfl⟩
  have o2 : offS (lookV (lookV (agreeV U))) W := fun a b h => o a b (by omega)
  exact kp_off lw (o1.trans o2) (relok_off o rl3)
/-- seven throws, then five -/
theorem adv_thrs {n0 : Nat} (q : QQ) : adv 12 72 n0 q (thr (thr (thr (thr (thr (thr (thr (thr (thr (thr (thr (thr q)))))))))))) := by
  have one := fun q => adv_thr (n0 := n0) q
  exact ((((((((((((one _).trans (one _)).trans (one _)).trans (one _)).trans (one _)).trans (one _)).trans (one _)).trans (one _)).trans (one _)).trans (one _)).trans (one _)).trans (one _)).mono (by decide) (by decide) (Nat.le_refl _)
theorem s_314 {d : Nat} {q : QQ} {V : VV} (lw : LW V) (h0 : 0 < V 2 0 8) (hq : 136 ≤ q.2.1.1) : ∃ q' W, RUN (d + 12) 314 (am_en 314 [aR 1 0]) (HM q V) = rI 1 (HM q' W) ∧ adv 13 104 q.2.1.1 q q' ∧ kp q.2.1.1 V W := by
  have hn := rk_n lw.1
  generalize hb : q.2.1.1 = b at hq
  generalize hq2 : newQ q (some (Sum.inl (0, 32, fun _ => aN))) 32 = q2
  have hs : q2.1.2.2 b = some (Sum.inl (0, 32, fun _ => aN)) := by
    rw [← hq2, ← hb]
    exact newQ_at
  have a1 : adv 1 32 b q q2 := by
    rw [← hq2, ← hb]
    exact newQ_adv
  have lw0 : LW (setA V 46 b (fun _ => 0)) := lw.of_kp (kp_46 (n0 := b) lw (Nat.le_refl _))
  have lw1 : LW (setA V 46 b (seenC V (V 2 0 8))) := lw.of_kp (kp_46 (n0 := b) lw (Nat.le_refl _))
  have e7 : RUN (d + 12) 314 (7, [sR 1 0, sI (V 2 0 8), none, none, none, none, none, none, none], [aI (iI 32)]) (HM q V) = RUN (d + 12) 314 (9, [sR 1 0, sI (V 2 0 8), none, none, none, none, none, none, none], [aR 46 b]) (HM q2 (setA V 46 b (fun _ => 0))) := by
    rw [← hq2, ← hb]
    exact k_newI46 (N := 32) rfl (by omega)
  obtain ⟨⟨l4, l5, l6, l7, l8⟩, e12⟩ := loop_to (fun (i : Int) (_ : Unit) (l : Option AV × Option AV × Option AV × Option AV × Option AV) => RUN (d + 12) 314 (12, [sR 1 0, sI (V 2 0 8), sR 46 b, sI i, l.1, l.2.1, l.2.2.1, l.2.2.2.1, l.2.2.2.2], []) (HM q2 (setA V 46 b (seenC V i)))) (fun _ => ()) 0 (V 2 0 8) (by
    intro i l h1 h2
    obtain ⟨k4, k5, k6, k7, k8, e⟩ := st_go (d := d) lw hs ⟨h1, h2⟩ l.1 l.2.1 l.2.2.1 l.2.2.2.1 l.2.2.2.2
    exact ⟨(k4, k5, k6, k7, k8), e⟩) hn.1 (none, none, none, none, none)
  obtain ⟨m5, m6, e319⟩ := sw_all (d := d) lw hs l5 l6 l7 l8
  obtain ⟨m4, e403⟩ := sw_at (d := d) lw hs m5 m6 l7 l8
  have lw2 : LW (lookV (lookV (setA V 46 b (seenC V (V 2 0 8))))) := lw1
  obtain ⟨W, oW, e41⟩ := s_41 (d := d) (q := q2) lw2.1 lw2.2.2.2.2.1 lw2.2.1 lw2.2.2.1
  have k2 : kp b (setA V 46 b (seenC V (V 2 0 8))) (lookV (lookV (setA V 46 b (seenC V (V 2 0 8))))) := kp_off lw1 (offS_of fun _ => ⟨rfl, rfl, rfl, rfl, rfl, rfl, rfl, rfl, rfl, rfl, rfl, rfl, rfl, rfl, rfl, rfl, rfl, rfl, rfl, rfl⟩) lw2.2.2.2.2.1
  have kW : kp b V W := (kp_46 lw (Nat.le_refl _)).trans (k2.trans (kp_41 (U := lookV (lookV (setA V 46 b (seenC V (V 2 0 8))))) lw2 oW))
  have lwW : LW W := lw.of_kp kW
  have nW : W 2 0 8 = V 2 0 8 := congrFun (congrFun (kW.1 2 (by decide) (by decide)) 0) 8
  have no : ¬ (0 ≤ V 2 0 8 ∧ V 2 0 8 < W 2 0 8) := by omega
  refine ⟨_, W, ?_, (a1.trans (adv_thrs q2)).mono (by decide) (by decide) (Nat.le_refl _), kW⟩
  refine Eq.trans (g_314_0 lw.1 lw.2.2.1) ?_
  refine Eq.trans e7 ?_
  refine Eq.trans (g_314_9 lw0.1 lw0.2.2.1) ?_
  rw [← seenC_0 (V := V)]
  refine Eq.trans e12 ?_
  refine Eq.trans (g_314_12 (V := setA V 46 b (seenC V (V 2 0 8))) hs lw1.1 lw1.2.2.1 (by omega) (by omega) (fun z => absurd (Int.le_refl _) z)) ?_
  refine Eq.trans (cif_pos (Int.le_refl _)) ?_
  refine Eq.trans e319 ?_
  refine Eq.trans e403 ?_
  refine Eq.trans (g_314_451 (V := lookV (lookV (setA V 46 b (seenC V (V 2 0 8))))) lw2.1 lw2.2.2.1 e41 (qle_refl _) ⟨by decide, by decide⟩) ?_
  refine Eq.trans (cif_neg (by decide)) ?_
  refine Eq.trans (h_314_462 (V := W) (s0 := 1) lwW.1 lwW.2.2.1 no nW.symm (by omega) ⟨by decide, by decide⟩ (fun _ => by rw [← nW]; exact rankF_no)) ?_
  refine Eq.trans (cif_neg (by decide)) ?_
  exact h_314_543 lwW.1 lwW.2.2.1 no (by omega) (by omega) (by omega) (by omega)
