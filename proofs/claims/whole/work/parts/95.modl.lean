/-! the model: loops over towers and positions -/
theorem fstI_skip {P : Int → Prop} {n : Int} (h : 0 ≤ n) (hp : ¬ P n) : fstI P (n + 1) = fstI P n := by
  rcases fstI_cases P n with ⟨a1, a2, a3, a4⟩ | ⟨a1, a2⟩
  · exact fstI_eq a1 (by omega) a3 a4
  · rw [a1]
    refine fstI_no fun j h1 h2 => ?_
    by_cases e : j = n
    · rw [e]; exact hp
    · exact a2 j h1 (by omega)
/-- the only one of a kind is the last one -/
theorem fstI_only {P : Int → Prop} {n : Int} (h : 0 ≤ n) (hp : P n) (hu : ∀ j, 0 ≤ j → j < n → ¬ P j) : fstI P (n + 1) = n := fstI_eq h (by omega) hp hu
theorem s_219 {d : Nat} {q : QQ} {V U : VV} {x1 : Int} (rk : rowok U) (mr : MR V U) (hd : distR 0 U) (h4 : R32 x1) : RUN (d + 1) 219 (am_en 219 [aR 33 0, aI (iI x1)]) (HM q V) = rI (fstI (posIs (U 4 0) x1) (U 2 0 8)) (HM q V) := by
  have hn := rk_n rk
  rw [g_219_0 rk mr]
  obtain ⟨_, e⟩ := loop_to (fun i s (_ : Unit) => RUN (d + 1) 219 (4, [sR 33 0, sI x1, sI s, sI i], []) (HM q V)) (fun i => fstI (posIs (U 4 0) x1) i) 0 (U 2 0 8) (by
    intro i l h1 h2
    refine ⟨(), ?_⟩
    try dsimp only
    rw [g_219_4 rk mr (by omega) h4, cif_neg (by omega)]
    by_cases c : U 4 0 i = x1
    · rw [cif_pos c, fstI_only h1 (show posIs (U 4 0) x1 i from c) (fun j j1 j2 z => hd j i (by omega) (by omega) (by omega) ((show U 4 0 j = x1 from z).trans c.symm))]
    · rw [cif_neg c, fstI_skip h1 (show ¬ posIs (U 4 0) x1 i from c)]) (by omega) ()
  try dsimp only at e
  rw [fstI_no (n := 0) (fun j a b => by omega)] at e
  refine Eq.trans e ?_
  rw [g_219_4 rk mr (by omega) h4]
  exact cif_pos (Int.le_refl _)
theorem run_229 {d : Nat} {q : QQ} {V U : VV} {x1 x2 z : Int} (rk : rowok U) (mr : MR V U) (hx : R32 x1) (p2 : 0 ≤ x2 ∧ x2 < 13) (h : 0 ≤ x1 ∧ x1 < U 2 0 8 → V 34 0 (50 + 13 * x1 + x2) = z) : RUN (d + 2) 229 (am_en 229 [aR 33 0, aI (iI x1), aI (iI x2)]) (HM q V) = cif (0 ≤ x1 ∧ x1 < U 2 0 8) (rI z (HM q (upV V 33 0 6 0))) (rI 0 (HM q (upV V 33 0 6 1))) := by
  have hn := rk_n rk
  show RUN (d + 2) 229 (0, [sR 33 0, sI x1, sI x2], []) (HM q V) = _
  refine Eq.trans (k_aload rfl rfl) (Eq.trans (k_aload rfl rfl) (Eq.trans (k_iload rfl rfl) (Eq.trans (RUN_ci rfl rfl rfl (s_224 rk mr hx) (qle_refl _)) (k_split (0 ≤ x1 ∧ x1 < U 2 0 8) (fun c => Eq.trans (RUN_ci rfl rfl rfl ((s_226 (b2i_01 _)).trans (cif_b0.trans (cif_pos c))) (qle_refl _)) ?_) (fun c => Eq.trans (RUN_ci rfl rfl rfl ((s_226 (b2i_01 _)).trans (cif_b0.trans (cif_neg c))) (qle_refl _)) ?_)))))
  · refine Eq.trans (Eq.trans (k_ifc (1 = 0) rfl (iI_eq0 (by decide))) (cif_neg (by decide))) (Eq.trans (k_aload rfl rfl) (Eq.trans (k_iload rfl rfl) (Eq.trans (k_iload rfl rfl) (Eq.trans (RUN_ci rfl rfl rfl (run_220 (by omega) p2 (h c)) (qle_refl _)) (Eq.trans (k_goto rfl) (k_iret rfl trivial))))))
  · exact Eq.trans (Eq.trans (k_ifc (0 = 0) rfl (iI_eq0 (by decide))) (cif_pos rfl)) (Eq.trans (k_pushi 0 rfl rfl) (k_iret rfl trivial))
theorem s_228 {d : Nat} {q : QQ} {V U : VV} {x1 : Int} (rk : rowok U) (mr : MR V U) (hx : R32 x1) : RUN (d + 3) 228 (am_en 228 [aR 33 0, aI (iI x1)]) (HM q V) = cif (0 ≤ x1 ∧ x1 < U 2 0 8) (rI (U 4 0 x1) (HM q (upV V 33 0 6 0))) (rI 0 (HM q (upV V 33 0 6 1))) := by
  have hn := rk_n rk
  show RUN (d + 3) 228 (0, [sR 33 0, sI x1], []) (HM q V) = _
  refine Eq.trans (k_aload rfl rfl) (Eq.trans (k_iload rfl rfl) (Eq.trans (k_pushi 0 rfl rfl) ?_))
  have e := run_229 (d := d) (q := q) (z := U 4 0 x1) rk mr hx (x2 := 0) (by decide) (fun c => mr_t0 mr (by omega))
  exact k_split _ (fun c => Eq.trans (RUN_ci rfl rfl rfl (e.trans (cif_pos c)) (qle_refl _)) (k_iret rfl trivial)) (fun c => Eq.trans (RUN_ci rfl rfl rfl (e.trans (cif_neg c)) (qle_refl _)) (k_iret rfl trivial))
theorem s_232 {d : Nat} {q : QQ} {V U : VV} {x1 : Int} (rk : rowok U) (mr : MR V U) (hx : R32 x1) : RUN (d + 3) 232 (am_en 232 [aR 33 0, aI (iI x1)]) (HM q V) = cif (0 ≤ x1 ∧ x1 < U 2 0 8) (rI (U 6 0 x1) (HM q (upV V 33 0 6 0))) (rI 0 (HM q (upV V 33 0 6 1))) := by
  have hn := rk_n rk
  show RUN (d + 3) 232 (0, [sR 33 0, sI x1], []) (HM q V) = _
  refine Eq.trans (k_aload rfl rfl) (Eq.trans (k_iload rfl rfl) (Eq.trans (k_pushi 2 rfl rfl) ?_))
  have e := run_229 (d := d) (q := q) (z := U 6 0 x1) rk mr hx (x2 := 2) (by decide) (fun c => mr_t2 mr (by omega))
  exact k_split _ (fun c => Eq.trans (RUN_ci rfl rfl rfl (e.trans (cif_pos c)) (qle_refl _)) (k_iret rfl trivial)) (fun c => Eq.trans (RUN_ci rfl rfl rfl (e.trans (cif_neg c)) (qle_refl _)) (k_iret rfl trivial))
theorem s_274 {d : Nat} {q : QQ} {V U : VV} {x1 : Int} (rk : rowok U) (mr : MR V U) (hx : R32 x1) : RUN (d + 3) 274 (am_en 274 [aR 33 0, aI (iI x1)]) (HM q V) = cif (0 ≤ x1 ∧ x1 < U 2 0 8) (rI (U 7 0 x1) (HM q (upV V 33 0 6 0))) (rI 0 (HM q (upV V 33 0 6 1))) := by
  have hn := rk_n rk
  show RUN (d + 3) 274 (0, [sR 33 0, sI x1], []) (HM q V) = _
  refine Eq.trans (k_aload rfl rfl) (Eq.trans (k_iload rfl rfl) (Eq.trans (k_pushi 3 rfl rfl) ?_))
  have e := run_229 (d := d) (q := q) (z := U 7 0 x1) rk mr hx (x2 := 3) (by decide) (fun c => mr_t3 mr (by omega))
  exact k_split _ (fun c => Eq.trans (RUN_ci rfl rfl rfl (e.trans (cif_pos c)) (qle_refl _)) (k_iret rfl trivial)) (fun c => Eq.trans (RUN_ci rfl rfl rfl (e.trans (cif_neg c)) (qle_refl _)) (k_iret rfl trivial))
theorem s_275 {d : Nat} {q : QQ} {V U : VV} {x1 : Int} (rk : rowok U) (mr : MR V U) (hx : R32 x1) : RUN (d + 3) 275 (am_en 275 [aR 33 0, aI (iI x1)]) (HM q V) = cif (0 ≤ x1 ∧ x1 < U 2 0 8) (rI (U 8 0 x1) (HM q (upV V 33 0 6 0))) (rI 0 (HM q (upV V 33 0 6 1))) := by
  have hn := rk_n rk
  show RUN (d + 3) 275 (0, [sR 33 0, sI x1], []) (HM q V) = _
  refine Eq.trans (k_aload rfl rfl) (Eq.trans (k_iload rfl rfl) (Eq.trans (k_pushi 4 rfl rfl) ?_))
  have e := run_229 (d := d) (q := q) (z := U 8 0 x1) rk mr hx (x2 := 4) (by decide) (fun c => mr_t4 mr (by omega))
  exact k_split _ (fun c => Eq.trans (RUN_ci rfl rfl rfl (e.trans (cif_pos c)) (qle_refl _)) (k_iret rfl trivial)) (fun c => Eq.trans (RUN_ci rfl rfl rfl (e.trans (cif_neg c)) (qle_refl _)) (k_iret rfl trivial))
theorem inj_surj : ∀ (n : Nat) (f : Int → Int), (∀ i, 0 ≤ i ∧ i < (n : Int) → 0 ≤ f i ∧ f i < (n : Int)) → (∀ i j, 0 ≤ i ∧ i < (n : Int) → 0 ≤ j ∧ j < (n : Int) → f i = f j → i = j) → ∀ r, 0 ≤ r ∧ r < (n : Int) → ∃ i, (0 ≤ i ∧ i < (n : Int)) ∧ f i = r := by
  intro n
  induction n with
  | zero => intro f _ _ r hr; omega
  | succ n ih =>
    intro f hb hi r hr
    have hm := hb n (by omega)
    have hne : ∀ i, 0 ≤ i ∧ i < (n : Int) → ¬ f i = f n := fun i h e => by
      have := hi i n (by omega) (by omega) e
      omega
    have h1 := ih (fun i => if f i = n then f n else f i) (fun i h => by
      have b := hb i (by omega)
      have := hne i h
      show 0 ≤ (if f i = n then f n else f i) ∧ (if f i = n then f n else f i) < (n : Int)
      by_cases c : f i = n
      · rw [if_pos c]; omega
      · rw [if_neg c]; omega) (fun i j h k e => by
      have e : (if f i = n then f n else f i) = (if f j = n then f n else f j) := e
      have ni := hne i h
      have nj := hne j k
      by_cases c : f i = n
      · by_cases c2 : f j = n
        · exact hi i j (by omega) (by omega) (by rw [c, c2])
        · rw [if_pos c, if_neg c2] at e
          exact absurd e.symm nj
      · by_cases c2 : f j = n
        · rw [if_neg c, if_pos c2] at e
          exact absurd e ni
        · rw [if_neg c, if_neg c2] at e
          exact hi i j (by omega) (by omega) e)
    by_cases c : r = f n
    · exact ⟨n, by omega, c.symm⟩
    · by_cases c2 : r = n
      · obtain ⟨i, hi1, hi2⟩ := h1 (f n) (by omega)
        have hi2 : (if f i = n then f n else f i) = f n := hi2
        by_cases c3 : f i = n
        · exact ⟨i, by omega, by rw [c3, c2]⟩
        · rw [if_neg c3] at hi2
          exact absurd hi2 (hne i hi1)
      · obtain ⟨i, hi1, hi2⟩ := h1 r (by omega)
        have hi2 : (if f i = n then f n else f i) = r := hi2
        by_cases c3 : f i = n
        · rw [if_pos c3] at hi2
          exact absurd hi2.symm c
        · rw [if_neg c3] at hi2
          exact ⟨i, by omega, hi2⟩
theorem rank_all {g p h : Int → Int} {n : Int} (hn : 0 ≤ n) : (∀ t, 0 ≤ t ∧ t < n → 0 ≤ cntI (aheadT g p h t) n ∧ cntI (aheadT g p h t) n < n) ∧ (∀ t u, 0 ≤ t ∧ t < n → 0 ≤ u ∧ u < n → cntI (aheadT g p h t) n = cntI (aheadT g p h u) n → t = u) := by
  have lt : ∀ t u, 0 ≤ t ∧ t < n → 0 ≤ u ∧ u < n → aheadT g p h t u → cntI (aheadT g p h u) n < cntI (aheadT g p h t) n := by
    intro t u ht hu ha
    have h1 := cntI_del (P := aheadT g p h t) hu.1 hu.2 ha
    have h2 : cntI (aheadT g p h u) n ≤ cntI (fun j => aheadT g p h t j ∧ ¬ j = u) n := cntI_mono fun j j1 j2 z => by
      refine ⟨by unfold aheadT at z ha ⊢; omega, fun e => ?_⟩
      rw [e] at z
      unfold aheadT at z
      omega
    omega
  refine ⟨fun t ht => ?_, fun t u ht hu e => ?_⟩
  · have := cntI_b (aheadT g p h t) hn
    have := cntI_lt (P := aheadT g p h t) ht (by unfold aheadT; omega)
    omega
  · rcases Int.lt_trichotomy (eyeV g p h t) (eyeV g p h u) with z | z | z
    · have := lt t u ht hu (Or.inl z)
      omega
    · rcases Int.lt_trichotomy t u with y | y | y
      · have := lt u t hu ht (Or.inr ⟨z, y⟩)
        omega
      · exact y
      · have := lt t u ht hu (Or.inr ⟨z.symm, y⟩)
        omega
    · have := lt u t hu ht (Or.inl z)
      omega
/-- which ranks there are -/
theorem rank_ex {g p h : Int → Int} {n r : Int} (hn : 0 ≤ n) : (0 ≤ r ∧ r < n → 0 ≤ fstI (rankIs g p h n r) n ∧ fstI (rankIs g p h n r) n < n) ∧ (¬ (0 ≤ r ∧ r < n) → fstI (rankIs g p h n r) n = -1) := by
  obtain ⟨h1, h2⟩ := rank_all (g := g) (p := p) (h := h) hn
  have en : n = (n.toNat : Int) := by omega
  refine ⟨fun hr => ?_, fun hr => fstI_no fun j j1 j2 z => ?_⟩
  · obtain ⟨i, i1, i2⟩ := inj_surj n.toNat (fun t => cntI (aheadT g p h t) n) (fun i hi => by have := h1 i (by omega); show 0 ≤ cntI (aheadT g p h i) n ∧ cntI (aheadT g p h i) n < (n.toNat : Int); omega) (fun i j hi hj e => h2 i j (by omega) (by omega) e) r (by omega)
    rcases fstI_cases (rankIs g p h n r) n with ⟨a1, a2, -, -⟩ | ⟨-, a2⟩
    · exact ⟨a1, a2⟩
    · exact absurd i2 (a2 i i1.1 (by omega))
  · have := h1 j ⟨j1, j2⟩
    unfold rankIs at z
    omega
set_option maxHeartbeats 1000000 in
theorem s_234 {d : Nat} {q : QQ} {V U : VV} {x1 : Int} (rk : rowok U) (mr : MR V U) (h : R32 x1) : ∃ b, RUN (d + 2) 234 (am_en 234 [aR 33 0, aI (iI x1)]) (HM q V) = rI b (HM q (upV V 33 0 6 (cif (0 ≤ x1 ∧ x1 < U 2 0 8) 0 1))) ∧ (0 ≤ x1 ∧ x1 < U 2 0 8 → b = fstI (rankIs (U 3 0) (U 4 0) (U 5 0) (U 2 0 8) x1) (U 2 0 8)) := by
  have hn := rk_n rk
  have e0 := g_234_0 (d := d) (q := q) (V := V) rk mr h
  by_cases c : 0 ≤ x1 ∧ x1 < U 2 0 8
  · rw [cif_pos c] at e0 ⊢
    obtain ⟨r1, r2⟩ := rank_all (g := U 3 0) (p := U 4 0) (h := U 5 0) hn.1
    have mr' : MR (upV V 33 0 6 0) U := mr
    generalize hW : upV V 33 0 6 0 = W at *
    have inner : ∀ (f i : Int) (l : Option AV), 0 ≤ i ∧ i < U 2 0 8 → ∃ l1 l2 l3, RUN (d + 2) 234 (36, [sR 33 0, sI x1, sI f, sI 1, sI i, sI 0, sI 0, l], []) (HM q W) = RUN (d + 2) 234 (15, [sR 33 0, sI x1, sI (cif (rankIs (U 3 0) (U 4 0) (U 5 0) (U 2 0 8) x1 i) i f), sI 1, sI (i + 1), l1, l2, l3], []) (HM q W) := by
      intro f i l hi
      obtain ⟨l', e⟩ := loop_to (fun j s l => RUN (d + 2) 234 (36, [sR 33 0, sI x1, sI f, sI 1, sI i, sI s, sI j, l], []) (HM q W)) (cntI (aheadT (U 3 0) (U 4 0) (U 5 0) i)) 0 (U 2 0 8) (by
        intro j l j1 j2
        refine ⟨sI (eyeV (U 3 0) (U 4 0) (U 5 0) j - eyeV (U 3 0) (U 4 0) (U 5 0) i), ?_⟩
        try dsimp only
        have hb := cntI_b (aheadT (U 3 0) (U 4 0) (U 5 0) i) j1
        rw [g_234_36 rk mr' (by omega) (by omega) h (fun _ => by omega) (fun _ => by omega) (by omega), cif_neg (by omega), cntI_succ _ j1]
        repeat' (refine cif_eq (fun _ => ?_) (fun _ => ?_))
        · rw [b2i_pos (by unfold aheadT; omega)]
        · rw [b2i_neg (by unfold aheadT; omega)]
        · rw [b2i_pos (by unfold aheadT; omega)]
        · rw [b2i_neg (by unfold aheadT; omega)]) hn.1 l
      have hb := cntI_b (aheadT (U 3 0) (U 4 0) (U 5 0) i) hn.1
      refine ⟨sI (cntI (aheadT (U 3 0) (U 4 0) (U 5 0) i) (U 2 0 8)), sI (U 2 0 8), l', ?_⟩
      refine Eq.trans e ?_
      try dsimp only
      rw [g_234_36 rk mr' (by omega) (by omega) h (fun z => absurd (Int.le_refl _) z) (fun z => absurd (Int.le_refl _) z) (by omega), cif_pos (Int.le_refl _)]
      refine cif_eq (fun k => ?_) (fun k => ?_)
      · rw [cif_pos (show rankIs (U 3 0) (U 4 0) (U 5 0) (U 2 0 8) x1 i from k)]
      · rw [cif_neg (show ¬ rankIs (U 3 0) (U 4 0) (U 5 0) (U 2 0 8) x1 i from k)]
    have outer : ∀ (k : Nat) (i f : Int) (l1 l2 l3 : Option AV), i + k = U 2 0 8 → 0 ≤ i → (f = fstI (rankIs (U 3 0) (U 4 0) (U 5 0) (U 2 0 8) x1) i ∨ (f = 0 ∧ ∀ j, 0 ≤ j → j < i → ¬ rankIs (U 3 0) (U 4 0) (U 5 0) (U 2 0 8) x1 j)) →
        ∃ b, RUN (d + 2) 234 (15, [sR 33 0, sI x1, sI f, sI 1, sI i, l1, l2, l3], []) (HM q W) = rI b (HM q W) ∧ b = fstI (rankIs (U 3 0) (U 4 0) (U 5 0) (U 2 0 8) x1) (U 2 0 8) := by
      intro k
      induction k with
      | zero =>
        intro i f l1 l2 l3 hi h0 hf
        have ei : i = U 2 0 8 := by omega
        rw [g_234_15 rk mr' (by omega) (by decide), cif_pos (by omega)]
        refine ⟨f, rfl, ?_⟩
        rcases hf with hf | ⟨-, hf⟩
        · rw [hf, ei]
        · have := (rank_ex (g := U 3 0) (p := U 4 0) (h := U 5 0) (r := x1) hn.1).1 c
          rcases fstI_cases (rankIs (U 3 0) (U 4 0) (U 5 0) (U 2 0 8) x1) (U 2 0 8) with ⟨a1, a2, a3, -⟩ | ⟨a1, -⟩
          · exact absurd a3 (hf _ a1 (by omega))
          · omega
      | succ k ih =>
        intro i f l1 l2 l3 hi h0 hf
        rw [g_234_15 rk mr' (by omega) (by decide), cif_neg (by omega), cif_neg (by decide)]
        obtain ⟨m1, m2, m3, e⟩ := inner f i l3 (by omega)
        rw [e]
        refine ih (i + 1) _ m1 m2 m3 (by omega) (by omega) ?_
        by_cases z : rankIs (U 3 0) (U 4 0) (U 5 0) (U 2 0 8) x1 i
        · rw [cif_pos z]
          refine Or.inl (fstI_only h0 z (fun j j1 j2 y => ?_)).symm
          have := r2 i j (by omega) (by omega) ((show cntI (aheadT (U 3 0) (U 4 0) (U 5 0) i) (U 2 0 8) = x1 from z).trans (show cntI (aheadT (U 3 0) (U 4 0) (U 5 0) j) (U 2 0 8) = x1 from y).symm)
          omega
        · rw [cif_neg z]
          rcases hf with hf | ⟨h1, h2⟩
          · exact Or.inl (by rw [hf, fstI_skip h0 z])
          · refine Or.inr ⟨h1, fun j j1 j2 => ?_⟩
            by_cases y : j = i
            · rw [y]; exact z
            · exact h2 j j1 (by omega)
    obtain ⟨b, b1, b2⟩ := outer (U 2 0 8).toNat 0 0 none none none (by omega) (Int.le_refl _) (Or.inr ⟨rfl, fun j j1 j2 => by omega⟩)
    exact ⟨b, e0.trans b1, fun _ => b2⟩
  · rw [cif_neg c] at e0 ⊢
    have mr' : MR (upV V 33 0 6 1) U := mr
    refine ⟨0, e0.trans ?_, fun z => absurd z c⟩
    rw [g_234_15 rk mr' (by decide) (by decide), cif_pos rfl, cif_same]
theorem s_242 {d : Nat} {q : QQ} {V U : VV} {x1 : Int} (rk : rowok U) (mr : MR V U) (h : R32 x1) : RUN (d + 3) 242 (am_en 242 [aR 33 0, aI (iI x1)]) (HM q V) = cif (0 ≤ x1 ∧ x1 < U 2 0 8) (rI (cntI (seeP (U 3 0) (U 4 0) (U 5 0) x1) 32) (HM q (upV V 33 0 6 0))) (rI 0 (HM q (upV V 33 0 6 1))) := by
  have hn := rk_n rk
  rw [g_242_0 rk mr h]
  have mr0 : MR (upV V 33 0 6 0) U := mr
  have mr1 : MR (upV V 33 0 6 1) U := mr
  refine k_cifs (fun c => ?_) (fun c => ?_)
  · obtain ⟨_, e⟩ := loop_to (fun i s (_ : Unit) => RUN (d + 3) 242 (15, [sR 33 0, sI x1, sI s, sI 1, sI i], []) (HM q (upV V 33 0 6 0))) (cntI (seeP (U 3 0) (U 4 0) (U 5 0) x1)) 0 32 (by
      intro i l h1 h2
      refine ⟨(), ?_⟩
      try dsimp only
      rw [g_242_15 rk mr0 (by omega) (by decide) (fun _ _ => by omega) (fun _ _ => by omega), cif_neg (by omega), cif_neg (by decide), cntI_succ _ h1]
      refine cif_eq (fun k => ?_) (fun k => ?_)
      · rw [b2i_pos k]
      · rw [b2i_neg k]) (by decide) ()
    refine Eq.trans e ?_
    rw [g_242_15 rk mr0 (by decide) (by decide) (fun z => absurd (Int.le_refl _) z) (fun z => absurd (Int.le_refl _) z)]
    exact cif_pos (by decide)
  · rw [g_242_15 rk mr1 (by decide) (by decide) (fun _ z => absurd rfl z) (fun _ z => absurd rfl z), cif_neg (by decide)]
    exact cif_pos rfl
theorem s_243 {d : Nat} {q : QQ} {V U : VV} {x1 : Int} (rk : rowok U) (mr : MR V U) (h : R32 x1) : RUN (d + 3) 243 (am_en 243 [aR 33 0, aI (iI x1)]) (HM q V) = cif (0 ≤ x1 ∧ x1 < 32) (rI (cntI (fun t => seeP (U 3 0) (U 4 0) (U 5 0) t x1) (U 2 0 8)) (HM q (upV V 33 0 6 0))) (rI 0 (HM q (upV V 33 0 6 1))) := by
  have hn := rk_n rk
  rw [g_243_0 rk mr h]
  have mr0 : MR (upV V 33 0 6 0) U := mr
  have mr1 : MR (upV V 33 0 6 1) U := mr
  refine k_cifs (fun c => ?_) (fun c => ?_)
  · obtain ⟨_, e⟩ := loop_to (fun i s (_ : Unit) => RUN (d + 3) 243 (14, [sR 33 0, sI x1, sI s, sI 1, sI i], []) (HM q (upV V 33 0 6 0))) (cntI (fun t => seeP (U 3 0) (U 4 0) (U 5 0) t x1)) 0 (U 2 0 8) (by
      intro i l h1 h2
      refine ⟨(), ?_⟩
      try dsimp only
      rw [g_243_14 rk mr0 (by omega) (by decide) (fun _ _ => by omega) (fun _ _ => by omega), cif_neg (by omega), cif_neg (by decide), cntI_succ _ h1]
      refine cif_eq (fun k => ?_) (fun k => ?_)
      · rw [b2i_pos k]
      · rw [b2i_neg k]) hn.1 ()
    refine Eq.trans e ?_
    rw [g_243_14 rk mr0 (by omega) (by decide) (fun z => absurd (Int.le_refl _) z) (fun z => absurd (Int.le_refl _) z)]
    exact cif_pos (by omega)
  · rw [g_243_14 rk mr1 (by decide) (by decide) (fun _ z => absurd rfl z) (fun _ z => absurd rfl z)]
    refine cif_eq (fun _ => rfl) (fun _ => ?_)
    exact cif_pos rfl
theorem half_ok : ∀ k : Nat, k < 256 → bAnd k 1 = ((k % 2 : Nat) : Int) ∧ bShr k 1 = ((k / 2 : Nat) : Int) ∧ pc8 k = k % 2 + pc8 (k / 2) := by decide +kernel
theorem s_245 {d : Nat} {q : QQ} {V : VV} {x0 : Int} (p : 0 ≤ x0 ∧ x0 < 256) : RUN d 245 (am_en 245 [aI (iI x0)]) (HM q V) = rI (popF x0) (HM q V) := by
  rw [g_245_0]
  have key : ∀ (z : Nat) (m : Int), z < 256 → RUN d 245 (4, [sI x0, sI m, sI (z : Int)], []) (HM q V) = rI (m + (pc8 z : Nat)) (HM q V) := by
    intro z
    induction z using Nat.strongRecOn with
    | ind z ih =>
      intro m hz
      rw [g_245_4 (by constructor <;> omega)]
      obtain ⟨a1, a2, a3⟩ := half_ok z hz
      by_cases c : (z : Int) ≤ 0
      · rw [cif_pos c]
        have : z = 0 := by omega
        subst this
        exact congrArg (fun y => rI y (HM q V)) (show m = m + ((pc8 0 : Nat) : Int) by rw [pc8_0]; omega)
      · rw [cif_neg c, a1, a2, ih (z / 2) (by omega) _ (by omega), a3]
        exact congrArg (fun y => rI y (HM q V)) (by omega)
  have := key x0.toNat 0 (by omega)
  rw [show ((x0.toNat : Nat) : Int) = x0 by omega] at this
  rw [this, popF_small p]
  exact congrArg (fun y => rI y (HM q V)) (Int.zero_add _)
