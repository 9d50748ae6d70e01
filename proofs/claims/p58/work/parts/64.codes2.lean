/-! the codes' public face; the first garbled reader -/
/-- a query that changes nothing but scratch cells -/
theorem s_32 {d : Nat} {q : QQ} {V : VV} (rk : rowok V) : ∃ c W, offC V W ∧ bcost (posL (V 10 0) 16) c ∧ RUN (d + 3) 32 (am_en 32 [aR 1 0]) (HM q V) = rI c (HM q W) := by
  obtain ⟨c, W, w1, w2, w3⟩ := s_33 (d := d) (q := q) rk
  exact ⟨c, W, w1, w2, (g_32_0 rk).trans (g_32_4 rk w3 (qle_refl _))⟩
theorem s_37 {d : Nat} {q : QQ} {V : VV} (rk : rowok V) : ∃ c W, offC V W ∧ bcost (posL (V 10 0) 16) c ∧ RUN (d + 3) 37 (am_en 37 [aR 1 0]) (HM q V) = rI c (HM q W) := by
  obtain ⟨c, W, w1, w2, w3⟩ := s_38 (d := d) (q := q) rk
  exact ⟨c, W, w1, w2, (g_37_0 rk).trans (g_37_4 rk w3 (qle_refl _))⟩
/-- no two towers stand at one position -/
def dist0 (V : VV) : Prop := ∀ a b, 0 ≤ a ∧ a < V 2 0 8 → 0 ≤ b ∧ b < V 2 0 8 → ¬ a = b → ¬ V 4 0 a = V 4 0 b
theorem HC_b {n : Nat} : ∀ {l : List Int} {c : Int}, n ≤ 16 → gok l → HC n l c → 0 ≤ c ∧ c ≤ n * 16000000 := by
  induction n with
  | zero =>
    rintro l c _ _ ⟨_, e⟩
    omega
  | succ n ih =>
    rintro l c hn g ⟨a, b, l', c', p, _, _, h, e⟩
    have g2 := gok_join (gok_perm p g)
    obtain ⟨h1, h2⟩ := ih (by omega) g2 h
    have h3 := g2.1 (a + b) (List.mem_cons_self ..)
    have h4 := sumL_mem g2.1 (List.mem_cons_self ..)
    have h5 := g2.2
    omega
theorem bcost_R {V : VV} (rk : rowok V) {c : Int} (h : bcost (posL (V 10 0) 16) c) : R32 c := by
  have hg := gok_pos rk
  have hl := posL_len (f := V 10 0) (n := 16)
  generalize posL (V 10 0) 16 = L at h hg hl
  by_cases e : L.length = 1
  · have := h.1 e
    rw [this] at hg
    exact gok_of hg (List.mem_cons_self ..)
  · obtain ⟨h1, h2⟩ := HC_b (n := L.length - 1) (by omega) hg (h.2 e)
    constructor <;> omega
theorem relok_off {V W : VV} (h : offC V W) (rl : relok V) : relok W := by
  unfold relok
  refine ⟨fun i j hi hj => ?_, fun i j hi hj => ?_, fun j hj => ?_⟩
  · rw [h 17 _ (by decide)]; exact rl.1 i j hi hj
  · rw [h 19 _ (by decide)]; exact rl.2.1 i j hi hj
  · rw [h 20 _ (by decide)]; exact rl.2.2 j hj
theorem smok_off {V W : VV} (h : offC V W) (sm : smok V) : smok W := by
  intro v hv
  rw [h 23 0 (by decide)]
  exact sm v hv
theorem watch_ex {n : Int} {S : Int → Int → Prop} (hn : 0 ≤ n) : ∀ (k : Nat) (T : Int → Prop), cov n S T → cntI T n ≤ k → ∃ m, isWatch n S m := by
  intro k
  induction k with
  | zero =>
    intro T h1 h2
    refine ⟨0, ⟨T, h1, ?_⟩, fun U _ => (cntI_b U hn).1⟩
    have := cntI_b T hn
    omega
  | succ k ih =>
    intro T h1 h2
    by_cases c : ∃ U, cov n S U ∧ cntI U n ≤ k
    · obtain ⟨U, u1, u2⟩ := c
      exact ih U u1 u2
    · by_cases e : cntI T n ≤ k
      · exact absurd ⟨T, h1, e⟩ c
      · refine ⟨cntI T n, ⟨T, h1, rfl⟩, fun U hU => ?_⟩
        by_cases e2 : cntI U n ≤ k
        · exact absurd ⟨U, hU, e2⟩ c
        · omega
theorem watchN_R {V : VV} (rk : rowok V) (S : Int → Int → Prop) : R32 (watchN (V 2 0 8) S) := by
  have hn := rk_n rk
  have h0 : cov (V 2 0 8) S (fun _ => True) := fun k hk ⟨t, t1, t2, t3⟩ => ⟨t, t1, t2, trivial, t3⟩
  have h1 := cntI_b (fun _ => True) hn.1
  obtain ⟨m, h⟩ := watch_ex (S := S) hn.1 8 (fun _ => True) h0 (by omega)
  rw [watchN_eq h]
  obtain ⟨⟨T, _, t2⟩, _⟩ := h
  have := cntI_b T hn.1
  constructor <;> omega
theorem s_41 {d : Nat} {q : QQ} {V : VV} (rk : rowok V) (rl : relok V) (sm : smok V) (hd : dist0 V) : ∃ W, offC (lookV (lookV (agreeV V))) W ∧ RUN (d + 11) 41 (am_en 41 [aR 1 0]) (HM q V) = rI 1 (HM q W) := by
  have rk3 : rowok (lookV (lookV (agreeV V))) := rk
  have rl3 : relok (lookV (lookV (agreeV V))) := relok_set (relok_tabS rk rl) (agree_is rk rl).1
  have hw := watchN_R rk (seeP (V 3 0) (V 4 0) (V 5 0))
  obtain ⟨c1, W1, o1, b1, e1⟩ := s_33 (d := d + 8) (q := q) rk3
  have rkW := rowok_off o1 rk3
  obtain ⟨c2, W2, o2, b2, e2⟩ := s_38 (d := d + 8) (q := q) rkW
  have hc : c1 = c2 := by
    refine bcost_uniq ?_ b1 b2
    rw [o1 10 0 (by decide)]
  subst hc
  refine ⟨W2, offC_trans o1 o2, ?_⟩
  rw [g_41_0 rk rl sm, g_41_4 rk rl sm (s_42 (d := d + 8) rk hd) (qle_refl _) (by decide) (fun _ => rk) (fun _ => rl) (fun _ => sm) (fun _ => rk) (fun _ => rk) (fun _ => hw)]
  rw [cif_neg (by decide), cif_pos rfl, g_41_51 rk3 rl3 sm e1 (qle_refl _), g_41_58 rkW (relok_off o1 rl3) (smok_off o1 sm) e2 (qle_refl _) (bcost_R rk3 b1) (bcost_R rk3 b1)]
  exact cif_pos rfl
/-- the tower t's pattern for the letter l cannot be read -/
def garb (V : VV) (t l : Int) : Prop := ¬ nrD (sigN (V 6 0 t) (V 7 0 t) l) ≤ 1
/-- the relay that was found is one of towers -/
def pathok (V : VV) : Prop := (0 ≤ V 15 0 6 ∧ V 15 0 6 ≤ 8) ∧ ∀ i, 0 ≤ i ∧ i < V 15 0 6 → 0 ≤ V 21 0 i ∧ V 21 0 i < 8
theorem s_134 {d : Nat} {q : QQ} {V : VV} {x1 : Int} (rk : rowok V) (rl : relok V) (sm : smok V) (po : pathok V) (p : 97 ≤ x1 ∧ x1 < 113) (h1 : 1 ≤ V 15 0 6) :
    (∃ i, 1 ≤ i ∧ i < V 15 0 6 ∧ garb V (V 21 0 (i - 1)) x1 ∧ (∀ j, 1 ≤ j → j < i → ¬ garb V (V 21 0 (j - 1)) x1) ∧ RUN (d + 3) 134 (am_en 134 [aR 1 0, aI (iI x1)]) (HM q V) = rI (V 21 0 i) (HM q V)) ∨
    ((∀ j, 1 ≤ j → j < V 15 0 6 → ¬ garb V (V 21 0 (j - 1)) x1) ∧ RUN (d + 3) 134 (am_en 134 [aR 1 0, aI (iI x1)]) (HM q V) = rI (-1) (HM q V)) := by
  rw [g_134_0 rk rl sm p]
  have step : ∀ (x2 : Int) (l3 : Option AV), 1 ≤ x2 → x2 ≤ V 15 0 6 → RUN (d + 3) 134 (2, [sR 1 0, sI x1, sI x2, l3], []) (HM q V) = cif (V 15 0 6 ≤ x2) (rI (-1) (HM q V)) (cif (garb V (V 21 0 (x2 - 1)) x1) (rI (V 21 0 x2) (HM q V)) (RUN (d + 3) 134 (2, [sR 1 0, sI x1, sI (x2 + 1), sI (sigN (V 6 0 (V 21 0 (x2 - 1))) (V 7 0 (V 21 0 (x2 - 1))) x1)], []) (HM q V))) := by
    intro x2 l3 k1 k2
    have hb := po.1
    rw [g_134_2 rk rl sm p (by constructor <;> omega) (by constructor <;> omega) (fun _ => by omega) (fun c => by have := po.2 (x2 - 1) (by omega); omega) (fun _ _ _ => by omega) (fun _ _ => by omega)]
    by_cases c : V 15 0 6 ≤ x2
    · rw [cif_pos c, cif_pos c]
    · rw [cif_neg c, cif_neg c]
      by_cases c2 : nrD (sigN (V 6 0 (V 21 0 (x2 - 1))) (V 7 0 (V 21 0 (x2 - 1))) x1) ≤ 1
      · have hv := nrV_b (sigN_b (m := V 6 0 (V 21 0 (x2 - 1))) (c := V 7 0 (V 21 0 (x2 - 1))) p)
        rw [cif_pos c2, cif_neg (by omega), cif_neg (fun z => z c2)]
      · rw [cif_neg c2, cif_pos (show garb V (V 21 0 (x2 - 1)) x1 from c2)]
  rcases loop_find (fun i (l3 : Option AV) => RUN (d + 3) 134 (2, [sR 1 0, sI x1, sI i, l3], []) (HM q V)) (fun i => garb V (V 21 0 (i - 1)) x1) (fun i => rI (V 21 0 i) (HM q V)) 1 (V 15 0 6) (by
    intro i l h1 h2
    refine ⟨sI (sigN (V 6 0 (V 21 0 (i - 1))) (V 7 0 (V 21 0 (i - 1))) x1), ?_⟩
    try dsimp only
    rw [step i l h1 (by omega), cif_neg (by omega)]) h1 none with ⟨i, a1, a2, a3, a4, e⟩ | ⟨a1, l', e⟩
  · exact Or.inl ⟨i, a1, a2, a3, a4, e⟩
  · refine Or.inr ⟨a1, Eq.trans e ?_⟩
    try dsimp only
    rw [step _ _ h1 (Int.le_refl _)]
    exact cif_pos (Int.le_refl _)
