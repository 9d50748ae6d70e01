/-! who uses the table -/
noncomputable def tabS (V : VV) : VV := tableV (stepsV V)
theorem tabS_at {V : VV} (rk : rowok V) (rl : relok V) {i j : Int} (hi : 0 ≤ i ∧ i < V 2 0 8) (hj : 0 ≤ j ∧ j < V 2 0 8) : tabS V 19 i.toNat j = capD (V 2 0 8) (cE V) (cW V) i j := by
  rw [← table_cap rk rl hi hj]
  show gridV 19 (stepsV V) (fw (stepW (stepsV V)) (V 2 0 8).toNat) (V 2 0 8) (V 2 0 8) 0 19 i.toNat j = _
  rw [gridV_at hi.1, if_pos (Or.inl ⟨hi.2, hj⟩)]
theorem relok_tabS {V : VV} (rk : rowok V) (rl : relok V) : relok (tabS V) := by
  have hn := rk_n rk
  have rls := relok_steps rk rl
  exact relok_grid (V := stepsV V) rls (n := V 2 0 8) (Int.le_refl _) hn.1 (Or.inr (Int.le_refl _)) (fun t u ht hu => ((fw_b (n := V 2 0 8) (fun i j hi hj => rl_17 rls (by omega) (by omega))) (V 2 0 8).toNat (by omega) t u ht hu).1)
theorem capD_cases {V : VV} (rk : rowok V) (rl : relok V) {t u : Int} (ht : 0 ≤ t ∧ t < V 2 0 8) (hu : 0 ≤ u ∧ u < V 2 0 8) : (spR (V 2 0 8) (cE V) (cW V) u t ∧ capD (V 2 0 8) (cE V) (cW V) t u = spD (V 2 0 8) (cE V) (cW V) u t ∧ 0 ≤ spD (V 2 0 8) (cE V) (cW V) u t ∧ spD (V 2 0 8) (cE V) (cW V) u t ≤ 280) ∨ (¬ spR (V 2 0 8) (cE V) (cW V) u t ∧ capD (V 2 0 8) (cE V) (cW V) t u = 1000000) := by
  by_cases hR : spR (V 2 0 8) (cE V) (cW V) u t
  · obtain ⟨h1, h2, h3⟩ := settle_sp rk rl hu
    obtain ⟨c1, c2, c3⟩ := h2 t ht
    exact Or.inl ⟨hR, cif_pos hR, h1.2.2.2 t ht hR, (c3 (c1.mpr hR)).2.2.1⟩
  · exact Or.inr ⟨hR, cif_neg hR⟩
theorem s_109 {d : Nat} {q : QQ} {V : VV} {x1 x2 : Int} (rk : rowok V) (rl : relok V) (p1 : 0 ≤ x1 ∧ x1 < V 2 0 8) (p2 : 0 ≤ x2 ∧ x2 < V 2 0 8) : RUN (d + 3) 109 (am_en 109 [aR 15 0, aI (iI x1), aI (iI x2)]) (HM q V) = cif (spR (V 2 0 8) (cE V) (cW V) x2 x1) (rI (spD (V 2 0 8) (cE V) (cW V) x2 x1) (HM q (tabS V))) (rI (-1) (HM q (tabS V))) := by
  have hn := rk_n rk
  have e : tableV (stepsV V) 19 x1.toNat x2 = capD (V 2 0 8) (cE V) (cW V) x1 x2 := tabS_at rk rl p1 p2
  have hc := capD_cases rk rl p1 p2
  rw [e_109 rk rl (by omega) (by omega) (relok_steps rk rl) (by rw [e]; omega), e]
  rcases hc with ⟨g1, g2, g3⟩ | ⟨g1, g2⟩
  · rw [cif_pos g1, cif_pos (by omega), g2]
    rfl
  · rw [cif_neg g1, cif_neg (by omega)]
    rfl
/-- no tower before it has a relay to it -/
def firstS (n : Int) (e : Int → Int → Prop) (w : Int → Int → Int) (t : Int) : Prop := ∀ j, 0 ≤ j → j < t → ¬ spR n e w t j
theorem s_26 {d : Nat} {q : QQ} {V : VV} (rk : rowok V) (rl : relok V) : RUN (d + 3) 26 (am_en 26 [aR 15 0]) (HM q V) = rI (cntI (firstS (V 2 0 8) (cE V) (cW V)) (V 2 0 8)) (HM q (tabS V)) := by
  have hn := rk_n rk
  rw [g_26_0 rk rl (relok_steps rk rl)]
  obtain ⟨_, e⟩ := loop_to (fun i s (_ : Unit) => RUN (d + 3) 26 (12, [sR 15 0, sI s, sI i], []) (HM q (tabS V))) (cntI (firstS (V 2 0 8) (cE V) (cW V))) 0 (V 2 0 8) (by
    intro i l h1 h2
    refine ⟨(), ?_⟩
    try dsimp only
    have hb := cntI_b (firstS (V 2 0 8) (cE V) (cW V)) h1
    have hf : firstG (tabS V) i ↔ firstS (V 2 0 8) (cE V) (cW V) i := by
      constructor
      · intro h j j1 j2 hR
        have h3 := h j j1 j2
        rw [tabS_at rk rl (by omega) ⟨h1, h2⟩] at h3
        rcases capD_cases rk rl (t := j) (u := i) (by omega) ⟨h1, h2⟩ with ⟨g1, g2, g3⟩ | ⟨g1, g2⟩
        · omega
        · exact g1 hR
      · intro h j j1 j2
        rw [tabS_at rk rl (by omega) ⟨h1, h2⟩]
        rcases capD_cases rk rl (t := j) (u := i) (by omega) ⟨h1, h2⟩ with ⟨g1, g2, g3⟩ | ⟨g1, g2⟩
        · exact absurd g1 (h j j1 j2)
        · omega
    rw [g_26_12 (V := tabS V) rk (relok_tabS rk rl) (by omega) (by omega)]
    refine (cif_neg (show ¬ V 2 0 8 ≤ i by omega)).trans ?_
    rw [cntI_succ _ h1]
    refine cif_eq (fun c => ?_) (fun c => ?_)
    · rw [b2i_pos (hf.mp c)]
    · rw [b2i_neg (fun z => c (hf.mpr z)), Int.add_zero]) hn.1 ()
  refine Eq.trans e ?_
  have hb := cntI_b (firstS (V 2 0 8) (cE V) (cW V)) hn.1
  try dsimp only
  rw [g_26_12 (V := tabS V) rk (relok_tabS rk rl) (by omega) (by omega)]
  exact cif_pos (Int.le_refl _)
theorem bc_facts {V : VV} (rk : rowok V) (rl : relok V) {last : Int} (hl : 0 ≤ last ∧ last < V 2 0 8) {c : Int → Int} (hbc : isBC (V 2 0 8) (stepW (stepsV V)) last c) {t : Int} (ht : 0 ≤ t ∧ t < V 2 0 8) : (c t < 1000000 ↔ spR (V 2 0 8) (cE V) (cW V) last t) ∧ (c t < 1000000 → c t / 16 = spD (V 2 0 8) (cE V) (cW V) last t) := by
  have hn := rk_n rk
  have hst := fun t u (ht : 0 ≤ t ∧ t < V 2 0 8) (hu : 0 ≤ u ∧ u < V 2 0 8) => steps_at (V := V) hn.1 ht hu
  obtain ⟨hs, hb⟩ := bc_sp hn.2 hl (fun t u ht hu => by
    rw [hst t u ht hu]
    rcases stepT_b rk (t := t) (u := u) (by omega) (by omega) with ⟨-, e, h⟩ | ⟨-, e⟩
    · left; omega
    · right; exact e) hbc
  have hs2 := isSP_congr (e' := cE V) (w' := cW V) (fun t u ht hu => by
    rw [hst t u ht hu]
    rcases stepT_b rk (t := t) (u := u) (by omega) (by omega) with ⟨h0, e, h⟩ | ⟨h0, e⟩
    · exact ⟨⟨fun _ => h0, fun _ => by omega⟩, fun _ => e⟩
    · exact ⟨⟨fun z => by omega, fun z => absurd z h0⟩, fun z => by omega⟩) hs
  have hw1 : ∀ t u, 0 ≤ t ∧ t < V 2 0 8 → 0 ≤ u ∧ u < V 2 0 8 → cE V t u → 1 ≤ cW V t u := fun t u ht hu _ => (delT_b rk (a := t) (b := u) (by omega) (by omega)).1
  obtain ⟨g1, g2⟩ := spSol_eq hw1 hs2 ht
  exact ⟨g1, fun hR => (g2 hR).1⟩
/-- the costs that are left behind when all pairs have been asked -/
noncomputable def agreeC (V : VV) : Int → Int := Classical.epsilon (fun f => (∀ t, 0 ≤ t ∧ t < 8 → 0 ≤ f t ∧ f t ≤ 1000000) ∧ ∀ (d : Nat) (q : QQ), RUN (d + 3) 44 (am_en 44 [aR 15 0]) (HM q V) = rI 1 (HM q (setA (tabS V) 20 0 f)))
noncomputable def agreeV (V : VV) : VV := setA (tabS V) 20 0 (agreeC V)
theorem agree_ex {V : VV} (rk : rowok V) (rl : relok V) : ∃ f : Int → Int, (∀ t, 0 ≤ t ∧ t < 8 → 0 ≤ f t ∧ f t ≤ 1000000) ∧ ∀ (d : Nat) (q : QQ), RUN (d + 3) 44 (am_en 44 [aR 15 0]) (HM q V) = rI 1 (HM q (setA (tabS V) 20 0 f)) := by
  have hn := rk_n rk
  have rlt := relok_tabS rk rl
  -- one 'to' after the other
  have one : ∀ (i : Int), 0 ≤ i → i < V 2 0 8 → ∀ f : Int → Int, (∀ t, 0 ≤ t ∧ t < 8 → 0 ≤ f t ∧ f t ≤ 1000000) → ∃ g : Int → Int, (∀ t, 0 ≤ t ∧ t < 8 → 0 ≤ g t ∧ g t ≤ 1000000) ∧ ∀ (d : Nat) (q : QQ) (l2 l3 : Option AV), ∃ l2' l3', RUN (d + 3) 44 (10, [sR 15 0, sI i, l2, l3], []) (HM q (setA (tabS V) 20 0 f)) = RUN (d + 3) 44 (10, [sR 15 0, sI (i + 1), l2', l3'], []) (HM q (setA (tabS V) 20 0 g)) := by
    intro i hi hi2 f hf
    have rlf : relok (setA (tabS V) 20 0 f) := relok_set rlt hf
    have hg : ∀ t, 0 ≤ t ∧ t < 8 → 0 ≤ settleC (setA (tabS V) 20 0 f) i t ∧ settleC (setA (tabS V) 20 0 f) i t ≤ 1000000 := settle_inv (V := setA (tabS V) 20 0 f) rk rlf ⟨hi, hi2⟩ (V 2 0 8).toNat (show ((V 2 0 8).toNat : Int) ≤ V 2 0 8 by omega)
    have hbc : isBC (V 2 0 8) (stepW (stepsV V)) i (settleC (setA (tabS V) 20 0 f) i) := by
      refine djk_bc (n := V 2 0 8) (w := stepW (stepsV V)) hn ⟨hi, hi2⟩ (fun t u ht hu => (rl_17 (relok_steps rk rl) (by omega) (by omega)).1) (fun t ht => ?_)
      unfold initC
      rw [if_pos ht]
    refine ⟨settleC (setA (tabS V) 20 0 f) i, hg, fun d q l2 l3 => ?_⟩
    have es : settleV (setA (tabS V) 20 0 f) i = setA (tabS V) 20 0 (settleC (setA (tabS V) 20 0 f) i) := by
      unfold settleV
      funext a b j
      unfold setA
      cases Nat.beq a 20 && Nat.beq b 0 <;> rfl
    rw [g_44_10 (V := setA (tabS V) 20 0 f) rk rlf (by omega) (fun _ => ⟨hi, hi2⟩)]
    have rlg := relok_set rlt hg
    obtain ⟨l', e⟩ := loop_to (fun j (_ : Unit) (l : Option AV) => RUN (d + 3) 44 (28, [sR 15 0, sI i, sI j, l], []) (HM q (setA (tabS V) 20 0 (settleC (setA (tabS V) 20 0 f) i)))) (fun _ => ()) 0 (V 2 0 8) (by
      intro j l h1 h2
      obtain ⟨b1, b2⟩ := bc_facts rk rl ⟨hi, hi2⟩ hbc (t := j) ⟨h1, h2⟩
      have bj := hg j (by omega)
      have et : setA (tabS V) 20 0 (settleC (setA (tabS V) 20 0 f) i) 19 j.toNat i = capD (V 2 0 8) (cE V) (cW V) j i := tabS_at rk rl ⟨h1, h2⟩ ⟨hi, hi2⟩
      have e20 : setA (tabS V) 20 0 (settleC (setA (tabS V) 20 0 f) i) 20 0 j = settleC (setA (tabS V) 20 0 f) i j := setA_rd
      by_cases hR : spR (V 2 0 8) (cE V) (cW V) i j
      · refine ⟨sI (settleC (setA (tabS V) 20 0 f) i j / 16), ?_⟩
        try dsimp only
        rw [g_44_28 (V := setA (tabS V) 20 0 (settleC (setA (tabS V) 20 0 f) i)) rk rlg (by omega) (by omega)]
        refine (cif_neg (show ¬ V 2 0 8 ≤ j by omega)).trans ?_
        rw [e20, et, cif_pos (b1.mpr hR), cif_pos]
        rcases capD_cases rk rl (t := j) (u := i) ⟨h1, h2⟩ ⟨hi, hi2⟩ with ⟨g1, g2, g3⟩ | ⟨g1, g2⟩
        · rw [g2]
          exact b2 (b1.mpr hR)
        · exact absurd hR g1
      · refine ⟨sI 1000000, ?_⟩
        try dsimp only
        rw [g_44_28 (V := setA (tabS V) 20 0 (settleC (setA (tabS V) 20 0 f) i)) rk rlg (by omega) (by omega)]
        refine (cif_neg (show ¬ V 2 0 8 ≤ j by omega)).trans ?_
        rw [e20, et, cif_neg (fun z => hR (b1.mp z)), cif_pos]
        rcases capD_cases rk rl (t := j) (u := i) ⟨h1, h2⟩ ⟨hi, hi2⟩ with ⟨g1, g2, g3⟩ | ⟨g1, g2⟩
        · exact absurd g1 hR
        · exact g2.symm) hn.1 l3
    refine ⟨sI (V 2 0 8), l', ?_⟩
    refine (cif_neg (show ¬ V 2 0 8 ≤ i by omega)).trans ?_
    rw [es]
    refine Eq.trans e ?_
    try dsimp only
    rw [g_44_28 (V := setA (tabS V) 20 0 (settleC (setA (tabS V) 20 0 f) i)) rk rlg (by omega) (by omega)]
    exact cif_pos (Int.le_refl _)
  have all : ∀ k : Nat, (k : Int) ≤ V 2 0 8 → ∃ f : Int → Int, (∀ t, 0 ≤ t ∧ t < 8 → 0 ≤ f t ∧ f t ≤ 1000000) ∧ ∀ (d : Nat) (q : QQ), ∃ l2 l3, RUN (d + 3) 44 (10, [sR 15 0, sI 0, none, none], []) (HM q (tabS V)) = RUN (d + 3) 44 (10, [sR 15 0, sI k, l2, l3], []) (HM q (setA (tabS V) 20 0 f)) := by
    intro k
    induction k with
    | zero =>
      intro _
      refine ⟨tabS V 20 0, fun t ht => rl_20 rlt ht, fun d q => ⟨none, none, ?_⟩⟩
      rw [setA_self]
      rfl
    | succ k ih =>
      intro hk
      obtain ⟨f, hf, h1⟩ := ih (by omega)
      obtain ⟨g, hg, h2⟩ := one k (by omega) (by omega) f hf
      refine ⟨g, hg, fun d q => ?_⟩
      obtain ⟨l2, l3, e1⟩ := h1 d q
      obtain ⟨l2', l3', e2⟩ := h2 d q l2 l3
      exact ⟨l2', l3', e1.trans e2⟩
  obtain ⟨f, hf, h1⟩ := all (V 2 0 8).toNat (by omega)
  refine ⟨f, hf, fun d q => ?_⟩
  obtain ⟨l2, l3, e1⟩ := h1 d q
  rw [show ((V 2 0 8).toNat : Int) = V 2 0 8 by omega] at e1
  rw [g_44_0 rk rl (relok_steps rk rl)]
  refine Eq.trans e1 ?_
  rw [g_44_10 (V := setA (tabS V) 20 0 f) (x1 := V 2 0 8) rk (relok_set rlt hf) (by omega) (fun z => absurd (show V 2 0 8 ≤ V 2 0 8 from Int.le_refl _) z)]
  exact cif_pos (Int.le_refl _)
theorem agree_is {V : VV} (rk : rowok V) (rl : relok V) : (∀ t, 0 ≤ t ∧ t < 8 → 0 ≤ agreeC V t ∧ agreeC V t ≤ 1000000) ∧ ∀ (d : Nat) (q : QQ), RUN (d + 3) 44 (am_en 44 [aR 15 0]) (HM q V) = rI 1 (HM q (agreeV V)) :=
  Classical.epsilon_spec (p := fun f : Int → Int => (∀ t, 0 ≤ t ∧ t < 8 → 0 ≤ f t ∧ f t ≤ 1000000) ∧ ∀ (d : Nat) (q : QQ), RUN (d + 3) 44 (am_en 44 [aR 15 0]) (HM q V) = rI 1 (HM q (setA (tabS V) 20 0 f))) (agree_ex rk rl)
theorem s_44 {d : Nat} {q : QQ} {V : VV} (rk : rowok V) (rl : relok V) : RUN (d + 3) 44 (am_en 44 [aR 15 0]) (HM q V) = rI 1 (HM q (agreeV V)) := (agree_is rk rl).2 d q
