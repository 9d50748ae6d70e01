/-! the table of all pairs -/
def fw (w : Int → Int → Int) : Nat → Int → Int → Int
  | 0 => fun i j => if i = j then 0 else w i j
  | k + 1 => fun i j => min (fw w k i j) (fw w k i k + fw w k k j)
theorem fw_b {w : Int → Int → Int} {n : Int} (hw : ∀ i j, 0 ≤ i ∧ i < n → 0 ≤ j ∧ j < n → 0 ≤ w i j ∧ w i j ≤ 1000000) : ∀ (k : Nat), (k : Int) ≤ n → ∀ i j, 0 ≤ i ∧ i < n → 0 ≤ j ∧ j < n → (0 ≤ fw w k i j ∧ fw w k i j ≤ 1000000) ∧ fw w k i i = 0 ∧ (i = j ∨ fw w k i j ≤ w i j) := by
  intro k
  induction k with
  | zero =>
    intro _ i j hi hj
    have h1 := hw i j hi hj
    refine ⟨?_, if_pos rfl, ?_⟩
    · show 0 ≤ (if i = j then 0 else w i j) ∧ (if i = j then 0 else w i j) ≤ 1000000
      split <;> omega
    · by_cases c : i = j
      · exact Or.inl c
      · right
        show (if i = j then 0 else w i j) ≤ w i j
        rw [if_neg c]
        exact Int.le_refl _
  | succ k ih =>
    intro hk i j hi hj
    have i1 := ih (by omega) i j hi hj
    have i2 := ih (by omega) i k hi (by omega)
    have i3 := ih (by omega) k j (by omega) hj
    have i4 := ih (by omega) k i (by omega) hi
    refine ⟨?_, ?_, ?_⟩
    · show 0 ≤ min (fw w k i j) (fw w k i k + fw w k k j) ∧ min (fw w k i j) (fw w k i k + fw w k k j) ≤ 1000000
      omega
    · show min (fw w k i i) (fw w k i k + fw w k k i) = 0
      omega
    · show i = j ∨ min (fw w k i j) (fw w k i k + fw w k k j) ≤ w i j
      omega
theorem gridV_at {A : Nat} {V : VV} {w : Int → Int → Int} {n i j t k : Int} (ht : 0 ≤ t) : gridV A V w n i j A t.toNat k = if (t < i ∧ 0 ≤ k ∧ k < n) ∨ (t = i ∧ 0 ≤ k ∧ k < j) then w t k else V A t.toNat k := by
  unfold gridV
  rw [Nat.beq_refl]
  show (if ((t.toNat : Int) < i ∧ 0 ≤ k ∧ k < n) ∨ ((t.toNat : Int) = i ∧ 0 ≤ k ∧ k < j) then w (t.toNat : Int) k else V A t.toNat k) = _
  rw [show (t.toNat : Int) = t by omega]
theorem gridV_over {A : Nat} {V : VV} {w w' : Int → Int → Int} {n : Int} : gridV A (gridV A V w n n 0) w' n n 0 = gridV A V w' n n 0 := by
  funext a b k
  unfold gridV
  cases Nat.beq a A with
  | false => rfl
  | true =>
    show (if ((b : Int) < n ∧ 0 ≤ k ∧ k < n) ∨ ((b : Int) = n ∧ 0 ≤ k ∧ k < 0) then w' b k else (if ((b : Int) < n ∧ 0 ≤ k ∧ k < n) ∨ ((b : Int) = n ∧ 0 ≤ k ∧ k < 0) then w b k else V a b k)) = if ((b : Int) < n ∧ 0 ≤ k ∧ k < n) ∨ ((b : Int) = n ∧ 0 ≤ k ∧ k < 0) then w' b k else V a b k
    by_cases c : ((b : Int) < n ∧ 0 ≤ k ∧ k < n) ∨ ((b : Int) = n ∧ 0 ≤ k ∧ k < 0)
    · rw [if_pos c, if_pos c]
    · rw [if_neg c, if_neg c, if_neg c]
def tabV (V : VV) (k : Nat) : VV := gridV 19 V (fw (stepW V) k) (V 2 0 8) (V 2 0 8) 0
def tableV (V : VV) : VV := tabV V (V 2 0 8).toNat
theorem relok_grid {V : VV} (rl : relok V) {w : Int → Int → Int} {n i j : Int} (hi : i ≤ n) (hj : j ≤ n) (hij : i < n ∨ j ≤ 0) (h : ∀ t u, 0 ≤ t ∧ t < n → 0 ≤ u ∧ u < n → 0 ≤ w t u ∧ w t u ≤ 1000000) : relok (gridV 19 V w n i j) := by
  refine ⟨rl.1, fun t u ht hu => ?_, rl.2.2⟩
  rw [gridV_at ht.1]
  by_cases c : (t < i ∧ 0 ≤ u ∧ u < n) ∨ (t = i ∧ 0 ≤ u ∧ u < j)
  · rw [if_pos c]
    exact h t u (by omega) (by omega)
  · rw [if_neg c]
    exact rl.2.1 t u ht hu
set_option maxHeartbeats 2000000 in
theorem s_30 {d : Nat} {q : QQ} {V : VV} (rk : rowok V) (rl : relok V) : RUN d 30 (am_en 30 [aR 15 0]) (HM q V) = rV (HM q (tableV V)) := by
  have hn := rk_n rk
  have hfw : ∀ (k : Nat), (k : Int) ≤ V 2 0 8 → ∀ i j, 0 ≤ i ∧ i < V 2 0 8 → 0 ≤ j ∧ j < V 2 0 8 → (0 ≤ fw (stepW V) k i j ∧ fw (stepW V) k i j ≤ 1000000) ∧ fw (stepW V) k i i = 0 ∧ (i = j ∨ fw (stepW V) k i j ≤ stepW V i j) := fw_b (n := V 2 0 8) (fun i j hi hj => rl_17 rl (by omega) (by omega))
  rw [g2_30_0 rk rl]
  -- the table is laid out
  have fill : ∃ l l', RUN d 30 (2, [sR 15 0, sI 0, none, none], []) (HM q V) = RUN d 30 (65, [sR 15 0, sI 0, l, l'], []) (HM q (tabV V 0)) := by
    have inner : ∀ i, 0 ≤ i → i < V 2 0 8 → RUN d 30 (15, [sR 15 0, sI i, sI 0, none], []) (HM q (gridV 19 V (fw (stepW V) 0) (V 2 0 8) i 0)) = RUN d 30 (2, [sR 15 0, sI (i + 1), sI (V 2 0 8), none], []) (HM q (gridV 19 V (fw (stepW V) 0) (V 2 0 8) (i + 1) 0)) := by
      intro i hi hi2
      have hrel : ∀ j, 0 ≤ j → j ≤ V 2 0 8 → relok (gridV 19 V (fw (stepW V) 0) (V 2 0 8) i j) := fun j _ h2 => relok_grid rl (by omega) h2 (Or.inl hi2) (fun t u ht hu => (hfw 0 (by omega) t u ht hu).1)
      obtain ⟨_, e⟩ := loop_to (fun j s (_ : Unit) => RUN d 30 (15, [sR 15 0, sI i, sI j, none], []) (HM q s)) (fun j => gridV 19 V (fw (stepW V) 0) (V 2 0 8) i j) 0 (V 2 0 8) (by
        intro j l h1 h2
        refine ⟨(), ?_⟩
        try dsimp only
        rw [g2_30_15 (V := gridV 19 V (fw (stepW V) 0) (V 2 0 8) i j) rk (hrel j h1 (by omega)) (by omega) (by omega)]
        refine (cif_neg (show ¬ V 2 0 8 ≤ j by omega)).trans ?_
        refine cif_eq (fun c => ?_) (fun c => ?_)
        · exact congrArg (fun s => RUN d 30 (15, [sR 15 0, sI i, sI (j + 1), none], []) (HM q s)) (gridV_up (A := 19) (V := V) (w := fw (stepW V) 0) (n := V 2 0 8) (v := 0) hi h1 (if_pos c).symm)
        · exact congrArg (fun s => RUN d 30 (15, [sR 15 0, sI i, sI (j + 1), none], []) (HM q s)) (gridV_up (A := 19) (V := V) (w := fw (stepW V) 0) (n := V 2 0 8) (v := V 17 i.toNat j) hi h1 (if_neg c).symm)) hn.1 ()
      refine Eq.trans e ?_
      try dsimp only
      rw [g2_30_15 (V := gridV 19 V (fw (stepW V) 0) (V 2 0 8) i (V 2 0 8)) rk (hrel _ hn.1 (Int.le_refl _)) (by omega) (by omega), gridV_next]
      exact cif_pos (Int.le_refl _)
    have hrel2 : ∀ i, 0 ≤ i → i ≤ V 2 0 8 → relok (gridV 19 V (fw (stepW V) 0) (V 2 0 8) i 0) := fun i _ h2 => relok_grid rl h2 hn.1 (Or.inr (Int.le_refl _)) (fun t u ht hu => (hfw 0 (by omega) t u ht hu).1)
    obtain ⟨l, e⟩ := loop_to (fun i s l => RUN d 30 (2, [sR 15 0, sI i, l, none], []) (HM q s)) (fun i => gridV 19 V (fw (stepW V) 0) (V 2 0 8) i 0) 0 (V 2 0 8) (by
      intro i l h1 h2
      refine ⟨sI (V 2 0 8), ?_⟩
      try dsimp only
      rw [g2_30_2 (V := gridV 19 V (fw (stepW V) 0) (V 2 0 8) i 0) rk (hrel2 i h1 (by omega)) (by omega)]
      refine (cif_neg (show ¬ V 2 0 8 ≤ i by omega)).trans ?_
      exact inner i h1 h2) hn.1 none
    try dsimp only at e
    rw [gridV_0] at e
    refine ⟨l, none, Eq.trans e ?_⟩
    rw [g2_30_2 (V := gridV 19 V (fw (stepW V) 0) (V 2 0 8) (V 2 0 8) 0) rk (hrel2 _ hn.1 (Int.le_refl _)) (by omega)]
    exact cif_pos (Int.le_refl _)
  obtain ⟨l0, l0', e0⟩ := fill
  rw [e0]
  have htab : ∀ k : Nat, (k : Int) ≤ V 2 0 8 → relok (tabV V k) := fun k hk => relok_grid rl (Int.le_refl _) hn.1 (Or.inr (Int.le_refl _)) (fun t u ht hu => (hfw k hk t u ht hu).1)
  have htat : ∀ (k : Nat) t u, 0 ≤ t ∧ t < V 2 0 8 → 0 ≤ u ∧ u < V 2 0 8 → tabV V k 19 t.toNat u = fw (stepW V) k t u := fun k t u ht hu => by
    unfold tabV
    rw [gridV_at ht.1, if_pos (Or.inl ⟨ht.2, hu⟩)]
  -- one tower more to go over
  have over : ∀ k : Nat, (k : Int) < V 2 0 8 → ∀ l3, ∃ l4, RUN d 30 (78, [sR 15 0, sI k, sI 0, l3], []) (HM q (tabV V k)) = RUN d 30 (65, [sR 15 0, sI ((k : Int) + 1), sI (V 2 0 8), l4], []) (HM q (tabV V (k + 1))) := by
    intro k hk l3
    have hin : ∀ i j, 0 ≤ i → i < V 2 0 8 → 0 ≤ j → j ≤ V 2 0 8 → relok (gridV 19 (tabV V k) (fw (stepW V) (k + 1)) (V 2 0 8) i j) := fun i j _ h2 _ h4 => relok_grid (htab k (by omega)) (by omega) h4 (Or.inl h2) (fun t u ht hu => (hfw (k + 1) (by omega) t u ht hu).1)
    have inner : ∀ i, 0 ≤ i → i < V 2 0 8 → RUN d 30 (91, [sR 15 0, sI k, sI i, sI 0], []) (HM q (gridV 19 (tabV V k) (fw (stepW V) (k + 1)) (V 2 0 8) i 0)) = RUN d 30 (78, [sR 15 0, sI k, sI (i + 1), sI (V 2 0 8)], []) (HM q (gridV 19 (tabV V k) (fw (stepW V) (k + 1)) (V 2 0 8) (i + 1) 0)) := by
      intro i hi hi2
      obtain ⟨_, e⟩ := loop_to (fun j s (_ : Unit) => RUN d 30 (91, [sR 15 0, sI k, sI i, sI j], []) (HM q s)) (fun j => gridV 19 (tabV V k) (fw (stepW V) (k + 1)) (V 2 0 8) i j) 0 (V 2 0 8) (by
        intro j l h1 h2
        refine ⟨(), ?_⟩
        try dsimp only
        rw [g2_30_91 (V := gridV 19 (tabV V k) (fw (stepW V) (k + 1)) (V 2 0 8) i j) rk (hin i j hi hi2 h1 (by omega)) (by omega) (by omega) (by omega)]
        refine (cif_neg (show ¬ V 2 0 8 ≤ j by omega)).trans ?_
        have fij := hfw k (by omega) i j ⟨hi, hi2⟩ ⟨h1, h2⟩
        have fik := hfw k (by omega) i k ⟨hi, hi2⟩ ⟨by omega, hk⟩
        have fkj := hfw k (by omega) k j ⟨by omega, hk⟩ ⟨h1, h2⟩
        have r1 : gridV 19 (tabV V k) (fw (stepW V) (k + 1)) (V 2 0 8) i j 19 i.toNat j = fw (stepW V) k i j := by
          rw [gridV_at hi, if_neg (by omega)]
          exact htat k i j ⟨hi, hi2⟩ ⟨h1, h2⟩
        have r2 : gridV 19 (tabV V k) (fw (stepW V) (k + 1)) (V 2 0 8) i j 19 i.toNat k = fw (stepW V) k i k := by
          rw [gridV_at hi]
          by_cases c : (i < i ∧ 0 ≤ (k : Int) ∧ (k : Int) < V 2 0 8) ∨ (i = i ∧ 0 ≤ (k : Int) ∧ (k : Int) < j)
          · rw [if_pos c]
            show min (fw (stepW V) k i k) (fw (stepW V) k i k + fw (stepW V) k k k) = _
            omega
          · rw [if_neg c]
            exact htat k i k ⟨hi, hi2⟩ ⟨by omega, hk⟩
        have r3 : gridV 19 (tabV V k) (fw (stepW V) (k + 1)) (V 2 0 8) i j 19 (k : Int).toNat j = fw (stepW V) k k j := by
          rw [gridV_at (by omega)]
          by_cases c : ((k : Int) < i ∧ 0 ≤ j ∧ j < V 2 0 8) ∨ ((k : Int) = i ∧ 0 ≤ j ∧ j < j)
          · rw [if_pos c]
            show min (fw (stepW V) k k j) (fw (stepW V) k k k + fw (stepW V) k k j) = _
            omega
          · rw [if_neg c]
            exact htat k k j ⟨by omega, hk⟩ ⟨h1, h2⟩
        rw [r1, r2, r3]
        exact congrArg (fun s => RUN d 30 (91, [sR 15 0, sI k, sI i, sI (j + 1)], []) (HM q s)) (gridV_up (A := 19) (V := tabV V k) (w := fw (stepW V) (k + 1)) (n := V 2 0 8) hi h1 rfl)) hn.1 ()
      refine Eq.trans e ?_
      try dsimp only
      rw [g2_30_91 (V := gridV 19 (tabV V k) (fw (stepW V) (k + 1)) (V 2 0 8) i (V 2 0 8)) rk (hin i _ hi hi2 hn.1 (Int.le_refl _)) (by omega) (by omega) (by omega), gridV_next]
      exact cif_pos (Int.le_refl _)
    have hrel2 : ∀ i, 0 ≤ i → i ≤ V 2 0 8 → relok (gridV 19 (tabV V k) (fw (stepW V) (k + 1)) (V 2 0 8) i 0) := fun i _ h2 => relok_grid (htab k (by omega)) h2 hn.1 (Or.inr (Int.le_refl _)) (fun t u ht hu => (hfw (k + 1) (by omega) t u ht hu).1)
    obtain ⟨l, e⟩ := loop_to (fun i s l => RUN d 30 (78, [sR 15 0, sI k, sI i, l], []) (HM q s)) (fun i => gridV 19 (tabV V k) (fw (stepW V) (k + 1)) (V 2 0 8) i 0) 0 (V 2 0 8) (by
      intro i l h1 h2
      refine ⟨sI (V 2 0 8), ?_⟩
      try dsimp only
      rw [g2_30_78 (V := gridV 19 (tabV V k) (fw (stepW V) (k + 1)) (V 2 0 8) i 0) rk (hrel2 i h1 (by omega)) (by omega) (by omega)]
      refine (cif_neg (show ¬ V 2 0 8 ≤ i by omega)).trans ?_
      exact inner i h1 h2) hn.1 l3
    try dsimp only at e
    rw [gridV_0] at e
    refine ⟨l, Eq.trans e ?_⟩
    rw [g2_30_78 (V := gridV 19 (tabV V k) (fw (stepW V) (k + 1)) (V 2 0 8) (V 2 0 8) 0) rk (hrel2 _ hn.1 (Int.le_refl _)) (by omega) (by omega)]
    refine (cif_pos (Int.le_refl _)).trans ?_
    exact congrArg (fun s => RUN d 30 (65, [sR 15 0, sI ((k : Int) + 1), sI (V 2 0 8), l], []) (HM q s)) gridV_over
  obtain ⟨l', e⟩ := loop_to (fun i s (l : Option AV × Option AV) => RUN d 30 (65, [sR 15 0, sI i, l.1, l.2], []) (HM q s)) (fun i => tabV V i.toNat) 0 (V 2 0 8) (by
    intro i l h1 h2
    obtain ⟨k, rfl⟩ : ∃ k : Nat, i = k := ⟨i.toNat, by omega⟩
    obtain ⟨l4, e4⟩ := over k h2 l.2
    refine ⟨(sI (V 2 0 8), l4), ?_⟩
    try dsimp only
    rw [show ((k : Int)).toNat = k from rfl, show ((k : Int) + 1).toNat = k + 1 from rfl, g2_30_65 (V := tabV V k) rk (htab k (by omega)) (by omega)]
    refine (cif_neg (show ¬ V 2 0 8 ≤ (k : Int) by omega)).trans ?_
    exact e4) hn.1 (l0, l0')
  refine Eq.trans e ?_
  try dsimp only
  rw [g2_30_65 (V := tabV V (V 2 0 8).toNat) rk (htab _ (by omega)) (by omega)]
  exact cif_pos (Int.le_refl _)
/-! what the table says -/
theorem fw_tri {w : Int → Int → Int} {n : Int} (hw : ∀ i j, 0 ≤ i ∧ i < n → 0 ≤ j ∧ j < n → 0 ≤ w i j ∧ w i j ≤ 1000000) : ∀ (K : Nat), (K : Int) ≤ n → ∀ (k : Nat), k < K → ∀ i j, 0 ≤ i ∧ i < n → 0 ≤ j ∧ j < n → fw w K i j ≤ fw w K i k + fw w K k j := by
  intro K
  induction K with
  | zero => intro _ k hk; omega
  | succ K ih =>
    intro hK k hk i j hi hj
    have hb := fw_b hw K (by omega)
    have bij := (hb i j hi hj).1
    have biK := (hb i K hi (by omega)).1
    have bKj := (hb K j (by omega) hj).1
    have bik := (hb i k hi (by omega)).1
    have bkj := (hb k j (by omega) hj).1
    have bKk := (hb K k (by omega) (by omega)).1
    have bkK := (hb k K (by omega) (by omega)).1
    have bKK := (hb K K (by omega) (by omega)).2.1
    show min (fw w K i j) (fw w K i K + fw w K K j) ≤ min (fw w K i k) (fw w K i K + fw w K K k) + min (fw w K k j) (fw w K k K + fw w K K j)
    by_cases e : k = K
    · subst e
      omega
    · have t1 := ih (by omega) k (by omega) i j hi hj
      have t2 := ih (by omega) k (by omega) i K hi (by omega)
      have t3 := ih (by omega) k (by omega) K j (by omega) hj
      omega
/-- the delay, or the number that stands for none -/
noncomputable def capD (n : Int) (e : Int → Int → Prop) (w : Int → Int → Int) (i j : Int) : Int := cif (spR n e w j i) (spD n e w j i) 1000000
theorem sp_tri {n : Int} {e : Int → Int → Prop} {w : Int → Int → Int} (hw : ∀ t u, 0 ≤ t ∧ t < n → 0 ≤ u ∧ u < n → e t u → 1 ≤ w t u) (hs : ∀ last, 0 ≤ last ∧ last < n → isSP n e w last (spR n e w last) (spD n e w last) (spN n e w last)) {k j : Int} (hk : 0 ≤ k ∧ k < n) (hj : 0 ≤ j ∧ j < n) (hR : spR n e w j k) :
    ∀ (m : Nat) (i : Int), 0 ≤ i ∧ i < n → spR n e w k i → spD n e w k i ≤ m → spR n e w j i ∧ spD n e w j i ≤ spD n e w k i + spD n e w j k := by
  obtain ⟨⟨a1, a2, a3⟩, b, c, f⟩ := hs k hk
  obtain ⟨⟨a1', a2', a3'⟩, b', c', f'⟩ := hs j hj
  intro m
  induction m using Nat.strongRecOn with
  | ind m ih =>
    intro i hi hRi hm
    by_cases hl : i = k
    · subst hl
      exact ⟨hR, by omega⟩
    · obtain ⟨u, hu, he, hRu, hD, hN⟩ := b i hi hl hRi
      have h1 := hw i u hi hu he
      have h0 := f u hu hRu
      obtain ⟨g1, g2⟩ := ih (spD n e w k u).toNat (by omega) u hu hRu (by omega)
      obtain ⟨g3, g4⟩ := c' i u hi hu he g1
      refine ⟨g3, ?_⟩
      unfold lexle at g4
      omega
theorem table_cap {V : VV} (rk : rowok V) (rl : relok V) {i j : Int} (hi : 0 ≤ i ∧ i < V 2 0 8) (hj : 0 ≤ j ∧ j < V 2 0 8) : fw (stepW (stepsV V)) (V 2 0 8).toNat i j = capD (V 2 0 8) (cE V) (cW V) i j := by
  have hn := rk_n rk
  have hst := fun t u (ht : 0 ≤ t ∧ t < V 2 0 8) (hu : 0 ≤ u ∧ u < V 2 0 8) => steps_at (V := V) hn.1 ht hu
  have hw : ∀ t u, 0 ≤ t ∧ t < V 2 0 8 → 0 ≤ u ∧ u < V 2 0 8 → 0 ≤ stepW (stepsV V) t u ∧ stepW (stepsV V) t u ≤ 1000000 := fun t u ht hu => by
    rw [hst t u ht hu]
    rcases stepT_b rk (t := t) (u := u) (by omega) (by omega) with ⟨-, e, h⟩ | ⟨-, e⟩ <;> omega
  have hw1 : ∀ t u, 0 ≤ t ∧ t < V 2 0 8 → 0 ≤ u ∧ u < V 2 0 8 → cE V t u → 1 ≤ cW V t u := fun t u ht hu _ => (delT_b rk (a := t) (b := u) (by omega) (by omega)).1
  have hs := fun last (hl : 0 ≤ last ∧ last < V 2 0 8) => (settle_sp rk rl hl).1
  have hD : ∀ t u, 0 ≤ t ∧ t < V 2 0 8 → 0 ≤ u ∧ u < V 2 0 8 → spR (V 2 0 8) (cE V) (cW V) u t → 0 ≤ spD (V 2 0 8) (cE V) (cW V) u t ∧ spD (V 2 0 8) (cE V) (cW V) u t ≤ 280 := fun t u ht hu hR => by
    obtain ⟨h1, h2, h3⟩ := settle_sp rk rl hu
    obtain ⟨c1, c2, c3⟩ := h2 t ht
    exact ⟨h1.2.2.2 t ht hR, (c3 (c1.mpr hR)).2.2.1⟩
  have cap : ∀ t u, 0 ≤ t ∧ t < V 2 0 8 → 0 ≤ u ∧ u < V 2 0 8 → (spR (V 2 0 8) (cE V) (cW V) u t ∧ capD (V 2 0 8) (cE V) (cW V) t u = spD (V 2 0 8) (cE V) (cW V) u t ∧ 0 ≤ spD (V 2 0 8) (cE V) (cW V) u t ∧ spD (V 2 0 8) (cE V) (cW V) u t ≤ 280) ∨ (¬ spR (V 2 0 8) (cE V) (cW V) u t ∧ capD (V 2 0 8) (cE V) (cW V) t u = 1000000) := fun t u ht hu => by
    by_cases hR : spR (V 2 0 8) (cE V) (cW V) u t
    · exact Or.inl ⟨hR, cif_pos hR, hD t u ht hu hR⟩
    · exact Or.inr ⟨hR, cif_neg hR⟩
  have lower : ∀ K : Nat, (K : Int) ≤ V 2 0 8 → ∀ t u, 0 ≤ t ∧ t < V 2 0 8 → 0 ≤ u ∧ u < V 2 0 8 → capD (V 2 0 8) (cE V) (cW V) t u ≤ fw (stepW (stepsV V)) K t u := by
    intro K
    induction K with
    | zero =>
      intro _ t u ht hu
      show capD (V 2 0 8) (cE V) (cW V) t u ≤ if t = u then 0 else stepW (stepsV V) t u
      obtain ⟨⟨a1, a2, a3⟩, b, c, f⟩ := hs u hu
      by_cases e : t = u
      · subst e
        rw [if_pos rfl]
        rcases cap t t ht hu with ⟨g1, g2, -⟩ | ⟨g1, -⟩
        · omega
        · exact absurd a1 g1
      · rw [if_neg e, hst t u ht hu]
        rcases stepT_b rk (t := t) (u := u) (by omega) (by omega) with ⟨h0, e1, h⟩ | ⟨h0, e1⟩
        · obtain ⟨g3, g4⟩ := c t u ht hu h0 a1
          rcases cap t u ht hu with ⟨g1, g2, -⟩ | ⟨g1, -⟩
          · unfold lexle at g4
            omega
          · exact absurd g3 g1
        · rcases cap t u ht hu with ⟨g1, g2, g5⟩ | ⟨g1, g2⟩ <;> omega
    | succ K ih =>
      intro hK t u ht hu
      have i1 := ih (by omega) t u ht hu
      have i2 := ih (by omega) t K ht (by omega)
      have i3 := ih (by omega) K u (by omega) hu
      show capD (V 2 0 8) (cE V) (cW V) t u ≤ min (fw (stepW (stepsV V)) K t u) (fw (stepW (stepsV V)) K t K + fw (stepW (stepsV V)) K K u)
      have tri : capD (V 2 0 8) (cE V) (cW V) t u ≤ capD (V 2 0 8) (cE V) (cW V) t K + capD (V 2 0 8) (cE V) (cW V) K u := by
        rcases cap t K ht (by omega) with ⟨g1, g2, g3⟩ | ⟨g1, g2⟩
        · rcases cap K u (by omega) hu with ⟨k1, k2, k3⟩ | ⟨k1, k2⟩
          · obtain ⟨m1, m2⟩ := sp_tri hw1 hs (k := (K : Int)) (by omega) hu k1 _ t ht g1 (Int.self_le_toNat _)
            rcases cap t u ht hu with ⟨p1, p2, p3⟩ | ⟨p1, p2⟩
            · omega
            · exact absurd m1 p1
          · rcases cap t u ht hu with ⟨p1, p2, p3⟩ | ⟨p1, p2⟩ <;> omega
        · rcases cap t u ht hu with ⟨p1, p2, p3⟩ | ⟨p1, p2⟩ <;> rcases cap K u (by omega) hu with ⟨k1, k2, k3⟩ | ⟨k1, k2⟩ <;> omega
      omega
  have upper : ∀ (m : Nat) t, 0 ≤ t ∧ t < V 2 0 8 → spR (V 2 0 8) (cE V) (cW V) j t → spD (V 2 0 8) (cE V) (cW V) j t ≤ m → fw (stepW (stepsV V)) (V 2 0 8).toNat t j ≤ spD (V 2 0 8) (cE V) (cW V) j t := by
    intro m
    induction m using Nat.strongRecOn with
    | ind m ih =>
      intro t ht hR hm
      have hb := fw_b hw (V 2 0 8).toNat (by omega)
      by_cases hl : t = j
      · subst hl
        have := (hb t t ht ht).2.1
        have := (hD t t ht ht hR).1
        omega
      · obtain ⟨u, hu, he, hRu, hDu, hN⟩ := (hs j hj).2.1 t ht hl hR
        have h1 := hw1 t u ht hu he
        have h0 := (hD u j hu hj hRu).1
        have i1 := ih (spD (V 2 0 8) (cE V) (cW V) j u).toNat (by omega) u hu hRu (by omega)
        have t1 := fw_tri hw (V 2 0 8).toNat (by omega) u.toNat (by omega) t j ht hj
        rw [show (u.toNat : Int) = u by omega] at t1
        have b1 := hb t u ht hu
        have e1 : stepW (stepsV V) t u = cW V t u := by
          rw [hst t u ht hu]
          exact cif_pos he
        rcases b1.2.2 with q | q
        · rw [q] at t1 b1
          rw [← q] at hDu i1
          omega
        · omega
  have l1 := lower (V 2 0 8).toNat (by omega) i j hi hj
  rcases cap i j hi hj with ⟨g1, g2, g3⟩ | ⟨g1, g2⟩
  · have u1 := upper _ i hi g1 (Int.self_le_toNat _)
    omega
  · have b1 := (fw_b hw (V 2 0 8).toNat (by omega) i j hi hj).1
    omega
