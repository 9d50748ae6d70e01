/-! the watch by recursion -/
def covU (seen : Int → Int) (U : Int) (T : Int → Prop) : Prop := ∀ k, 0 ≤ k ∧ k < 32 → tbit U k → ∃ t, 0 ≤ t ∧ t < 8 ∧ T t ∧ tbit (seen t) k
def isMC (seen : Int → Int) (U : Int) (m : Int) : Prop := (∃ T, covU seen U T ∧ cntI T 8 = m) ∧ ∀ T, covU seen U T → m ≤ cntI T 8
noncomputable def mC (seen : Int → Int) (U : Int) : Int := Classical.epsilon (isMC seen U)
theorem mC_ex {seen : Int → Int} {U : Int} (h : ∃ T, covU seen U T) : isMC seen U (mC seen U) := by
  have key : ∀ (k : Nat) (T : Int → Prop), covU seen U T → cntI T 8 ≤ k → ∃ m, isMC seen U m := by
    intro k
    induction k with
    | zero =>
      intro T hT hk
      refine ⟨cntI T 8, ⟨T, hT, rfl⟩, fun T' _ => ?_⟩
      have := (cntI_b T' (n := 8) (by decide)).1
      omega
    | succ k ih =>
      intro T hT hk
      by_cases hx : ∃ T', covU seen U T' ∧ cntI T' 8 < cntI T 8
      · obtain ⟨T', a, b⟩ := hx
        exact ih T' a (by omega)
      · refine ⟨cntI T 8, ⟨T, hT, rfl⟩, fun T' h' => ?_⟩
        exact Int.not_lt.mp fun z => hx ⟨T', h', z⟩
  obtain ⟨T, hT⟩ := h
  obtain ⟨m, hm⟩ := key (cntI T 8).toNat T hT (by omega)
  exact Classical.epsilon_spec (p := isMC seen U) ⟨m, hm⟩
theorem cntI_add {P : Int → Prop} {n t : Int} (hn : 0 ≤ n) : cntI (fun j => P j ∨ j = t) n ≤ cntI P n + 1 := by
  by_cases hin : 0 ≤ t ∧ t < n
  · have h1 := cntI_del (P := fun j => P j ∨ j = t) hin.1 hin.2 (Or.inr rfl)
    have h2 : cntI (fun j => (P j ∨ j = t) ∧ ¬ j = t) n ≤ cntI P n := cntI_mono fun j _ _ h => h.1.resolve_right h.2
    omega
  · have h2 : cntI (fun j => P j ∨ j = t) n ≤ cntI P n := cntI_mono fun j a b h => h.resolve_right (fun e => hin (by omega))
    omega
def bMin (U s : Int) : Int := bAnd U (bXor s (-1))
theorem tbit_bMin {U s k : Int} (h : 0 ≤ k ∧ k < 32) : tbit (bMin U s) k ↔ tbit U k ∧ ¬ tbit s k := by
  unfold bMin
  rw [tbit_and, tbit_not h]
theorem covU_min {seen : Int → Int} {U t : Int} {T : Int → Prop} (h : covU seen U T) : covU seen (bMin U (seen t)) (fun j => T j ∧ ¬ j = t) := by
  intro k hk hb
  obtain ⟨h1, h2⟩ := (tbit_bMin hk).mp hb
  obtain ⟨j, a, b, c, e⟩ := h k hk h1
  exact ⟨j, a, b, ⟨c, fun z => h2 (by rw [← z]; exact e)⟩, e⟩
theorem covU_add {seen : Int → Int} {U t : Int} {T : Int → Prop} (ht : 0 ≤ t ∧ t < 8) (h : covU seen (bMin U (seen t)) T) : covU seen U (fun j => T j ∨ j = t) := by
  intro k hk hb
  by_cases hs : tbit (seen t) k
  · exact ⟨t, ht.1, ht.2, Or.inr rfl, hs⟩
  · obtain ⟨j, a, b, c, e⟩ := h k hk ((tbit_bMin hk).mpr ⟨hb, hs⟩)
    exact ⟨j, a, b, Or.inl c, e⟩
theorem mC_0 {seen : Int → Int} : mC seen 0 = 0 := by
  have hT : covU seen 0 (fun _ => False) := fun k _ hb => absurd hb (tbit_0 k)
  have h := mC_ex ⟨_, hT⟩
  have h1 := h.2 _ hT
  have h2 : cntI (fun _ : Int => False) 8 = 0 := by
    have := cntI_cut (P := fun _ => False) (n := 0) (m := 8) (by decide) (by decide) (fun j _ _ z => z)
    rw [this]
    rfl
  obtain ⟨T, -, e⟩ := h.1
  have := (cntI_b T (n := 8) (by decide)).1
  omega
set_option maxHeartbeats 2000000 in
theorem tf_run {q : QQ} {V : VV} (hs : ∀ t, 0 ≤ t ∧ t < 8 → R32 (V 14 0 t)) : ∀ (L d : Nat) (U : Int), L ≤ 8 → L ≤ d → R32 U → (∃ T, covU (V 14 0) U T) → RUN (d + 1) 23 (am_en 23 [aR 14 0, aI (iI U), aI (iI L)]) (HM q V) = rI (min ((L : Int) + 1) (mC (V 14 0) U)) (HM q V) := by
  intro L
  induction L using Nat.strongRecOn with
  | ind L ih =>
    intro d U hL8 hd hU hc
    rw [g_23_0 hU]
    refine cif_eq (fun c => ?_) (fun c => ?_)
    · rw [c, mC_0, Int.min_eq_right (by omega)]
    · obtain ⟨k0, k1, k2, k3, k4⟩ := low_bit hU c
      have hM := mC_ex hc
      have hM1 : 1 ≤ mC (V 14 0) U := by
        obtain ⟨T, t1, t2⟩ := hM.1
        obtain ⟨t, a, b, e, _⟩ := t1 k0 ⟨k1, k2⟩ k3
        have := cntI_del a b e
        have := (cntI_b (fun j => T j ∧ ¬ j = t) (n := 8) (by decide)).1
        omega
      have hcm : ∀ t, 0 ≤ t ∧ t < 8 → ∃ T, covU (V 14 0) (bMin U (V 14 0 t)) T := fun t ht => by
        obtain ⟨T, hT⟩ := hc
        exact ⟨_, covU_min (t := t) hT⟩
      have key : ∀ (n : Nat) (i b : Int), 8 - i ≤ n → 0 ≤ i → i ≤ 8 → 1 ≤ b → b ≤ L + 1 → min ((L : Int) + 1) (mC (V 14 0) U) ≤ b → (∀ t, 0 ≤ t ∧ t < i ∧ t < 8 → tbit (V 14 0 t) k0 → b ≤ 1 + mC (V 14 0) (bMin U (V 14 0 t))) →
          RUN (d + 1) 23 (19, [sR 14 0, sI U, sI L, sI b, sI (bAnd U (-U)), sI i], []) (HM q V) = rI (min ((L : Int) + 1) (mC (V 14 0) U)) (HM q V) := by
        intro n
        have fin : ∀ (i b : Int), 8 ≤ i → b ≤ L + 1 → min ((L : Int) + 1) (mC (V 14 0) U) ≤ b → (∀ t, 0 ≤ t ∧ t < i ∧ t < 8 → tbit (V 14 0 t) k0 → b ≤ 1 + mC (V 14 0) (bMin U (V 14 0 t))) → b = min ((L : Int) + 1) (mC (V 14 0) U) := by
          intro i b h1 h2 h3 h4
          obtain ⟨T, t1, t2⟩ := hM.1
          obtain ⟨t, a, b', e, f⟩ := t1 k0 ⟨k1, k2⟩ k3
          have g1 := h4 t ⟨a, by omega, b'⟩ f
          have g2 := (mC_ex (hcm t ⟨a, b'⟩)).2 _ (covU_min (t := t) t1)
          have g3 := cntI_del a b' e
          omega
        induction n with
        | zero =>
          intro i b h1 h2 h28 h3 h4 h5 h6
          rw [g_23_19 (by omega) (by omega) (fun h => by omega), cif_pos (by omega), fin i b (by omega) h4 h5 h6]
        | succ n ihn =>
          intro i b h1 h2 h28 h3 h4 h5 h6
          by_cases hi : 8 ≤ i
          · rw [g_23_19 (by omega) (by omega) (fun h => by omega), cif_pos (by omega), fin i b (by omega) h4 h5 h6]
          · rw [g_23_19 (by omega) (by omega) (fun _ _ => by omega), cif_neg hi]
            by_cases hb : b ≤ 1
            · rw [cif_pos hb]
              have : b = min ((L : Int) + 1) (mC (V 14 0) U) := by omega
              rw [← this]
            · rw [cif_neg hb]
              refine cif_eq (fun c2 => ?_) (fun c2 => ?_)
              · have nb := (and_low ⟨k1, k2⟩ k4).mp c2
                refine ihn (i + 1) b (by omega) (by omega) (by omega) h3 h4 h5 (fun t ht hbt => ?_)
                by_cases e : t = i
                · rw [e] at hbt; exact absurd hbt nb
                · exact h6 t (by omega) hbt
              · have nb : tbit (V 14 0 i) k0 := Classical.byContradiction fun z => c2 ((and_low ⟨k1, k2⟩ k4).mpr z)
                obtain ⟨L', hL'⟩ : ∃ L' : Nat, (L' : Int) = b - 2 := ⟨(b - 2).toNat, by omega⟩
                obtain ⟨d', rfl⟩ : ∃ d', d = d' + 1 := ⟨d - 1, by omega⟩
                have hrec0 := ih L' (by omega) d' (bMin U (V 14 0 i)) (by omega) (by omega) (bAnd_R _ _) (hcm i (by omega))
                rw [hL'] at hrec0
                have hrec : RUN (d' + 1) 23 (am_en 23 [aR 14 0, aI (iI (bAnd U (bXor (V 14 0 i) (-1)))), aI (iI (b - 2))]) (HM q V) = rI (min (b - 2 + 1) (mC (V 14 0) (bMin U (V 14 0 i)))) (HM q V) := hrec0
                have hmm := mC_ex (hcm i (by omega))
                have hm0 : 0 ≤ mC (V 14 0) (bMin U (V 14 0 i)) := by
                  obtain ⟨T, -, e⟩ := hmm.1
                  have := (cntI_b T (n := 8) (by decide)).1
                  omega
                have hm1 : mC (V 14 0) U ≤ 1 + mC (V 14 0) (bMin U (V 14 0 i)) := by
                  obtain ⟨T, t1, t2⟩ := hmm.1
                  have g1 := hM.2 _ (covU_add (t := i) (by omega) t1)
                  have g2 := cntI_add (P := T) (n := 8) (t := i) (by decide)
                  omega
                rw [g_23_55 hrec (qle_refl _) (by omega) (by omega)]
                refine ihn (i + 1) _ (by omega) (by omega) (by omega) (by omega) (by omega) (by omega) (fun t ht hbt => ?_)
                by_cases e : t = i
                · rw [e]; omega
                · have := h6 t (by omega) hbt
                  omega
      exact key 9 0 ((L : Int) + 1) (by omega) (by omega) (by omega) (by omega) (by omega) (by omega) (fun t ht => by omega)
