/-! the smallest watch, both ways -/
abbrev seesV (V : VV) : Int → Int → Prop := seeP (V 3 0) (V 4 0) (V 5 0)
theorem seen_at {V : VV} {t : Int} (ht : 0 ≤ t ∧ t < 8) : lookV V 14 0 t = seenF (V 3 0) (V 4 0) (V 5 0) (V 2 0 8) t := by
  show (if 0 ≤ t ∧ t < 8 then seenF (V 3 0) (V 4 0) (V 5 0) (V 2 0 8) t else V 14 0 t) = _
  rw [if_pos ht]
theorem seen_bit {V : VV} {t k : Int} (ht : 0 ≤ t ∧ t < 8) (hk : 0 ≤ k ∧ k < 32) : tbit (lookV V 14 0 t) k ↔ t < V 2 0 8 ∧ seesV V t k := by
  rw [seen_at ht]
  unfold seenF
  by_cases h : t < V 2 0 8
  · rw [cif_pos h, tbit_maskI _ (by omega) hk]
    exact ⟨fun z => ⟨h, z.2⟩, fun z => ⟨hk.2, z.2⟩⟩
  · rw [cif_neg h]
    exact ⟨fun z => absurd z (tbit_0 k), fun z => absurd z.1 h⟩
theorem seen_R {V : VV} {t : Int} (ht : 0 ≤ t ∧ t < 8) : R32 (lookV V 14 0 t) := by
  rw [seen_at ht]
  unfold seenF
  by_cases h : t < V 2 0 8
  · rw [cif_pos h]; exact maskI_R _ _
  · rw [cif_neg h]; exact R32_0
theorem seen_or {V : VV} {x k : Int} (hn : 0 ≤ V 2 0 8 ∧ V 2 0 8 ≤ 8) (hk : 0 ≤ k ∧ k < 32) : tbit (orI (bitP x) (lookV V 14 0) 8) k ↔ ∃ t, 0 ≤ t ∧ t < V 2 0 8 ∧ tbit x t ∧ seesV V t k := by
  rw [tbit_orI _ _ (by decide)]
  constructor
  · rintro ⟨t, a, b, c, e⟩
    obtain ⟨e1, e2⟩ := (seen_bit ⟨a, b⟩ hk).mp e
    exact ⟨t, a, e1, (bitP_iff (by omega)).mp c, e2⟩
  · rintro ⟨t, a, b, c, e⟩
    exact ⟨t, a, by omega, (bitP_iff (by omega)).mpr c, (seen_bit ⟨a, by omega⟩ hk).mpr ⟨b, e⟩⟩
set_option maxRecDepth 100000 in
theorem shl1 {n : Int} (h : 0 ≤ n ∧ n ≤ 8) : bShl 1 n = ((2 ^ n.toNat : Nat) : Int) := by
  have key : ∀ m : Nat, m < 9 → bShl 1 (m : Int) = ((2 ^ m : Nat) : Int) := by decide +kernel
  obtain ⟨m, rfl⟩ : ∃ m : Nat, n = m := ⟨n.toNat, by omega⟩
  exact key m (by omega)
set_option maxRecDepth 100000 in
theorem all_bits {n t : Int} (h : 0 ≤ n ∧ n ≤ 8) (ht : 0 ≤ t ∧ t < n) : tbit (bShl 1 n - 1) t := by
  have key : ∀ m : Nat, m < 9 → ∀ j : Nat, j < m → (bv (bShl 1 (m : Int) - 1)).getLsbD j = true := by decide +kernel
  obtain ⟨m, rfl⟩ : ∃ m : Nat, n = m := ⟨n.toNat, by omega⟩
  obtain ⟨j, rfl⟩ : ∃ m : Nat, t = m := ⟨t.toNat, by omega⟩
  exact key m (by omega) j (by omega)
theorem wanted_iff {V : VV} {x : Int} (hn : 0 ≤ V 2 0 8 ∧ V 2 0 8 ≤ 8) : orI (bitP x) (lookV V 14 0) 8 = orI (bitP (bShl 1 (V 2 0 8) - 1)) (lookV V 14 0) 8 ↔ cov (V 2 0 8) (seesV V) (tbit x) := by
  constructor
  · intro e k hk ⟨t, a, b, c⟩
    have h1 := (seen_or hn hk).mpr ⟨t, a, b, all_bits hn ⟨a, b⟩, c⟩
    rw [← e] at h1
    exact (seen_or hn hk).mp h1
  · intro h
    refine tbit_ext (orI_R _ _ _) (orI_R _ _ _) fun k hk => ?_
    rw [seen_or hn hk, seen_or hn hk]
    constructor
    · rintro ⟨t, a, b, c, e⟩
      exact ⟨t, a, b, all_bits hn ⟨a, b⟩, e⟩
    · rintro ⟨t, a, b, c, e⟩
      exact h k hk ⟨t, a, b, e⟩
theorem cov_congr {n : Int} {S : Int → Int → Prop} {T U : Int → Prop} (h : ∀ t, 0 ≤ t → t < n → (T t ↔ U t)) : cov n S T ↔ cov n S U := by
  constructor
  · intro c k hk hx
    obtain ⟨t, a, b, e, f⟩ := c k hk hx
    exact ⟨t, a, b, (h t a b).mp e, f⟩
  · intro c k hk hx
    obtain ⟨t, a, b, e, f⟩ := c k hk hx
    exact ⟨t, a, b, (h t a b).mpr e, f⟩
/-- each set of towers has its mask -/
theorem mask_of {n : Int} (hn : 0 ≤ n ∧ n ≤ 8) (T : Int → Prop) : ∃ x : Int, 0 ≤ x ∧ x < bShl 1 n ∧ popF x = cntI T n ∧ ∀ t, 0 ≤ t → t < n → (tbit x t ↔ T t) := by
  obtain ⟨m, rfl⟩ : ∃ m : Nat, n = m := ⟨n.toNat, by omega⟩
  obtain ⟨x, h1, h2⟩ := mask_ex T m
  have h256 : 2 ^ m ≤ 2 ^ 8 := Nat.pow_le_pow_right (by decide) (by omega)
  have hb : ∀ t : Int, 0 ≤ t → t < m → (tbit (x : Int) t ↔ T t) := fun t a b => by
    obtain ⟨j, rfl⟩ : ∃ m : Nat, t = m := ⟨t.toNat, by omega⟩
    rw [tbit_nat (by omega)]
    exact h2 j (by omega)
  refine ⟨x, by omega, ?_, ?_, hb⟩
  · rw [shl1 hn]
    exact Int.ofNat_lt.mpr h1
  · rw [popF_low h1 (by omega)]
    exact cntI_congr hb
theorem pop_of {n x : Int} (hn : 0 ≤ n ∧ n ≤ 8) (hx : 0 ≤ x ∧ x < bShl 1 n) : popF x = cntI (tbit x) n := by
  rw [shl1 hn] at hx
  obtain ⟨m, rfl⟩ : ∃ m : Nat, n = m := ⟨n.toNat, by omega⟩
  obtain ⟨y, rfl⟩ : ∃ m : Nat, x = m := ⟨x.toNat, by omega⟩
  exact popF_low (Int.ofNat_lt.mp hx.2) (by omega)
theorem cov_all {n : Int} {S : Int → Int → Prop} : cov n S (fun _ => True) := fun _ _ ⟨t, a, b, c⟩ => ⟨t, a, b, trivial, c⟩
set_option maxHeartbeats 1000000 in
theorem s_14 {d : Nat} {q : QQ} {V : VV} (rk : rowok V) : RUN (d + 4) 14 (am_en 14 [aR 13 0]) (HM q V) = rI (watchN (V 2 0 8) (seesV V)) (HM q (lookV V)) := by
  have hn := rk_n rk
  have hs := shl1 hn
  have h256 : 2 ^ (V 2 0 8).toNat ≤ 2 ^ 8 := Nat.pow_le_pow_right (by decide) (by omega)
  have hs2 : 0 ≤ bShl 1 (V 2 0 8) ∧ bShl 1 (V 2 0 8) < 257 := by
    rw [hs]
    revert h256
    generalize 2 ^ (V 2 0 8).toNat = p
    intro h
    omega
  have hR := orI_R (bitP (bShl 1 (V 2 0 8) - 1)) (lookV V 14 0) 8
  rw [g_14_0 rk]
  have inner : ∀ i, 0 ≤ i → i < V 2 0 8 → (∃ x, 0 ≤ x ∧ x < bShl 1 (V 2 0 8) ∧ popF x = i ∧ cov (V 2 0 8) (seesV V) (tbit x)) ∧ RUN (d + 4) 14 (38, [sR 13 0, sI (bShl 1 (V 2 0 8)), sI (orI (bitP (bShl 1 (V 2 0 8) - 1)) (lookV V 14 0) 8), sI i, sI 0], []) (HM q (lookV V)) = rI i (HM q (lookV V)) ∨
      (∀ x, 0 ≤ x → x < bShl 1 (V 2 0 8) → ¬ (popF x = i ∧ cov (V 2 0 8) (seesV V) (tbit x))) ∧ RUN (d + 4) 14 (38, [sR 13 0, sI (bShl 1 (V 2 0 8)), sI (orI (bitP (bShl 1 (V 2 0 8) - 1)) (lookV V 14 0) 8), sI i, sI 0], []) (HM q (lookV V)) = RUN (d + 4) 14 (24, [sR 13 0, sI (bShl 1 (V 2 0 8)), sI (orI (bitP (bShl 1 (V 2 0 8) - 1)) (lookV V 14 0) 8), sI (i + 1), sI (bShl 1 (V 2 0 8))], []) (HM q (lookV V)) := by
    intro i hi hi2
    rcases loop_find (fun x (_ : Unit) => RUN (d + 4) 14 (38, [sR 13 0, sI (bShl 1 (V 2 0 8)), sI (orI (bitP (bShl 1 (V 2 0 8) - 1)) (lookV V 14 0) 8), sI i, sI x], []) (HM q (lookV V))) (fun x => popF x = i ∧ cov (V 2 0 8) (seesV V) (tbit x)) (fun _ => rI i (HM q (lookV V))) 0 (bShl 1 (V 2 0 8)) (by
      intro x l h1 h2
      refine ⟨(), ?_⟩
      try dsimp only
      rw [g_14_38 (V := lookV V) rk (by omega) (by omega) (by omega) hR, cif_neg (by omega)]
      refine cif_eq (fun c => ?_) (fun c => ?_)
      · refine cif_eq (fun c2 => ?_) (fun c2 => ?_)
        · rw [cif_pos ⟨c, (wanted_iff hn).mp c2⟩]
        · rw [cif_neg (fun z => c2 ((wanted_iff hn).mpr z.2))]
      · rw [cif_neg (fun z => c z.1)]) (by omega) () with ⟨x, a1, a2, a3, a4, e⟩ | ⟨a1, _, e⟩
    · exact Or.inl ⟨⟨x, a1, a2, a3⟩, e⟩
    · refine Or.inr ⟨a1, Eq.trans e ?_⟩
      try dsimp only
      rw [g_14_38 (V := lookV V) rk (by omega) (by omega) (by omega) hR, cif_pos (Int.le_refl _)]
  rcases loop_find (fun i l => RUN (d + 4) 14 (24, [sR 13 0, sI (bShl 1 (V 2 0 8)), sI (orI (bitP (bShl 1 (V 2 0 8) - 1)) (lookV V 14 0) 8), sI i, l], []) (HM q (lookV V))) (fun i => ∃ x, 0 ≤ x ∧ x < bShl 1 (V 2 0 8) ∧ popF x = i ∧ cov (V 2 0 8) (seesV V) (tbit x)) (fun i => rI i (HM q (lookV V))) 0 (V 2 0 8) (by
    intro i l h1 h2
    refine ⟨sI (bShl 1 (V 2 0 8)), ?_⟩
    try dsimp only
    rw [g_14_24 (V := lookV V) rk (by omega) (by omega) (by exact ⟨hR.1, by omega⟩)]
    refine (cif_neg (show ¬ V 2 0 8 ≤ i by omega)).trans ?_
    rcases inner i h1 h2 with ⟨b1, b2⟩ | ⟨b1, b2⟩
    · rw [cif_pos b1]
      exact b2
    · rw [cif_neg (fun ⟨x, c1, c2, c3, c4⟩ => b1 x c1 c2 ⟨c3, c4⟩)]
      exact b2) hn.1 none with ⟨i, a1, a2, ⟨x, a3, a5, a6, a7⟩, a4, e⟩ | ⟨a1, l', e⟩
  · refine Eq.trans e ?_
    try dsimp only
    have hw : isWatch (V 2 0 8) (seesV V) i := by
      refine ⟨⟨tbit x, a7, ?_⟩, fun T hT => ?_⟩
      · rw [← pop_of hn ⟨a3, a5⟩]
        exact a6
      · obtain ⟨y, y1, y2, y3, y4⟩ := mask_of hn T
        refine Int.not_lt.mp fun hlt => a4 (cntI T (V 2 0 8)) (cntI_b T hn.1).1 hlt ⟨y, y1, y2, y3, ?_⟩
        exact (cov_congr y4).mpr hT
    rw [watchN_eq hw]
  · refine Eq.trans e ?_
    try dsimp only
    rw [g_14_24 (V := lookV V) rk (by omega) (by omega) (by exact ⟨hR.1, by omega⟩)]
    refine (cif_pos (Int.le_refl _)).trans ?_
    have hw : isWatch (V 2 0 8) (seesV V) (V 2 0 8) := by
      refine ⟨⟨_, cov_all, cntI_true hn.1 (fun _ _ _ => trivial)⟩, fun T hT => ?_⟩
      obtain ⟨y, y1, y2, y3, y4⟩ := mask_of hn T
      exact Int.not_lt.mp fun hlt => a1 (cntI T (V 2 0 8)) (cntI_b T hn.1).1 hlt ⟨y, y1, y2, y3, (cov_congr y4).mpr hT⟩
    rw [watchN_eq hw]
    rfl
theorem s_22 {d : Nat} {q : QQ} {V : VV} (rk : rowok V) : RUN (d + 10) 22 (am_en 22 [aR 13 0]) (HM q V) = rI (watchN (V 2 0 8) (seesV V)) (HM q (lookV V)) := by
  have hn := rk_n rk
  have hcv : covU (lookV V 14 0) (orI (bitP (bShl 1 (V 2 0 8) - 1)) (lookV V 14 0) 8) (fun t => t < V 2 0 8) := by
    intro k hk hb
    obtain ⟨t, a, b, -, c⟩ := (seen_or hn hk).mp hb
    exact ⟨t, a, by omega, b, (seen_bit ⟨a, by omega⟩ hk).mpr ⟨b, c⟩⟩
  have hr := tf_run (q := q) (V := lookV V) (fun t ht => seen_R ht) (V 2 0 8).toNat (d + 8) (orI (bitP (bShl 1 (V 2 0 8) - 1)) (lookV V 14 0) 8) (by omega) (by omega) (orI_R _ _ _) ⟨_, hcv⟩
  rw [show ((V 2 0 8).toNat : Int) = V 2 0 8 by omega] at hr
  rw [g_22_0 rk, g_22_30 (V := lookV V) rk hr (qle_refl _)]
  have hM := mC_ex ⟨_, hcv⟩
  have hcut : ∀ T, covU (lookV V 14 0) (orI (bitP (bShl 1 (V 2 0 8) - 1)) (lookV V 14 0) 8) T → cov (V 2 0 8) (seesV V) T := by
    intro T hT k hk ⟨t, a, b, c⟩
    obtain ⟨t', e1, e2, e3, e4⟩ := hT k hk ((seen_or hn hk).mpr ⟨t, a, b, all_bits hn ⟨a, b⟩, c⟩)
    obtain ⟨f1, f2⟩ := (seen_bit ⟨e1, e2⟩ hk).mp e4
    exact ⟨t', e1, f1, e3, f2⟩
  have hcvr : ∀ T, cov (V 2 0 8) (seesV V) T → covU (lookV V 14 0) (orI (bitP (bShl 1 (V 2 0 8) - 1)) (lookV V 14 0) 8) (fun t => T t ∧ t < V 2 0 8) := by
    intro T hT k hk hb
    obtain ⟨t, a, b, -, c⟩ := (seen_or hn hk).mp hb
    obtain ⟨t', e1, e2, e3, e4⟩ := hT k hk ⟨t, a, b, c⟩
    exact ⟨t', e1, by omega, ⟨e3, e2⟩, (seen_bit ⟨e1, by omega⟩ hk).mpr ⟨e2, e4⟩⟩
  have hc8 : ∀ T : Int → Prop, cntI (fun t => T t ∧ t < V 2 0 8) 8 = cntI T (V 2 0 8) := by
    intro T
    rw [cntI_cut hn.1 hn.2 (fun j a b z => by omega)]
    exact cntI_congr fun j a b => ⟨fun z => z.1, fun z => ⟨z, b⟩⟩
  have hw : isWatch (V 2 0 8) (seesV V) (mC (lookV V 14 0) (orI (bitP (bShl 1 (V 2 0 8) - 1)) (lookV V 14 0) 8)) := by
    refine ⟨?_, fun T hT => ?_⟩
    · obtain ⟨T, t1, t2⟩ := hM.1
      have h1 := hcut T t1
      have h2 := hM.2 _ (hcvr T h1)
      have h3 : cntI (fun t => T t ∧ t < V 2 0 8) 8 ≤ cntI T 8 := cntI_mono fun _ _ _ z => z.1
      refine ⟨T, h1, ?_⟩
      rw [hc8] at h2 h3
      omega
    · rw [← hc8]
      exact hM.2 _ (hcvr T hT)
  have hle := hw.2 _ cov_all
  rw [cntI_true hn.1 (fun _ _ _ => trivial)] at hle
  rw [watchN_eq hw, Int.min_eq_right (by omega)]
