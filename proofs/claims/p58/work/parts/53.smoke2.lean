/-! the smokes: the two ways of reading -/
def smok (V : VV) : Prop := ∀ v, 0 ≤ v ∧ v < 16 → V 23 0 v = patT v
theorem gr_of {x : Int} (h : 0 ≤ x ∧ x < 256) : R32 (grW x) ∧ (grO x = 1 → nrD x ≤ 1 ∧ grL (bXor x (bShl 1 (grW x))) = nrV x) ∧ (¬ grO x = 1 → (grW x = 0 → nrD x ≤ 1 ∧ grL x = nrV x) ∧ (¬ grW x = 0 → ¬ nrD x ≤ 1)) := by
  have e : x = ((x.toNat : Nat) : Int) := by omega
  have := gr_all x.toNat (by omega)
  rw [← e] at this
  exact this
theorem s_50 {d : Nat} {q : QQ} {V : VV} {x1 : Int} (p : 0 ≤ x1 ∧ x1 < 256) : RUN (d + 2) 50 (am_en 50 [aR 22 0, aI (iI x1)]) (HM q V) = cif (nrD x1 ≤ 1) (rI (97 + nrV x1) (HM q V)) (rI (-1) (HM q V)) := by
  obtain ⟨w, a, b⟩ := gr_of p
  have e0 : RUN (d + 2) 50 (am_en 50 [aR 22 0, aI (iI x1)]) (HM q V) = cif (grO x1 = 1) (RUN (d + 2) 50 (44, [sR 22 0, sI x1, sI (grW x1), none, none, none], [aI (iI 1)]) (HM q V)) (RUN (d + 2) 50 (44, [sR 22 0, sI x1, sI (grW x1), none, none, none], [aI (iI 0)]) (HM q V)) := g_50_0 p
  rw [e0]
  refine cif_eq (fun c => ?_) (fun c => ?_)
  · obtain ⟨a1, a2⟩ := a c
    rw [g_50_44 p (by decide) w, cif_neg (by decide), g_50_55 p (by decide), cif_neg (by decide), g_50_68, cif_pos a1]
    exact congrArg (fun z => rI (97 + z) (HM q V)) a2
  · obtain ⟨b1, b2⟩ := b c
    rw [g_50_44 p (by decide) w, cif_pos rfl]
    refine cif_eq (fun c2 => ?_) (fun c2 => ?_)
    · obtain ⟨b3, b4⟩ := b1 c2
      rw [g_50_55 p (by decide), cif_pos rfl, g_50_68, cif_pos b3]
      exact congrArg (fun z => rI (97 + z) (HM q V)) b4
    · rw [cif_neg (b2 c2)]
theorem dN_nr {x v : Int} (h : 0 ≤ x ∧ x < 256) (hv : 0 ≤ v ∧ v < 16) (c : (dN x.toNat v.toNat : Int) ≤ 1) : nrD x ≤ 1 ∧ v = nrV x := by
  obtain ⟨h1, h2, h3⟩ := nr_all x.toNat (by omega)
  obtain ⟨h4, h5⟩ := h3 v.toNat (by omega)
  have := h5 (by omega)
  unfold nrD nrV
  omega
theorem s_51 {d : Nat} {q : QQ} {V : VV} {x1 : Int} (sm : smok V) (p : 0 ≤ x1 ∧ x1 < 256) : RUN (d + 1) 51 (am_en 51 [aR 22 0, aI (iI x1)]) (HM q V) = cif (nrD x1 ≤ 1) (rI (97 + nrV x1) (HM q V)) (rI (-1) (HM q V)) := by
  rw [g_51_0 p]
  rcases loop_find (fun i (_ : Unit) => RUN (d + 1) 51 (2, [sR 22 0, sI x1, sI i], []) (HM q V)) (fun v => (dN x1.toNat v.toNat : Int) ≤ 1) (fun i => rI (97 + i) (HM q V)) 0 16 (by
    intro i l h1 h2
    refine ⟨(), ?_⟩
    try dsimp only
    rw [g_51_2 p (by omega), cif_neg (by omega), sm i (by omega), popF_xor p (by omega)]
    refine cif_eq (fun c => ?_) (fun c => ?_)
    · rw [cif_neg (by omega)]
    · rw [cif_pos (by omega)]) (by omega) () with ⟨i, a1, a2, a3, a4, e⟩ | ⟨a1, _, e⟩
  · obtain ⟨b1, b2⟩ := dN_nr p (by omega) a3
    rw [cif_pos b1, ← b2]
    exact e
  · refine Eq.trans e ?_
    try dsimp only
    rw [g_51_2 p (by omega), cif_pos (by omega), cif_neg]
    intro z
    have hb := nrV_b p
    refine a1 (nrV x1) hb.1 hb.2 ?_
    unfold nrD at z
    unfold nrV
    rw [Int.toNat_natCast]
    exact z
/-- the smallest number of wrong smokes of the first letters -/
def minD (k : Nat) : Nat → Int
  | 0 => 8
  | i + 1 => min (minD k i) (dN k i)
theorem minD_all : ∀ k, k < 256 → minD k 16 = (dN k (nrS k 16) : Nat) := by decide +kernel
theorem minD_R (k i : Nat) : R32 (minD k i) := by
  have h : 0 ≤ minD k i ∧ minD k i ≤ 8 := by
    induction i with
    | zero => exact ⟨show (0 : Int) ≤ 8 by decide, show (8 : Int) ≤ 8 by decide⟩
    | succ i h =>
      unfold minD
      omega
  constructor <;> omega
theorem s_125 {d : Nat} {q : QQ} {V : VV} {x1 : Int} (sm : smok V) (p : 0 ≤ x1 ∧ x1 < 256) : RUN (d + 1) 125 (am_en 125 [aR 22 0, aI (iI x1)]) (HM q V) = rI (nrD x1) (HM q V) := by
  rw [g_125_0 p]
  obtain ⟨_, e⟩ := loop_to (fun i m (_ : Unit) => RUN (d + 1) 125 (5, [sR 22 0, sI x1, sI m, sI i], []) (HM q V)) (fun i => minD x1.toNat i.toNat) 0 16 (by
    intro i l h1 h2
    refine ⟨(), ?_⟩
    try dsimp only
    rw [g_125_5 p (by omega) (minD_R _ _), cif_neg (by omega), sm i (by omega), popF_xor p (by omega)]
    have : (i + 1).toNat = i.toNat + 1 := by omega
    rw [this]
    rfl) (by omega) ()
  try dsimp only at e
  refine Eq.trans e ?_
  rw [g_125_5 p (by omega) (minD_R _ _), cif_pos (by omega)]
  exact congrArg (fun z => rI z (HM q V)) (minD_all x1.toNat (by omega))
