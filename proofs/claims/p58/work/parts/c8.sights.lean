/-! what the law sees: towers, positions, watches -/
theorem bOr_0 {a : Int} (h : R32 a) : bOr a 0 = a := by
  refine tbit_ext ⟨Int32.le_toInt _, Int32.toInt_lt _⟩ h (fun k _ => ?_)
  rw [tbit_or]
  exact ⟨fun z => z.resolve_right (tbit_0 k), Or.inl⟩
noncomputable def seenM (V : VV) (t k : Int) : Int := maskI (sawBy (V 3 0) (V 4 0) (V 5 0) k) t
noncomputable def seenC (V : VV) (t j : Int) : Int := cif (0 ≤ j ∧ j < 32) (seenM V t j) 0
noncomputable def seenG (V : VV) (t k j : Int) : Int := cif (0 ≤ j ∧ j < k) (seenM V (t + 1) j) (seenC V t j)
theorem seenG_0 {V : VV} {t : Int} : seenG V t 0 = seenC V t := by
  funext j
  exact cif_neg (by omega)
theorem seenG_32 {V : VV} {t : Int} : seenG V t 32 = seenC V (t + 1) := by
  funext j
  unfold seenG seenC
  by_cases c : 0 ≤ j ∧ j < 32
  · rw [cif_pos c, cif_pos c]
  · rw [cif_neg c, cif_neg c, cif_neg c]
theorem seenC_0 {V : VV} : seenC V 0 = fun _ => 0 := by
  funext j
  unfold seenC
  by_cases c : 0 ≤ j ∧ j < 32
  · rw [cif_pos c]; rfl
  · rw [cif_neg c]
theorem seenG_at {V : VV} {t k : Int} (h : 0 ≤ k ∧ k < 32) : seenG V t k k = seenM V t k := by
  unfold seenG seenC
  rw [cif_neg (by omega), cif_pos h]
theorem set46_up {V : VV} {b : Nat} {f g : Int → Int} {e v : Int} (h : ∀ j, (if j = e then v else f j) = g j) : upV (setA V 46 b f) 46 b e v = setA V 46 b g := by
  funext a' b' j
  show cond (Nat.beq a' 46 && Nat.beq b' b) (if j = e then v else cond (Nat.beq a' 46 && Nat.beq b' b) (f j) (V a' b' j)) (cond (Nat.beq a' 46 && Nat.beq b' b) (f j) (V a' b' j)) = cond (Nat.beq a' 46 && Nat.beq b' b) (g j) (V a' b' j)
  cases Nat.beq a' 46 && Nat.beq b' b with
  | false => rfl
  | true => exact h j
theorem seenG_up {V : VV} {b : Nat} {t k : Int} (ht : 0 ≤ t) (hk : 0 ≤ k ∧ k < 32) : upV (setA V 46 b (seenG V t k)) 46 b k (bOr (seenM V t k) (cif (seeP (V 3 0) (V 4 0) (V 5 0) t k) (bShl 1 t) 0)) = setA V 46 b (seenG V t (k + 1)) := by
  refine set46_up fun j => ?_
  by_cases c : j = k
  · subst c
    rw [if_pos rfl]
    unfold seenG
    rw [cif_pos (show 0 ≤ j ∧ j < j + 1 by omega)]
    show bOr (seenM V t j) _ = maskI (sawBy (V 3 0) (V 4 0) (V 5 0) j) (t + 1)
    rw [maskI_succ _ ht]
    by_cases z : seeP (V 3 0) (V 4 0) (V 5 0) t j
    · rw [cif_pos z]
      exact (cif_pos z).symm
    · rw [cif_neg z, bOr_0 (show R32 (seenM V t j) from maskI_R _ _)]
      exact (cif_neg z).symm
  · rw [if_neg c]
    unfold seenG
    by_cases z : 0 ≤ j ∧ j < k
    · rw [cif_pos z, cif_pos (by omega)]
    · rw [cif_neg z, cif_neg (by omega)]
section
variable {d b : Nat} {q : QQ} {V : VV}
theorem si_go (lw : LW V) (hs : q.1.2.2 b = some (Sum.inl (0, 32, fun _ => aN))) {t N : Int} (ht : 0 ≤ t ∧ t < V 2 0 8) (l7 l8 : Option AV) :
    ∃ l7', RUN (d + 12) 314 (30, [sR 1 0, sI N, sR 46 b, sI t, sI (V 4 0 t), sI 0, sI 0, l7, l8], []) (HM q (setA V 46 b (seenC V t))) =
      RUN (d + 12) 314 (30, [sR 1 0, sI N, sR 46 b, sI t, sI (V 4 0 t), sI (cntI (seeP (V 3 0) (V 4 0) (V 5 0) t) 32), sI 32, l7', l8], []) (HM q (setA V 46 b (seenC V (t + 1)))) := by
  have hn := rk_n lw.1
  have h4 := rk_4 lw.1 (j := t) (by omega)
  have h18 := eyeV_b lw.1 (t := t) (by omega)
  have key := loop_to (fun (i : Int) (s : Int × VV) (l : Option AV) => RUN (d + 12) 314 (30, [sR 1 0, sI N, sR 46 b, sI t, sI (V 4 0 t), sI s.1, sI i, l, l8], []) (HM q s.2)) (fun i => (cntI (seeP (V 3 0) (V 4 0) (V 5 0) t) i, setA V 46 b (seenG V t i))) 0 32 (by
    intro i l h1 h2
    have lwW : LW (setA V 46 b (seenG V t i)) := lw.of_kp (kp_46 (n0 := b) lw (Nat.le_refl _))
    refine ⟨sI (b2i (seeP (V 3 0) (V 4 0) (V 5 0) t i)), ?_⟩
    show RUN (d + 12) 314 (30, [sR 1 0, sI N, sR 46 b, sI t, sI (V 4 0 t), sI (cntI (seeP (V 3 0) (V 4 0) (V 5 0) t) i), sI i, l, l8], []) (HM q (setA V 46 b (seenG V t i))) = RUN (d + 12) 314 (30, [sR 1 0, sI N, sR 46 b, sI t, sI (V 4 0 t), sI (cntI (seeP (V 3 0) (V 4 0) (V 5 0) t) (i + 1)), sI (i + 1), sI (b2i (seeP (V 3 0) (V 4 0) (V 5 0) t i)), l8], []) (HM q (setA V 46 b (seenG V t (i + 1))))
    rw [cntI_succ _ h1, ← seenG_up (b := b) ht.1 ⟨h1, h2⟩]
    have e46 : setA V 46 b (seenG V t i) 46 b i = seenM V t i := by
      rw [set46_at, seenG_at ⟨h1, h2⟩]
    refine Eq.trans (g_314_30 (V := setA V 46 b (seenG V t i)) hs lwW.1 lwW.2.2.1 (by omega) (fun _ => ht) (fun _ => ⟨h1, h2⟩) (fun _ => by omega) (fun _ => ⟨h18.1, Int.lt_of_le_of_lt h18.2 (by decide)⟩)) ?_
    refine Eq.trans (cif_neg (by omega)) ?_
    by_cases c : seeP (V 3 0) (V 4 0) (V 5 0) t i
    · refine Eq.trans (cif_pos c) ?_
      refine Eq.trans (g_314_70 (V := setA V 46 b (seenG V t i)) hs lwW.1 lwW.2.2.1 ⟨h1, h2⟩ (b2i_R _)) ?_
      refine Eq.trans (cif_neg (fun z => b2i_z.mp z c)) ?_
      refine Eq.trans (g_314_90 (V := setA V 46 b (seenG V t i)) hs lwW.1 lwW.2.2.1 ⟨h1, h2⟩ ht ⟨h1, h2⟩ (b2i_R _)) ?_
      refine Eq.trans (cif_neg (fun z => b2i_z.mp z c)) ?_
      refine Eq.trans (cif_pos (b2i_pos c)) ?_
      rw [e46, cif_pos c, show cntI (seeP (V 3 0) (V 4 0) (V 5 0) t) i + b2i (seeP (V 3 0) (V 4 0) (V 5 0) t i) = cntI (seeP (V 3 0) (V 4 0) (V 5 0) t) i + 1 from congrArg (fun z => cntI (seeP (V 3 0) (V 4 0) (V 5 0) t) i + z) (b2i_pos c)]
      rfl
    · refine Eq.trans (cif_neg c) ?_
      refine Eq.trans (g_314_70 (V := setA V 46 b (seenG V t i)) hs lwW.1 lwW.2.2.1 ⟨h1, h2⟩ (b2i_R _)) ?_
      refine Eq.trans (cif_pos (b2i_neg c)) ?_
      refine Eq.trans (g_314_90 (V := setA V 46 b (seenG V t i)) hs lwW.1 lwW.2.2.1 ⟨h1, h2⟩ ht ⟨h1, h2⟩ (b2i_R _)) ?_
      refine Eq.trans (cif_pos (b2i_neg c)) ?_
      refine Eq.trans (cif_pos (b2i_neg c)) ?_
      rw [e46, cif_neg c, show cntI (seeP (V 3 0) (V 4 0) (V 5 0) t) i + b2i (seeP (V 3 0) (V 4 0) (V 5 0) t i) = cntI (seeP (V 3 0) (V 4 0) (V 5 0) t) i + 0 from congrArg (fun z => cntI (seeP (V 3 0) (V 4 0) (V 5 0) t) i + z) (b2i_neg c)]
      rfl) (by decide) l7
  obtain ⟨l', e⟩ := key
  refine ⟨l', ?_⟩
  have e' : RUN (d + 12) 314 (30, [sR 1 0, sI N, sR 46 b, sI t, sI (V 4 0 t), sI (cntI (seeP (V 3 0) (V 4 0) (V 5 0) t) 0), sI 0, l7, l8], []) (HM q (setA V 46 b (seenG V t 0))) = RUN (d + 12) 314 (30, [sR 1 0, sI N, sR 46 b, sI t, sI (V 4 0 t), sI (cntI (seeP (V 3 0) (V 4 0) (V 5 0) t) 32), sI 32, l', l8], []) (HM q (setA V 46 b (seenG V t 32))) := e
  rw [seenG_0, seenG_32] at e'
  exact e'
end
