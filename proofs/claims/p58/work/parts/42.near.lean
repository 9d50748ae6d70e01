/-! the nearest tower -/
noncomputable def nearT (c : Int → Int) (s n : Int) : Int := (nearN c s n.toNat).1
theorem nearT_b {V : VV} (rk : rowok V) (rl : relok V) (s : Int) : 0 ≤ nearT (V 20 0) s (V 2 0 8) ∧ nearT (V 20 0) s (V 2 0 8) < 8 := by
  have hn := rk_n rk
  exact (nearN_is (s := s) (fun t ht => rl_20 rl ht) (V 2 0 8).toNat (by omega)).1
theorem s_47 {d : Nat} {q : QQ} {V : VV} {x1 : Int} (rk : rowok V) (rl : relok V) : RUN d 47 (am_en 47 [aR 15 0, aI (iI x1)]) (HM q V) = rI (nearT (V 20 0) x1 (V 2 0 8)) (HM q V) := by
  have hn := rk_n rk
  rw [g2_47_0 rk rl]
  obtain ⟨_, e⟩ := loop_to (fun i s (_ : Unit) => RUN d 47 (8, [sR 15 0, sI x1, sI s.1, sI s.2, sI i], []) (HM q V)) (fun i => nearN (V 20 0) x1 i.toNat) 0 (V 2 0 8) (by
    intro i l h1 h2
    refine ⟨(), ?_⟩
    try dsimp only
    obtain ⟨b1, b2, -⟩ := nearN_is (c := V 20 0) (s := x1) (fun t ht => rl_20 rl ht) i.toNat (by omega)
    obtain ⟨k, rfl⟩ : ∃ k : Nat, i = k := ⟨i.toNat, by omega⟩
    rw [show ((k : Int)).toNat = k from rfl] at b1 b2 ⊢
    rw [g2_47_8 rk rl (by omega) b1 (by omega), cif_neg (by omega), show ((k : Int) + 1).toNat = k + 1 from by omega]
    show _ = RUN d 47 (8, [sR 15 0, sI x1, sI (cif (bAnd (bShr x1 k) 1 = 0 ∧ V 20 0 k < (nearN (V 20 0) x1 k).2) ((k : Int), V 20 0 k) (nearN (V 20 0) x1 k)).1, sI (cif (bAnd (bShr x1 k) 1 = 0 ∧ V 20 0 k < (nearN (V 20 0) x1 k).2) ((k : Int), V 20 0 k) (nearN (V 20 0) x1 k)).2, sI ((k : Int) + 1)], []) (HM q V)
    refine cif_eq (fun c => ?_) (fun c => ?_)
    · refine cif_eq (fun c2 => ?_) (fun c2 => ?_)
      · rw [cif_neg (fun z => by omega)]
      · rw [cif_pos ⟨c, by omega⟩]
    · rw [cif_neg (fun z => c z.1)]) hn.1 ()
  refine Eq.trans e ?_
  obtain ⟨b1, b2, -⟩ := nearN_is (c := V 20 0) (s := x1) (fun t ht => rl_20 rl ht) (V 2 0 8).toNat (by omega)
  try dsimp only
  rw [g2_47_8 rk rl (by omega) b1 (by omega)]
  exact cif_pos (Int.le_refl _)
