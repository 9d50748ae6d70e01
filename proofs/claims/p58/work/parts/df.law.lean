/-! the law holds: from its start to its end -/
theorem LQ_0 : LQ 100 Z2 := by
  have z : ∀ a b, 2 ≤ a → ¬ a = 23 → ¬ a = 46 → ∀ j, Z2 a b j = 0 := z2
  refine ⟨⟨⟨?_, ?_, ?_, ?_, ?_, ?_, ?_, ?_, ?_, ?_⟩, ?_, ?_⟩, ?_, ⟨?_, ?_⟩, ⟨?_, ?_, ?_⟩, ?_, ⟨?_, ?_, ?_, ?_, ?_⟩⟩
  · rw [z 2 0 (by decide) (by decide) (by decide)]; decide
  · rw [z 2 0 (by decide) (by decide) (by decide)]; decide
  · intro j _; rw [z 3 0 (by decide) (by decide) (by decide)]; decide
  · intro j _; rw [z 4 0 (by decide) (by decide) (by decide)]; decide
  · intro j _; rw [z 5 0 (by decide) (by decide) (by decide)]; decide
  · intro j _; rw [z 6 0 (by decide) (by decide) (by decide)]; decide
  · intro j _; rw [z 7 0 (by decide) (by decide) (by decide)]; decide
  · intro j _; rw [z 8 0 (by decide) (by decide) (by decide)]; decide
  · intro j _; rw [z 9 0 (by decide) (by decide) (by decide)]; decide
  · intro j _; rw [z 10 0 (by decide) (by decide) (by decide)]; decide
  · intro a b ha
    rw [z 2 0 (by decide) (by decide) (by decide)] at ha
    omega
  · intro t _ _
    exact ⟨z 7 0 (by decide) (by decide) (by decide) t, z 8 0 (by decide) (by decide) (by decide) t⟩
  · intro v hv
    show (if 0 ≤ v ∧ v < 16 then patT v else 0) = patT v
    rw [if_pos hv]
  · rw [z 11 0 (by decide) (by decide) (by decide)]; decide
  · rw [z 11 0 (by decide) (by decide) (by decide)]; decide
  · intro i j _ _; rw [z 17 _ (by decide) (by decide) (by decide)]; decide
  · intro i j _ _; rw [z 19 _ (by decide) (by decide) (by decide)]; decide
  · intro j _; rw [z 20 0 (by decide) (by decide) (by decide)]; decide
  · unfold outok
    rw [z 31 0 (by decide) (by decide) (by decide)]; decide
  · rw [z 27 0 (by decide) (by decide) (by decide)]; decide
  · rw [z 27 0 (by decide) (by decide) (by decide)]; decide
  · rw [z 27 0 (by decide) (by decide) (by decide)]; decide
  · rw [z 27 0 (by decide) (by decide) (by decide)]; decide
  · intro j _; rw [z 28 0 (by decide) (by decide) (by decide)]; decide
theorem XQ_0 : XQ Z2 := by
  refine ⟨fun j _ => ?_, fun t ht => ?_⟩
  · rw [z2 9 0 (by decide) (by decide) (by decide)]; decide
  · rw [z2 2 0 (by decide) (by decide) (by decide)] at ht
    omega
section
variable {L : Nat} {xs : Nat → Int32} {J : (Nat → Nat → Nat → Int64) × (Nat → Nat → Nat → UInt64)} {sl d : Nat}
theorem s_308 (hL : L ≤ 2048) : ∃ (s : Nat) (q' : QQ) (W : VV), (sl ≤ s ∧ s ≤ sl + 40015) ∧ RUN (d + 7) 308 (am_en 308 [aR 0 0]) (CH L xs J oE 0 sl Z0) = some (Sum.inl (some (aR 1 0)), HM q' W) ∧ adv 39 234 136 ((L, xo xs), (136, s), J) q' ∧ LQ 280 W ∧ XQ W ∧ 1 ≤ W 2 0 8 := by
  obtain ⟨s, a1, b1, e1⟩ := ct_0 (L := L) (xs := xs) (J := J) (sl := sl + 15) (d := d)
  obtain ⟨q', W, e2, a2, l2, x2, n2⟩ := dr_all (d := d) (q := ((L, xo xs), (136, s), J)) (V := Z2) LQ_0 XQ_0 (z2 2 0 (by decide) (by decide) (by decide) 8) (z2 2 0 (by decide) (by decide) (by decide) 9) (by show L < 2147483648; omega)
  refine ⟨s, q', W, by omega, ?_, a2, l2, x2, n2⟩
  refine (show RUN (d + 7) 308 (0, [sR 0 0, none, none, none, none, none, none, none], []) _ = _ from Eq.trans (kc_new (N := 15) rfl (show am_al 0 = (1, 0) from rfl) (fun _ => rfl)) (Eq.trans (k_dupR rfl) (Eq.trans (RUN_cG rfl rfl rfl e1 (by show 1 ≤ 136; decide) (by show sl + 15 ≤ s; omega)) (Eq.trans (k_astore rfl) ?_))))
  refine Eq.trans ?_ e2
  exact congrArg (RUN (d + 7) 308 (8, [sR 0 0, sR 1 0, none, none, none, none, none, none], [])) CH_all
/-- the law holds: it ends, and answers 1 -/
theorem law_all (hL : L ≤ 2048) : ∃ (q : QQ) (V : VV), (q.2.1.1 ≤ 300000 ∧ q.2.1.2 ≤ sl + 2000000) ∧ RUN (d + 16) 399 (am_en 399 [aR 0 0]) (CH L xs J oE 0 sl Z0) = rI 1 (HM q V) := by
  obtain ⟨s, q0, V0, hs, e0, a0, l0, x0, n0⟩ := s_308 (L := L) (xs := xs) (J := J) (sl := sl) (d := d + 8) hL
  have ca0 := a0.2.2.1
  have cb0 := a0.2.2.2
  dsimp only at ca0 cb0
  have lw0 := l0.lw (by decide)
  obtain ⟨q1, V1, e1, a1, k1⟩ := s_314 (d := d + 3) lw0 (by omega) ca0.1
  have ca1 := a1.2.2.1
  have cb1 := a1.2.2.2
  have lw1 := lw0.of_kp k1
  have n1 : V1 2 0 8 = V0 2 0 8 := by rw [k1.1 2 (by decide) (by decide)]
  obtain ⟨q2, V2, e2, a2, k2⟩ := s_328 (d := d + 2) (n0 := 136) lw1 (by omega) (q := q1)
  have ca2 := a2.2.2.1
  have cb2 := a2.2.2.2
  have lw2 := lw1.of_kp k2
  have n2 : V2 2 0 8 = V0 2 0 8 := by rw [k2.1 2 (by decide) (by decide), n1]
  obtain ⟨q3, V3, e3, a3, k3⟩ := s_336 (d := d + 9) (n0 := 136) lw2 (by omega) (q := q2)
  have ca3 := a3.2.2.1
  have cb3 := a3.2.2.2
  have lw3 := lw2.of_kp k3
  have n3 : V3 2 0 8 = V0 2 0 8 := by rw [k3.1 2 (by decide) (by decide), n2]
  obtain ⟨q4, V4, e4, a4, k4⟩ := s_348 (d := d + 11) lw3 (q := q3) (by omega)
  have ca4 := a4.2.2.1
  have cb4 := a4.2.2.2
  have lw4 := lw3.of_kp k4
  have n4 : V4 2 0 8 = V0 2 0 8 := by rw [k4.1 2 (by decide) (by decide), n3]
  have sm4 : same V0 V4 := fun x z1 z2 => by rw [k4.1 x z1 z2, k3.1 x z1 z2, k2.1 x z1 z2, k1.1 x z1 z2]
  obtain ⟨q5, V5, e5, a5, k5⟩ := s_350 (d := d + 8) lw4 (x0.of_same sm4) (by omega) (q := q4) (by omega)
  have ca5 := a5.2.2.1
  have cb5 := a5.2.2.2
  have l5 : LQ 280 V5 := ((((l0.of_kp k1).of_kp k2).of_kp k3).of_kp k4).of_kp k5
  have L5 : q5.1.1 = L := by rw [a5.1.1, a4.1.1, a3.1.1, a2.1.1, a1.1.1, a0.1.1]
  obtain ⟨q6, V6, e6, a6⟩ := s_392 (d := d) l5 (by decide) (q := q5) (by omega) (by omega)
  have ca6 := a6.2.2.1
  have cb6 := a6.2.2.2
  refine ⟨q6, V6, ⟨by omega, by omega⟩, ?_⟩
  refine (show RUN (d + 16) 399 (0, [sR 0 0, none], []) _ = _ from Eq.trans (k_aload rfl rfl) (Eq.trans (RUN_cG rfl rfl rfl e0 (Nat.zero_le _) (by show sl ≤ q0.2.1.2; omega)) (Eq.trans (k_astore rfl) ?_)))
  refine Eq.trans (k_aload rfl rfl) ?_
  refine Eq.trans (k_ifnull rfl) ?_
  refine Eq.trans (k_aload rfl rfl) ?_
  refine Eq.trans (RUN_ci rfl rfl rfl e1 a1.qle) ?_
  refine Eq.trans (Eq.trans (k_ifc ((1 : Int) = 0) rfl (iI_eq0 ⟨by decide, by decide⟩)) (cif_neg (by decide))) ?_
  refine Eq.trans (k_aload rfl rfl) ?_
  refine Eq.trans (RUN_ci rfl rfl rfl e2 a2.qle) ?_
  refine Eq.trans (Eq.trans (k_ifc ((1 : Int) = 0) rfl (iI_eq0 ⟨by decide, by decide⟩)) (cif_neg (by decide))) ?_
  refine Eq.trans (k_aload rfl rfl) ?_
  refine Eq.trans (RUN_ci rfl rfl rfl e3 a3.qle) ?_
  refine Eq.trans (Eq.trans (k_ifc ((1 : Int) = 0) rfl (iI_eq0 ⟨by decide, by decide⟩)) (cif_neg (by decide))) ?_
  refine Eq.trans (k_aload rfl rfl) ?_
  refine Eq.trans (RUN_ci rfl rfl rfl e4 a4.qle) ?_
  refine Eq.trans (Eq.trans (k_ifc ((1 : Int) = 0) rfl (iI_eq0 ⟨by decide, by decide⟩)) (cif_neg (by decide))) ?_
  refine Eq.trans (k_aload rfl rfl) ?_
  refine Eq.trans (RUN_ci rfl rfl rfl e5 a5.qle) ?_
  refine Eq.trans (Eq.trans (k_ifc ((1 : Int) = 0) rfl (iI_eq0 ⟨by decide, by decide⟩)) (cif_neg (by decide))) ?_
  refine Eq.trans (k_aload rfl rfl) ?_
  refine Eq.trans (k_aload rfl rfl) ?_
  refine Eq.trans (RUN_ci rfl rfl rfl e6 a6.qle) ?_
  refine Eq.trans (Eq.trans (k_ifc ((1 : Int) = 0) rfl (iI_eq0 ⟨by decide, by decide⟩)) (cif_neg (by decide))) ?_
  refine Eq.trans (k_pushi (1) rfl rfl) ?_
  refine Eq.trans (k_goto rfl) ?_
  exact k_iret rfl (Or.inr rfl)
end
