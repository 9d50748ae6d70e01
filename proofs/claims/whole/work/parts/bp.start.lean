/-! the law from its start -/
theorem z3a {a b : Nat} {j : Int} (h : ¬ a = 23 ∧ ¬ a = 1 ∧ ¬ a = 33) : Z3 a b j = 0 := by
  unfold Z3 Z2
  rw [upV_off2 (by omega), upV_off2 (by omega), upV_off2 (by omega), upV_off2 (by omega), upV_off2 (by omega), upV_off2 (by omega)]
  exact z1a h.1
theorem CR_0 : CR 0 Z3 Z3 := by
  have z : ∀ {a b : Nat} {j : Int}, ¬ a = 23 ∧ ¬ a = 1 ∧ ¬ a = 33 → Z3 a b j = 0 := fun h => z3a h
  have p : ∀ j, ¬ (j = 20 ∨ j = 21) → Z3 33 0 j = 0 := fun j h => by
    unfold Z3
    rw [upV_at, if_neg (by omega), upV_at, if_neg (by omega)]
    exact z2 33 0 (by decide) (by decide) (by decide) j
  refine ⟨⟨⟨?_, ?_, ?_, ?_, ?_, ?_, ?_, ?_, ?_, ?_⟩, ?_, ?_⟩, ⟨⟨?_, ?_⟩, ?_, ?_, ?_, ?_⟩, ⟨?_, ?_, ?_⟩, ?_, ⟨⟨?_, ?_⟩, ?_, ?_⟩, ⟨?_, ?_, ?_⟩, Or.inl ⟨?_, ?_⟩, ⟨⟨?_, ?_, ?_⟩, ?_, ?_, ?_⟩, ⟨[], ⟨?_, by decide, fun i h => absurd h (Nat.not_lt_zero i)⟩, ⟨?_, by decide, fun i h => absurd h (Nat.not_lt_zero i)⟩, fun x h => absurd h List.not_mem_nil⟩, ⟨⟨?_, ?_, ?_, ?_, ?_⟩, ?_, ?_⟩⟩
  · rw [z (by decide)]; decide
  · rw [z (by decide)]; decide
  · intro j _; rw [z (by decide)]; decide
  · intro j _; rw [z (by decide)]; decide
  · intro j _; rw [z (by decide)]; decide
  · intro j _; rw [z (by decide)]; decide
  · intro j _; rw [z (by decide)]; decide
  · intro j _; rw [z (by decide)]; decide
  · intro j _; rw [z (by decide)]; decide
  · intro j _; rw [z (by decide)]; decide
  · intro a b ha; rw [z (by decide)] at ha; omega
  · intro t _ _; exact ⟨z (by decide), z (by decide)⟩
  · rw [z (by decide), z (by decide)]
  · rw [z (by decide), z (by decide)]
  · intro j _; rw [z (by decide), z (by decide)]
  · intro j _; rw [z (by decide), z (by decide)]
  · intro t _; unfold tw; exact ⟨by rw [z (by decide), z (by decide)], by rw [z (by decide), z (by decide)], by rw [z (by decide), z (by decide)], by rw [z (by decide), z (by decide)], by rw [z (by decide), z (by decide)]⟩
  · intro t i _ h2; rw [z (by decide)] at h2; omega
  · intro i j _ _; rw [z (by decide)]; decide
  · intro i j _ _; rw [z (by decide)]; decide
  · intro j _; rw [z (by decide)]; decide
  · intro v hv
    show (if 0 ≤ v ∧ v < 16 then patT v else 0) = patT v
    rw [if_pos hv]
  · rw [z (by decide)]; decide
  · rw [z (by decide)]; decide
  · rw [z (by decide), p 5 (by decide)]
  · intro k h1 h2; rw [z (by decide)] at h2; omega
  · rw [p 3 (by decide)]; rfl
  · exact Or.inl rfl
  · intro h; exact absurd h (by show ¬ (0 : Int) = 1; decide)
  · rfl
  · exact p 7 (by decide)
  · rfl
  · decide
  · decide
  · rfl
  · decide
  · decide
  · rw [z (by decide)]; rfl
  · rw [p 15 (by decide)]; rfl
  · rw [z (by decide)]; decide
  · rw [z (by decide)]; decide
  · rw [z (by decide)]; decide
  · rw [z (by decide)]; decide
  · intro j _; rw [z (by decide)]; decide
  · rw [z (by decide), p 17 (by decide)]
  · intro j hj; rw [z (by decide)] at hj; omega
section
variable {L : Nat} {xs : Nat → Int32} {J : (Nat → Nat → Nat → Int64) × (Nat → Nat → Nat → UInt64)} {o : Nat → Nat → Option SC} {n sl : Nat} {V : VV} {d y pc nx : Nat} {ls : List (Option AV)} {st : List AV}
theorem kc_newJ {N a b : Nat} (hcd : am_cd y pc = i_newaJ N nx) (hal : am_al n = (a, b)) (ho : o a b = none) (hS : am_S0 L xs a b = some (Sum.inl (2, N, fun _ => aN))) : RUN d y (pc, ls, aI (nI N) :: st) (CH L xs J o n sl V) = RUN d y (nx, ls, aR a b :: st) (CH L xs (upA J.1 a b (fun _ => 0), J.2) o (n + 1) (sl + N) V) := by
  refine RUN_gi (cs := [nI N = nI N]) hcd ?_ ⟨rfl, trivial⟩
  show goC (nI N = nI N) nx ls (Sum.inr (Sum.inl (am_al n)) :: st) (upS (Bs L xs o n) (am_al n).1 (am_al n).2 (some (Sum.inl (2, N, fun _ => aN))), (n + 1, sl + N), lft V, upA J.1 (am_al n).1 (am_al n).2 (fun _ => 0), J.2) = _
  rw [hal, Bs_new hal ho hS]
  rfl
theorem kc_newD {N a b : Nat} (hcd : am_cd y pc = i_newaD N nx) (hal : am_al n = (a, b)) (ho : o a b = none) (hS : am_S0 L xs a b = some (Sum.inl (3, N, fun _ => aN))) : RUN d y (pc, ls, aI (nI N) :: st) (CH L xs J o n sl V) = RUN d y (nx, ls, aR a b :: st) (CH L xs (J.1, upA J.2 a b (fun _ => 0)) o (n + 1) (sl + N) V) := by
  refine RUN_gi (cs := [nI N = nI N]) hcd ?_ ⟨rfl, trivial⟩
  show goC (nI N = nI N) nx ls (Sum.inr (Sum.inl (am_al n)) :: st) (upS (Bs L xs o n) (am_al n).1 (am_al n).2 (some (Sum.inl (3, N, fun _ => aN))), (n + 1, sl + N), lft V, J.1, upA J.2 (am_al n).1 (am_al n).2 (fun _ => 0)) = _
  rw [hal, Bs_new hal ho hS]
  rfl
theorem CH_all : CH L xs J oE 149 sl V = HM ((L, xs), (149, sl), J) V := by
  unfold CH HM
  have : Bs L xs oE 149 = am_S0 L xs := cut_all
  rw [this]
theorem law_head : ∃ (s : Nat) (J' : (Nat → Nat → Nat → Int64) × (Nat → Nat → Nat → UInt64)), sl ≤ s ∧ s ≤ sl + 50000 ∧ RUN (d + 14) 307 (am_en 307 [aR 0 0]) (CH L xs J oE 0 sl Z0) = RUN (d + 14) 307 (28, LSa 0 none none none, []) (HM ((L, xs), (149, s), J') Z3) := by
  obtain ⟨s1, a1, b1, e1⟩ := ct_0 (L := L) (xs := xs) (J := J) (sl := sl + 15) (d := d + 7)
  obtain ⟨s2, a2, b2, e2⟩ := ct_208 (L := L) (xs := xs) (J := J) (sl := s1 + 24) (d := d + 13) (V := Z2) (o := oE) (fun _ _ _ => rfl) z2
  refine ⟨s2 + 1 + 1, (upA J.1 44 0 (fun _ => 0), upA J.2 45 0 (fun _ => 0)), by omega, by omega, ?_⟩
  refine (show RUN (d + 14) 307 (0, [sR 0 0, none, none, none, none, none, none, none, none], []) _ = _ from Eq.trans (kc_new (N := 15) rfl (show am_al 0 = (1, 0) from rfl) (fun _ => rfl)) (Eq.trans (k_dupR rfl) (Eq.trans (RUN_cG rfl rfl rfl e1 (by show 1 ≤ 136; decide) (by show sl + 15 ≤ s1; omega)) (Eq.trans (k_astore rfl) ?_))))
  refine Eq.trans (kc_new (N := 24) rfl (show am_al 136 = (33, 0) from rfl) (z2 33 0 (by decide) (by decide) (by decide))) (Eq.trans (k_dupR rfl) (Eq.trans (RUN_cG rfl rfl rfl e2 (by show 137 ≤ 147; decide) (by show s1 + 24 ≤ s2; omega)) (Eq.trans (k_astore rfl) ?_)))
  refine Eq.trans (k_push rfl) (Eq.trans (kc_newJ (N := 1) rfl (show am_al 147 = (44, 0) from rfl) rfl rfl) (Eq.trans (k_astore rfl) (Eq.trans (k_push rfl) (Eq.trans (kc_newD (N := 1) rfl (show am_al 148 = (45, 0) from rfl) rfl rfl) (Eq.trans (k_astore rfl) (Eq.trans (k_pushi 0 rfl rfl) (Eq.trans (k_store rfl) ?_)))))))
  exact congrArg (RUN (d + 14) 307 (28, LSa 0 none none none, [])) CH_all
/-- the law holds: it ends, and answers 1 -/
theorem law_all (hL : L ≤ 2048) : ∃ (q : QQ) (V : VV), (q.2.1.1 ≤ 1200 ∧ q.2.1.2 ≤ sl + 90000) ∧ RUN (d + 14) 307 (am_en 307 [aR 0 0]) (CH L xs J oE 0 sl Z0) = rI 1 (HM q V) := by
  obtain ⟨s, J', h1, h2, h3⟩ := law_head (L := L) (xs := xs) (J := J) (sl := sl) (d := d)
  obtain ⟨q', V, u1, u2, u3⟩ := law_go (d := d) 512 0 0 ((L, xs), (149, s), J') Z3 none none none (by decide) (by show (L : Int) ≤ 0 + 4 * ((512 : Nat) : Int) + 3; omega) (by show L < 2147483648; omega) (by show (0 : Int) ≤ (L : Int); omega) CR_0 (by decide) (Nat.le_refl _)
  have u2a : q'.2.1.1 ≤ 149 + 2 * 512 := u2.1
  have u2b : q'.2.1.2 ≤ s + 64 * 512 := u2.2
  exact ⟨q', V, ⟨by omega, by omega⟩, h3.trans u3⟩
end
