/-! more constructors -/
section
variable {L : Nat} {xs : Nat → Int32} {J : (Nat → Nat → Nat → Int64) × (Nat → Nat → Nat → UInt64)} {o : Nat → Nat → Option SC} {n sl : Nat} {V : VV} {d y pc nx : Nat} {ls : List (Option AV)} {st : List AV}
theorem kc_newAw {t N a b : Nat} (hcd : am_cd y pc = i_anewa t N nx) (hal : am_al n = (a, b)) (ho : o a b = none) (hS : am_S0 L (xo xs) a b = some (Sum.inl (t, N, fun _ => aN))) (hz : ∀ j, V a b j = 0) : RUN d y (pc, ls, aI (nI N) :: st) (CH L xs J o n sl V) = RUN d y (nx, ls, aR a b :: st) (CH L xs J o (n + 1) (sl + N) V) := by
  refine RUN_gi (cs := [nI N = nI N]) hcd ?_ ⟨rfl, trivial⟩
  show goC (nI N = nI N) nx ls (Sum.inr (Sum.inl (am_al n)) :: st) (upS (Bs L xs o n) (am_al n).1 (am_al n).2 (some (Sum.inl (t, N, fun _ => aN))), (n + 1, sl + N), upA (lft V) (am_al n).1 (am_al n).2 (fun _ => 0), J) = _
  rw [hal, Bs_new hal ho hS, lft_z hz]
  rfl
theorem kc_putV {c j a b : Nat} {fs : List AV} {ok : Int32 → Prop} {v : Int} {w : Int32} (hcd : am_cd y pc = i_putfi c j ok nx) (hf : fs.getD j aN = aI w) (hok : ok (iI v)) : RUN d y (pc, ls, aI (iI v) :: aR a b :: st) (CH L xs J (os o a b (some (Sum.inr (c, fs)))) n sl V) = RUN d y (nx, ls, st) (CH L xs J (os o a b (some (Sum.inr (c, fs)))) n sl (upV V a b (Int.ofNat j) v)) := by
  refine RUN_gi (cs := [ok (iI v)]) hcd ?_ ⟨hok, trivial⟩
  unfold i_putfi CH
  dsimp only
  rw [show hS (Bs L xs (os o a b (some (Sum.inr (c, fs)))) n, (n, sl), lft V, J) a b = some (Sum.inr (c, fs)) from Bs_at]
  dsimp only
  rw [Nat.beq_refl, hf]
  show goC (ok (iI v)) nx ls st (Bs L xs (os o a b (some (Sum.inr (c, fs)))) n, (n, sl), upI (lft V) a b j (iI v), J) = _
  rw [lft_up]
theorem kc_mna {N M kr a b : Nat} (hcd : am_cd y pc = i_mna N M kr nx) (hal : am_al n = (a, b)) (hne : a ≠ kr) (hk : ∀ i, i < N → am_al (n + 1 + i) = (kr, i)) (ho : o a b = none) (ho2 : ∀ i, o kr i = none) (hS : am_S0 L (xo xs) a b = some (Sum.inl (5, N, fun i => aR kr i))) (hS2 : ∀ i, i < N → am_S0 L (xo xs) kr i = some (Sum.inl (0, M, fun _ => aN))) (hz2 : ∀ i j, V kr i j = 0) :
    RUN d y (pc, ls, aI (nI M) :: aI (nI N) :: st) (CH L xs J o n sl V) = RUN d y (nx, ls, aR a b :: st) (CH L xs J o (n + 1 + N) (sl + N + N * M) V) := by
  refine RUN_gi (cs := [nI M = nI M ∧ nI N = nI N ∧ (∀ i, i < N → am_al (n + 1 + i) = (kr, i)) ∧ (am_al n).1 ≠ kr]) hcd ?_ ⟨⟨rfl, rfl, hk, by rw [hal]; exact hne⟩, trivial⟩
  have key : ∀ m : Nat, m ≤ N → (fun a' b' => if a' = kr ∧ b' < m then some (Sum.inl (0, M, fun _ => aN)) else upS (Bs L xs o n) a b (some (Sum.inl (5, N, fun i => aR kr i))) a' b') = Bs L xs o (n + 1 + m) := by
    intro m
    induction m with
    | zero =>
      intro _
      rw [Bs_new hal ho hS]
      funext a' b'
      rw [if_neg (fun z => absurd z.2 (Nat.not_lt_zero _))]
    | succ m ih =>
      intro hm
      have e := Bs_new (L := L) (xs := xs) (o := o) (hk m (by omega)) (ho2 m) (hS2 m (by omega))
      rw [← ih (by omega)] at e
      refine Eq.trans ?_ e
      funext a' b'
      show _ = (if a' = kr ∧ b' = m then some (Sum.inl (0, M, fun _ => aN)) else if a' = kr ∧ b' < m then some (Sum.inl (0, M, fun _ => aN)) else upS (Bs L xs o n) a b (some (Sum.inl (5, N, fun i => aR kr i))) a' b')
      by_cases c : a' = kr ∧ b' = m
      · rw [if_pos c, if_pos ⟨c.1, by omega⟩]
      · rw [if_neg c]
        by_cases c2 : a' = kr ∧ b' < m
        · rw [if_pos c2, if_pos ⟨c2.1, by omega⟩]
        · rw [if_neg c2, if_neg (fun z => by
            rcases Nat.lt_or_ge b' m with q | q
            · exact c2 ⟨z.1, q⟩
            · exact c ⟨z.1, by omega⟩)]
  have hI : (fun a' b' j => if a' = kr ∧ b' < N then (0 : Int32) else lft V a' b' j) = lft V := by
    funext a' b' j
    by_cases c : a' = kr ∧ b' < N
    · rw [if_pos c, c.1]
      unfold lft
      rw [hz2]
      rfl
    · rw [if_neg c]
  show goC (nI M = nI M ∧ nI N = nI N ∧ (∀ i, i < N → am_al (n + 1 + i) = (kr, i)) ∧ (am_al n).1 ≠ kr) nx ls (Sum.inr (Sum.inl (am_al n)) :: st) ((fun a' b' => if a' = kr ∧ b' < N then some (Sum.inl (0, M, fun _ => aN)) else upS (Bs L xs o n) (am_al n).1 (am_al n).2 (some (Sum.inl (5, N, fun i => aR kr i))) a' b'), (n + 1 + N, sl + N + N * M), (fun a' b' j => if a' = kr ∧ b' < N then (0 : Int32) else lft V a' b' j), J) = _
  rw [hI, hal, key N (Nat.le_refl _)]
  rfl
end
section
variable {L : Nat} {xs : Nat → Int32} {J : (Nat → Nat → Nat → Int64) × (Nat → Nat → Nat → UInt64)} {o : Nat → Nat → Option SC} {sl : Nat} {V : VV} {d : Nat}
theorem ct_3 (ho : ∀ a b, a ≠ 1 → o a b = none) (zz : ∀ a b, 2 ≤ a → ¬ a = 23 → ¬ a = 46 → ∀ j, V a b j = 0) : ∃ s, sl ≤ s ∧ s ≤ sl + 4000 ∧ RUN d 3 (am_en 3 [aR 13 0, aR 2 0]) (CH L xs J (os o 13 0 (some (Sum.inr (3, [aN, aN])))) 103 sl V) = rV (CH L xs J o 104 s V) := by
  refine ⟨_, ?_, ?_, (show RUN d 3 (am_en 3 [aR 13 0, aR 2 0]) _ = _ from (Eq.trans (k_aload rfl rfl) (Eq.trans (k_oinit rfl rfl) (Eq.trans (k_aload rfl rfl) (Eq.trans (k_push rfl) (Eq.trans (kc_newI (N := 8) rfl rfl (os_none (by decide) (ho _ 0 (by decide))) rfl (zz _ 0 (by decide) (by decide) (by decide))) (Eq.trans (kc_putr rfl) (Eq.trans (k_aload rfl rfl) (Eq.trans (k_aload rfl rfl) (Eq.trans (kc_putr rfl) ((k_ret rfl).trans (congrArg (fun h => rV h) (CH_done (n := 104) (ho 13 0 (by decide)) (by decide +kernel) rfl)))))))))))))⟩
  · omega
  · omega
theorem ct_9 (ho : ∀ a b, a ≠ 1 → o a b = none) (zz : ∀ a b, 2 ≤ a → ¬ a = 23 → ¬ a = 46 → ∀ j, V a b j = 0) : ∃ s, sl ≤ s ∧ s ≤ sl + 4000 ∧ RUN d 9 (am_en 9 [aR 24 0, aR 2 0]) (CH L xs J (os o 24 0 (some (Sum.inr (6, [aN, aN, aN, aI 0, aI 0, aI 0, aI 0])))) 128 sl V) = rV (CH L xs J o 130 s V) := by
  refine ⟨_, ?_, ?_, (show RUN d 9 (am_en 9 [aR 24 0, aR 2 0]) _ = _ from (Eq.trans (k_aload rfl rfl) (Eq.trans (k_oinit rfl rfl) (Eq.trans (k_aload rfl rfl) (Eq.trans (k_push rfl) (Eq.trans (kc_newI (N := 16) rfl rfl (os_none (by decide) (ho _ 0 (by decide))) rfl (zz _ 0 (by decide) (by decide) (by decide))) (Eq.trans (kc_putr rfl) (Eq.trans (k_aload rfl rfl) (Eq.trans (k_push rfl) (Eq.trans (kc_newI (N := 16) rfl rfl (os_none (by decide) (ho _ 0 (by decide))) rfl (zz _ 0 (by decide) (by decide) (by decide))) (Eq.trans (kc_putr rfl) (Eq.trans (k_aload rfl rfl) (Eq.trans (k_pushi (0) rfl rfl) (Eq.trans (kc_puti rfl rfl trivial (zz _ 0 (by decide) (by decide) (by decide) 3)) (Eq.trans (k_aload rfl rfl) (Eq.trans (k_pushi (0) rfl rfl) (Eq.trans (kc_puti rfl rfl trivial (zz _ 0 (by decide) (by decide) (by decide) 4)) (Eq.trans (k_aload rfl rfl) (Eq.trans (k_pushi (0) rfl rfl) (Eq.trans (kc_puti rfl rfl trivial (zz _ 0 (by decide) (by decide) (by decide) 5)) (Eq.trans (k_aload rfl rfl) (Eq.trans (k_pushi (0) rfl rfl) (Eq.trans (kc_puti rfl rfl trivial (zz _ 0 (by decide) (by decide) (by decide) 6)) (Eq.trans (k_aload rfl rfl) (Eq.trans (k_aload rfl rfl) (Eq.trans (kc_putr rfl) ((k_ret rfl).trans (congrArg (fun h => rV h) (CH_done (n := 130) (ho 24 0 (by decide)) (by decide +kernel) rfl)))))))))))))))))))))))))))))⟩
  · omega
  · omega
theorem ct_10 (ho : ∀ a b, a ≠ 1 → o a b = none) (zz : ∀ a b, 2 ≤ a → ¬ a = 23 → ¬ a = 46 → ∀ j, V a b j = 0) : ∃ s, sl ≤ s ∧ s ≤ sl + 4000 ∧ RUN d 10 (am_en 10 [aR 27 0]) (CH L xs J (os o 27 0 (some (Sum.inr (7, [aN, aN, aN, aI 0, aI 0, aI 0, aI 0])))) 131 sl V) = rV (CH L xs J o 134 s V) := by
  refine ⟨_, ?_, ?_, (show RUN d 10 (am_en 10 [aR 27 0]) _ = _ from (Eq.trans (k_aload rfl rfl) (Eq.trans (k_oinit rfl rfl) (Eq.trans (k_aload rfl rfl) (Eq.trans (k_push rfl) (Eq.trans (kc_newI (N := 60) rfl rfl (os_none (by decide) (ho _ 0 (by decide))) rfl (zz _ 0 (by decide) (by decide) (by decide))) (Eq.trans (kc_putr rfl) (Eq.trans (k_aload rfl rfl) (Eq.trans (k_push rfl) (Eq.trans (kc_newAw (N := 10) rfl rfl (os_none (by decide) (ho _ 0 (by decide))) rfl (zz _ 0 (by decide) (by decide) (by decide))) (Eq.trans (kc_putr rfl) (Eq.trans (k_aload rfl rfl) (Eq.trans (k_push rfl) (Eq.trans (kc_newI (N := 30) rfl rfl (os_none (by decide) (ho _ 0 (by decide))) rfl (zz _ 0 (by decide) (by decide) (by decide))) (Eq.trans (kc_putr rfl) (Eq.trans (k_aload rfl rfl) (Eq.trans (k_pushi (0) rfl rfl) (Eq.trans (kc_puti rfl rfl trivial (zz _ 0 (by decide) (by decide) (by decide) 3)) (Eq.trans (k_aload rfl rfl) (Eq.trans (k_pushi (0) rfl rfl) (Eq.trans (kc_puti rfl rfl trivial (zz _ 0 (by decide) (by decide) (by decide) 4)) (Eq.trans (k_aload rfl rfl) (Eq.trans (k_pushi (0) rfl rfl) (Eq.trans (kc_puti rfl rfl trivial (zz _ 0 (by decide) (by decide) (by decide) 5)) (Eq.trans (k_aload rfl rfl) (Eq.trans (k_pushi (0) rfl rfl) (Eq.trans (kc_puti rfl rfl trivial (zz _ 0 (by decide) (by decide) (by decide) 6)) ((k_ret rfl).trans (congrArg (fun h => rV h) (CH_done (n := 134) (ho 27 0 (by decide)) (by decide +kernel) rfl))))))))))))))))))))))))))))))⟩
  · omega
  · omega
theorem ct_11 (ho : ∀ a b, a ≠ 1 → o a b = none) (zz : ∀ a b, 2 ≤ a → ¬ a = 23 → ¬ a = 46 → ∀ j, V a b j = 0) : ∃ s, sl ≤ s ∧ s ≤ sl + 4000 ∧ RUN d 11 (am_en 11 [aR 31 0]) (CH L xs J (os o 31 0 (some (Sum.inr (8, [aN, aI 0])))) 135 sl V) = rV (CH L xs J o 136 s V) := by
  refine ⟨_, ?_, ?_, (show RUN d 11 (am_en 11 [aR 31 0]) _ = _ from (Eq.trans (k_aload rfl rfl) (Eq.trans (k_oinit rfl rfl) (Eq.trans (k_aload rfl rfl) (Eq.trans (k_push rfl) (Eq.trans (kc_newI (N := 32) rfl rfl (os_none (by decide) (ho _ 0 (by decide))) rfl (zz _ 0 (by decide) (by decide) (by decide))) (Eq.trans (kc_putr rfl) (Eq.trans (k_aload rfl rfl) (Eq.trans (k_pushi (0) rfl rfl) (Eq.trans (kc_puti rfl rfl trivial (zz _ 0 (by decide) (by decide) (by decide) 1)) ((k_ret rfl).trans (congrArg (fun h => rV h) (CH_done (n := 136) (ho 31 0 (by decide)) (by decide +kernel) rfl)))))))))))))⟩
  · omega
  · omega
end
