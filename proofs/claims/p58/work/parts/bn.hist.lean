/-! the history is made -/
/-- rows 3 to 2 + k stand in the history's array -/
def hG (k : Nat) : Nat → AV := fun j => if j < k then aR 2 (3 + j) else aN
def oH (o : Nat → Nat → Option SC) (k : Nat) : Nat → Nat → Option SC := os (os o 12 0 (some (Sum.inl (4, 8, hG k)))) 11 0 (some (Sum.inr (2, [aR 12 0, aI 0, aI 0])))
theorem hG_up {k : Nat} : (fun j => if j = k then aR 2 (3 + k) else hG k j) = hG (k + 1) := by
  funext j
  unfold hG
  by_cases c : j = k
  · rw [if_pos c, if_pos (by omega), c]
  · rw [if_neg c]
    by_cases c2 : j < k
    · rw [if_pos c2, if_pos (by omega)]
    · rw [if_neg c2, if_neg (by omega)]
theorem os_os {o : Nat → Nat → Option SC} {a b : Nat} {v w : SC} : os (os o a b v) a b w = os o a b w := by
  funext a' b'
  by_cases c : a' = a ∧ b' = b
  · rw [c.1, c.2, os_at, os_at]
  · rw [os_no c, os_no c, os_no c]
theorem os_comm {o : Nat → Nat → Option SC} {a b a2 b2 : Nat} {v w : SC} (h : ¬ (a = a2 ∧ b = b2)) : os (os o a b v) a2 b2 w = os (os o a2 b2 w) a b v := by
  funext a' b'
  by_cases c : a' = a ∧ b' = b
  · rw [os_no (fun z => h ⟨c.1.symm.trans z.1, c.2.symm.trans z.2⟩), c.1, c.2, os_at, os_at]
  · rw [os_no (o := os o a2 b2 w) c]
    by_cases c2 : a' = a2 ∧ b' = b2
    · rw [c2.1, c2.2, os_at, os_at]
    · rw [os_no c2, os_no c2, os_no c]
theorem Bs_up {L : Nat} {xs : Nat → Int32} {o : Nat → Nat → Option SC} {n a b : Nat} {w : SC} : upS (Bs L xs o n) a b w = Bs L xs (os o a b w) n := by
  funext a' b'
  show (if a' = a ∧ b' = b then w else Bs L xs o n a' b') = _
  by_cases c : a' = a ∧ b' = b
  · rw [if_pos c, c.1, c.2, Bs_at]
  · rw [if_neg c]
    unfold Bs
    rw [os_no c]
theorem oH_set {o : Nat → Nat → Option SC} {k : Nat} : os (oH o k) 12 0 (some (Sum.inl (4, 8, hG (k + 1)))) = oH o (k + 1) := by
  unfold oH
  rw [os_comm (by decide), os_os]
theorem al_rows : ∀ i, i < 8 → am_al (30 + 9 * i) = (2, 3 + i) ∧ am_al (31 + 9 * i) = (3, 3 + i) ∧ am_al (31 + 9 * i + 1) = (4, 3 + i) ∧ am_al (31 + 9 * i + 2) = (5, 3 + i) ∧ am_al (31 + 9 * i + 3) = (6, 3 + i) ∧ am_al (31 + 9 * i + 4) = (7, 3 + i) ∧ am_al (31 + 9 * i + 5) = (8, 3 + i) ∧ am_al (31 + 9 * i + 6) = (9, 3 + i) ∧ am_al (31 + 9 * i + 7) = (10, 3 + i) ∧ am_ix 2 (3 + i) < 31 + 9 * i := by decide +kernel
section
variable {L : Nat} {xs : Nat → Int32} {J : (Nat → Nat → Nat → Int64) × (Nat → Nat → Nat → UInt64)} {o : Nat → Nat → Option SC} {n sl : Nat} {V : VV} {d y pc nx : Nat} {ls : List (Option AV)} {st : List AV}
theorem kc_aastR {a b a' b' N : Nat} {g : Nat → AV} {fs : List AV} {k : Nat} (hcd : am_cd y pc = i_aastR nx) (h1 : Bs L xs o n a b = some (Sum.inl (4, N, g))) (h2 : Bs L xs o n a' b' = some (Sum.inr (1, fs))) (hn : N < 2147483648) (he : k < N) : RUN d y (pc, ls, aR a' b' :: aI (iI (k : Int)) :: aR a b :: st) (CH L xs J o n sl V) = RUN d y (nx, ls, st) (CH L xs J (os o a b (some (Sum.inl (4, N, fun j => if j = k then aR a' b' else g j)))) n sl V) := by
  refine RUN_gi (cs := [vp_in (iI (k : Int)) N]) hcd ?_ ⟨iI_in (by omega) hn, trivial⟩
  unfold i_aastR CH
  dsimp only
  rw [show hS (Bs L xs o n, (n, sl), lft V, J) a b = some (Sum.inl (4, N, g)) from h1, show hS (Bs L xs o n, (n, sl), lft V, J) a' b' = some (Sum.inr (1, fs)) from h2]
  show goC (vp_in (iI (k : Int)) N) nx ls st (upS (Bs L xs o n) a b (some (Sum.inl (4, N, fun j => if j = (iI (k : Int)).toNatClampNeg then aR a' b' else g j))), (n, sl), lft V, J) = _
  rw [iI_nat (by omega), Bs_up]
  rfl
theorem hist_go (ho : ∀ a b, a ≠ 1 → o a b = none) (zz : ∀ a b, 2 ≤ a → ¬ a = 23 → ¬ a = 46 → ∀ j, V a b j = 0) : ∀ (m k sl : Nat), k + m = 8 → RUN (d + 1) 2 (25, [sR 11 0, sI k], []) (CH L xs J (oH o k) (30 + 9 * k) sl V) = rV (CH L xs J o 102 (sl + 162 * m) V) := by
  intro m
  induction m with
  | zero =>
    intro k sl hk
    obtain rfl : k = 8 := by omega
    refine Eq.trans (k_iload rfl rfl) (Eq.trans (k_pushi 8 rfl rfl) (Eq.trans (Eq.trans (k_icmpc ((8 : Int) ≤ ((8 : Nat) : Int)) rfl (iI_le (by decide) (by decide))) (cif_pos (by decide))) ((k_ret rfl).trans (congrArg (fun h => rV h) ?_))))
    show CH L xs J (os (os o 12 0 (some (Sum.inl (4, 8, hG 8)))) 11 0 (some (Sum.inr (2, [aR 12 0, aI 0, aI 0])))) 102 sl V = CH L xs J o 102 sl V
    exact (CH_done (n := 102) (a := 11) (b := 0) (os_none (by decide) (ho 11 0 (by decide))) (by decide +kernel) rfl).trans (CH_done (n := 102) (a := 12) (b := 0) (ho 12 0 (by decide)) (by decide +kernel) rfl)
  | succ m ih =>
    intro k sl hk
    obtain ⟨a2, a3, a4, a5, a6, a7, a8, a9, a10, aix⟩ := al_rows k (by omega)
    have hz : ∀ a, 2 ≤ a ∧ a ≤ 10 → ∀ j, V a (3 + k) j = 0 := fun a h j => zz a _ (by omega) (by omega) (by omega) j
    have hno : ∀ a, 2 ≤ a ∧ a ≤ 10 → oH o k a (3 + k) = none := fun a h => os_none (by omega) (os_none (by omega) (ho a _ (by omega)))
    have row := ct_row (d := d) (L := L) (xs := xs) (J := J) (o := oH o k) (sl := sl + 10) (V := V) (show 3 + k < 11 by omega) a3 a4 a5 a6 a7 a8 a9 a10 aix hz hno
    have h12 : Bs L xs (oH o k) (31 + 9 * k + 8) 12 0 = some (Sum.inl (4, 8, hG k)) := by
      unfold Bs oH
      rw [os_no (by decide), os_at]
    have h2r : Bs L xs (oH o k) (31 + 9 * k + 8) 2 (3 + k) = some (Sum.inr (1, [aR 3 (3 + k), aR 4 (3 + k), aR 5 (3 + k), aR 6 (3 + k), aR 7 (3 + k), aR 8 (3 + k), aR 9 (3 + k), aR 10 (3 + k), aI 0, aI 0])) := by
      unfold Bs
      rw [hno 2 (by decide)]
      show cutS L xs _ 2 (3 + k) = _
      unfold cutS
      rw [show Nat.blt (am_ix 2 (3 + k)) (31 + 9 * k + 8) = true from Nat.blt_eq.mpr (by omega), Bool.or_true]
      exact am_S0_2 (L := L) (xs := xo xs) (by omega)
    refine Eq.trans (k_iload rfl rfl) (Eq.trans (k_pushi 8 rfl rfl) (Eq.trans (Eq.trans (k_icmpc ((8 : Int) ≤ (k : Int)) rfl (iI_le (by decide) (by constructor <;> omega))) (cif_neg (by omega))) (Eq.trans (k_aload rfl rfl) (Eq.trans (kc_getr rfl rfl) (Eq.trans (k_iload rfl rfl) (Eq.trans (kc_new (N := 10) rfl a2 (hz 2 (by decide))) (Eq.trans (k_dupR rfl) ?_)))))))
    rw [show 30 + 9 * k + 1 = 31 + 9 * k by omega]
    refine Eq.trans (RUN_cG rfl rfl rfl row (by show 31 + 9 * k ≤ 31 + 9 * k + 8; omega) (by show sl + 10 ≤ sl + 10 + 32 + 8 + 8 + 8 + 8 + 8 + 64 + 16; omega)) (Eq.trans (kc_aastR (k := k) rfl h12 h2r (by decide) (by omega)) (Eq.trans (k_iinc 1 rfl rfl rfl) (Eq.trans (k_goto rfl) ?_)))
    rw [hG_up, oH_set, show 31 + 9 * k + 8 = 30 + 9 * (k + 1) by omega, show sl + 162 * (m + 1) = sl + 10 + 32 + 8 + 8 + 8 + 8 + 8 + 64 + 16 + 162 * m by omega]
    exact ih (k + 1) _ (by omega)
theorem ct_2 (ho : ∀ a b, a ≠ 1 → o a b = none) (zz : ∀ a b, 2 ≤ a → ¬ a = 23 → ¬ a = 46 → ∀ j, V a b j = 0) : ∃ s, sl ≤ s ∧ s ≤ sl + 4000 ∧ RUN (d + 1) 2 (am_en 2 [aR 11 0]) (CH L xs J (os o 11 0 (some (Sum.inr (2, [aN, aI 0, aI 0])))) 29 sl V) = rV (CH L xs J o 102 s V) := by
  refine ⟨sl + 8 + 162 * 8, by omega, by omega, ?_⟩
  refine (show RUN (d + 1) 2 (0, [sR 11 0, none], []) _ = _ from Eq.trans (k_aload rfl rfl) (Eq.trans (k_oinit rfl rfl) (Eq.trans (k_aload rfl rfl) (Eq.trans (k_push rfl) (Eq.trans (kc_newA (N := 8) (a := 12) (b := 0) rfl rfl (zz 12 0 (by decide) (by decide) (by decide))) ?_)))))
  rw [os_comm (by decide)]
  refine Eq.trans (kc_putr rfl) (Eq.trans (k_aload rfl rfl) (Eq.trans (k_pushi 0 rfl rfl) (Eq.trans (kc_puti rfl rfl trivial (zz 11 0 (by decide) (by decide) (by decide) 1)) (Eq.trans (k_aload rfl rfl) (Eq.trans (k_pushi 0 rfl rfl) (Eq.trans (kc_puti rfl rfl trivial (zz 11 0 (by decide) (by decide) (by decide) 2)) (Eq.trans (k_pushi 0 rfl rfl) (Eq.trans (k_store rfl) ?_))))))))
  have e : (fun _ => aN : Nat → AV) = hG 0 := by
    funext j
    exact (if_neg (Nat.not_lt_zero j)).symm
  rw [e]
  exact hist_go (d := d) ho zz 8 0 (sl + 8) rfl
end
