/-! the class's constructor; the law up to its loop -/
def oE : Nat → Nat → Option SC := fun _ _ => none
section
variable {L : Nat} {xs : Nat → Int32} {J : (Nat → Nat → Nat → Int64) × (Nat → Nat → Nat → UInt64)} {o : Nat → Nat → Option SC} {n sl : Nat} {V : VV} {d y pc nx : Nat} {ls : List (Option AV)} {st : List AV}
theorem kc_getrG {c j a b a' b' : Nat} {fs : List AV} (hcd : am_cd y pc = i_getf c j nx) (hs : Bs L xs o n a b = some (Sum.inr (c, fs))) (hf : fs.getD j aN = aR a' b') : RUN d y (pc, ls, aR a b :: st) (CH L xs J o n sl V) = RUN d y (nx, ls, aR a' b' :: st) (CH L xs J o n sl V) := by
  refine RUN_gi (cs := []) hcd ?_ trivial
  unfold i_getf CH
  dsimp only
  rw [show hS (Bs L xs o n, (n, sl), lft V, J) a b = some (Sum.inr (c, fs)) from hs]
  dsimp only
  rw [Nat.beq_refl]
  unfold am_fld
  rw [hf]
theorem Bs_2 {a b a2 b2 : Nat} {v w : SC} (h : ¬ (a = a2 ∧ b = b2)) : Bs L xs (os (os o a b v) a2 b2 w) n a b = v := by
  unfold Bs
  rw [os_no h, os_at]
theorem oE1 {v : SC} : ∀ a b, a ≠ 1 → os oE 1 0 v a b = none := fun a b h => os_none (fun z => h z.1) rfl
/-- nothing but zeros; the patterns -/
def Z0 : VV := fun _ _ _ => 0
def Z1 : VV := rowV 23 Z0 patT 16
def Z2 : VV := upV (upV (upV (upV Z1 1 0 11 (-1)) 1 0 12 (-1)) 1 0 13 (-1)) 1 0 14 (-1)
def Z3 : VV := upV (upV Z2 33 0 20 (-1)) 33 0 21 (-1)
theorem z0 : ∀ a b, 2 ≤ a → ¬ a = 23 → ¬ a = 46 → ∀ j, Z0 a b j = 0 := fun _ _ _ _ _ _ => rfl
theorem z0' : ∀ a b, 2 ≤ a → ¬ a = 46 → ∀ j, Z0 a b j = 0 := fun _ _ _ _ _ => rfl
theorem z1a {a b : Nat} {j : Int} (h : ¬ a = 23) : Z1 a b j = 0 := by
  unfold Z1 rowV
  rw [beq_no h]
  rfl
theorem z1 : ∀ a b, 2 ≤ a → ¬ a = 23 → ¬ a = 46 → ∀ j, Z1 a b j = 0 := fun a b h1 h2 h3 j => z1a h2
theorem z2 : ∀ a b, 2 ≤ a → ¬ a = 23 → ¬ a = 46 → ∀ j, Z2 a b j = 0 := fun a b h1 h2 h3 j => by
  unfold Z2
  rw [upV_off2 (by omega), upV_off2 (by omega), upV_off2 (by omega), upV_off2 (by omega)]
  exact z1a h2
end
section
variable {L : Nat} {xs : Nat → Int32} {J : (Nat → Nat → Nat → Int64) × (Nat → Nat → Nat → UInt64)} {sl : Nat} {d : Nat}
theorem ct_0 : ∃ s, sl ≤ s ∧ s ≤ sl + 40000 ∧ RUN (d + 6) 0 (am_en 0 [aR 1 0]) (CH L xs J (os oE 1 0 (some (Sum.inr (0, [aN, aN, aN, aN, aN, aN, aN, aN, aN, aN, aI 0, aI 0, aI 0, aI 0, aI 0])))) 1 sl Z0) = rV (CH L xs J oE 136 s Z2) := by
  have e0 := ct_row (d := d + 5) (L := L) (xs := xs) (J := J) (o := (os oE 1 0 (some (Sum.inr (0, [aN, aN, aN, aN, aN, aN, aN, aN, aN, aN, aI 0, aI 0, aI 0, aI 0, aI 0]))))) (sl := sl + 10) (V := Z0) (r := 0) (k := 2) (by decide) rfl rfl rfl rfl rfl rfl rfl rfl (by decide +kernel) (fun _ _ _ => rfl) (fun a h => oE1 a _ (by omega))
  have e1 := ct_row (d := d + 5) (L := L) (xs := xs) (J := J) (o := (os oE 1 0 (some (Sum.inr (0, [aR 2 0, aN, aN, aN, aN, aN, aN, aN, aN, aN, aI 0, aI 0, aI 0, aI 0, aI 0]))))) (sl := (sl + 10 + 32 + 8 + 8 + 8 + 8 + 8 + 64 + 16) + 10) (V := Z0) (r := 1) (k := 11) (by decide) rfl rfl rfl rfl rfl rfl rfl rfl (by decide +kernel) (fun _ _ _ => rfl) (fun a h => oE1 a _ (by omega))
  have e2 := ct_row (d := d + 5) (L := L) (xs := xs) (J := J) (o := (os oE 1 0 (some (Sum.inr (0, [aR 2 0, aR 2 1, aN, aN, aN, aN, aN, aN, aN, aN, aI 0, aI 0, aI 0, aI 0, aI 0]))))) (sl := ((sl + 10 + 32 + 8 + 8 + 8 + 8 + 8 + 64 + 16) + 10 + 32 + 8 + 8 + 8 + 8 + 8 + 64 + 16) + 10) (V := Z0) (r := 2) (k := 20) (by decide) rfl rfl rfl rfl rfl rfl rfl rfl (by decide +kernel) (fun _ _ _ => rfl) (fun a h => oE1 a _ (by omega))
  obtain ⟨s3, a3, b3, e3⟩ := ct_2 (d := d + 4) (L := L) (xs := xs) (J := J) (o := (os oE 1 0 (some (Sum.inr (0, [aR 2 0, aR 2 1, aR 2 2, aN, aN, aN, aN, aN, aN, aN, aI 0, aI 0, aI 0, aI 0, aI 0]))))) (sl := (((sl + 10 + 32 + 8 + 8 + 8 + 8 + 8 + 64 + 16) + 10 + 32 + 8 + 8 + 8 + 8 + 8 + 64 + 16) + 10 + 32 + 8 + 8 + 8 + 8 + 8 + 64 + 16) + 3) (V := Z0) oE1 z0
  obtain ⟨s4, a4, b4, e4⟩ := ct_3 (d := d + 5) (L := L) (xs := xs) (J := J) (o := (os oE 1 0 (some (Sum.inr (0, [aR 2 0, aR 2 1, aR 2 2, aR 11 0, aN, aN, aN, aN, aN, aN, aI 0, aI 0, aI 0, aI 0, aI 0]))))) (sl := s3 + 2) (V := Z0) oE1 z0
  obtain ⟨s5, a5, b5, e5⟩ := ct_4 (d := d + 5) (L := L) (xs := xs) (J := J) (o := (os oE 1 0 (some (Sum.inr (0, [aR 2 0, aR 2 1, aR 2 2, aR 11 0, aR 13 0, aN, aN, aN, aN, aN, aI 0, aI 0, aI 0, aI 0, aI 0]))))) (sl := s4 + 8) (V := Z0) oE1 z0
  obtain ⟨s6, a6, b6, e6⟩ := ct_5 (d := d + 2) (L := L) (xs := xs) (J := J) (o := (os oE 1 0 (some (Sum.inr (0, [aR 2 0, aR 2 1, aR 2 2, aR 11 0, aR 13 0, aR 15 0, aN, aN, aN, aN, aI 0, aI 0, aI 0, aI 0, aI 0]))))) (sl := s5 + 1) (V := Z0) oE1 z0'
  obtain ⟨s7, a7, b7, e7⟩ := ct_9 (d := d + 5) (L := L) (xs := xs) (J := J) (o := (os oE 1 0 (some (Sum.inr (0, [aR 2 0, aR 2 1, aR 2 2, aR 11 0, aR 13 0, aR 15 0, aR 22 0, aN, aN, aN, aI 0, aI 0, aI 0, aI 0, aI 0]))))) (sl := s6 + 7) (V := Z1) oE1 z1
  obtain ⟨s8, a8, b8, e8⟩ := ct_10 (d := d + 5) (L := L) (xs := xs) (J := J) (o := (os oE 1 0 (some (Sum.inr (0, [aR 2 0, aR 2 1, aR 2 2, aR 11 0, aR 13 0, aR 15 0, aR 22 0, aR 24 0, aN, aN, aI 0, aI 0, aI 0, aI 0, aI 0]))))) (sl := s7 + 7) (V := Z1) oE1 z1
  obtain ⟨s9, a9, b9, e9⟩ := ct_11 (d := d + 5) (L := L) (xs := xs) (J := J) (o := (os oE 1 0 (some (Sum.inr (0, [aR 2 0, aR 2 1, aR 2 2, aR 11 0, aR 13 0, aR 15 0, aR 22 0, aR 24 0, aR 27 0, aN, aI 0, aI 0, aI 0, aI 0, aI 0]))))) (sl := s8 + 2) (V := Z1) oE1 z1
  refine ⟨s9, by omega, by omega, ?_⟩
  exact (show RUN (d + 6) 0 (0, [sR 1 0], []) _ = _ from (Eq.trans (k_aload rfl rfl) (Eq.trans (k_oinit rfl rfl) (Eq.trans (k_aload rfl rfl) (Eq.trans (kc_new (N := 10) rfl (show am_al 1 = (2, 0) from rfl) (fun _ => rfl)) (Eq.trans (k_dupR rfl) (Eq.trans (RUN_cG rfl rfl rfl e0 (by show 2 ≤ 2 + 8; omega) (by show sl + 10 ≤ sl + 10 + 32 + 8 + 8 + 8 + 8 + 8 + 64 + 16; omega)) (Eq.trans (kc_putr rfl) (Eq.trans (k_aload rfl rfl) (Eq.trans (kc_new (N := 10) rfl (show am_al 10 = (2, 1) from rfl) (fun _ => rfl)) (Eq.trans (k_dupR rfl) (Eq.trans (RUN_cG rfl rfl rfl e1 (by show 11 ≤ 11 + 8; omega) (by show (sl + 10 + 32 + 8 + 8 + 8 + 8 + 8 + 64 + 16) + 10 ≤ (sl + 10 + 32 + 8 + 8 + 8 + 8 + 8 + 64 + 16) + 10 + 32 + 8 + 8 + 8 + 8 + 8 + 64 + 16; omega)) (Eq.trans (kc_putr rfl) (Eq.trans (k_aload rfl rfl) (Eq.trans (kc_new (N := 10) rfl (show am_al 19 = (2, 2) from rfl) (fun _ => rfl)) (Eq.trans (k_dupR rfl) (Eq.trans (RUN_cG rfl rfl rfl e2 (by show 20 ≤ 20 + 8; omega) (by show ((sl + 10 + 32 + 8 + 8 + 8 + 8 + 8 + 64 + 16) + 10 + 32 + 8 + 8 + 8 + 8 + 8 + 64 + 16) + 10 ≤ ((sl + 10 + 32 + 8 + 8 + 8 + 8 + 8 + 64 + 16) + 10 + 32 + 8 + 8 + 8 + 8 + 8 + 64 + 16) + 10 + 32 + 8 + 8 + 8 + 8 + 8 + 64 + 16; omega)) (Eq.trans (kc_putr rfl) (Eq.trans (k_aload rfl rfl) (Eq.trans (kc_new (N := 3) rfl (show am_al 28 = (11, 0) from rfl) (fun _ => rfl)) (Eq.trans (k_dupR rfl) (Eq.trans (RUN_cG rfl rfl rfl e3 (by show 29 ≤ 102; omega) (by show (((sl + 10 + 32 + 8 + 8 + 8 + 8 + 8 + 64 + 16) + 10 + 32 + 8 + 8 + 8 + 8 + 8 + 64 + 16) + 10 + 32 + 8 + 8 + 8 + 8 + 8 + 64 + 16) + 3 ≤ s3; omega)) (Eq.trans (kc_putr rfl) (Eq.trans (k_aload rfl rfl) (Eq.trans (kc_new (N := 2) rfl (show am_al 102 = (13, 0) from rfl) (fun _ => rfl)) (Eq.trans (k_dupR rfl) (Eq.trans (k_aload rfl rfl) (Eq.trans (kc_getrG rfl (Bs_2 (by decide)) rfl) (Eq.trans (RUN_cG rfl rfl rfl e4 (by show 103 ≤ 104; omega) (by show s3 + 2 ≤ s4; omega)) (Eq.trans (kc_putr rfl) (Eq.trans (k_aload rfl rfl) (Eq.trans (kc_new (N := 8) rfl (show am_al 104 = (15, 0) from rfl) (fun _ => rfl)) (Eq.trans (k_dupR rfl) (Eq.trans (k_aload rfl rfl) (Eq.trans (kc_getrG rfl (Bs_2 (by decide)) rfl) (Eq.trans (k_aload rfl rfl) (Eq.trans (kc_getrG rfl (Bs_2 (by decide)) rfl) (Eq.trans (RUN_cG rfl rfl rfl e5 (by show 105 ≤ 125; omega) (by show s4 + 8 ≤ s5; omega)) (Eq.trans (kc_putr rfl) (Eq.trans (k_aload rfl rfl) (Eq.trans (kc_new (N := 1) rfl (show am_al 125 = (22, 0) from rfl) (fun _ => rfl)) (Eq.trans (k_dupR rfl) (Eq.trans (RUN_cG rfl rfl rfl e6 (by show 126 ≤ 127; omega) (by show s5 + 1 ≤ s6; omega)) (Eq.trans (kc_putr rfl) (Eq.trans (k_aload rfl rfl) (Eq.trans (kc_new (N := 7) rfl (show am_al 127 = (24, 0) from rfl) (fun _ => z1a (by decide))) (Eq.trans (k_dupR rfl) (Eq.trans (k_aload rfl rfl) (Eq.trans (kc_getrG rfl (Bs_2 (by decide)) rfl) (Eq.trans (RUN_cG rfl rfl rfl e7 (by show 128 ≤ 130; omega) (by show s6 + 7 ≤ s7; omega)) (Eq.trans (kc_putr rfl) (Eq.trans (k_aload rfl rfl) (Eq.trans (kc_new (N := 7) rfl (show am_al 130 = (27, 0) from rfl) (fun _ => z1a (by decide))) (Eq.trans (k_dupR rfl) (Eq.trans (RUN_cG rfl rfl rfl e8 (by show 131 ≤ 134; omega) (by show s7 + 7 ≤ s8; omega)) (Eq.trans (kc_putr rfl) (Eq.trans (k_aload rfl rfl) (Eq.trans (kc_new (N := 2) rfl (show am_al 134 = (31, 0) from rfl) (fun _ => z1a (by decide))) (Eq.trans (k_dupR rfl) (Eq.trans (RUN_cG rfl rfl rfl e9 (by show 135 ≤ 136; omega) (by show s8 + 2 ≤ s9; omega)) (Eq.trans (kc_putr rfl) (Eq.trans (k_aload rfl rfl) (Eq.trans (k_pushi 0 rfl rfl) (Eq.trans (kc_puti rfl rfl (iI_bool (Or.inl rfl)) (z1a (by decide))) (Eq.trans (k_aload rfl rfl) (Eq.trans (k_pushi (-1) rfl rfl) (Eq.trans (kc_putV rfl rfl trivial) (Eq.trans (k_aload rfl rfl) (Eq.trans (k_pushi (-1) rfl rfl) (Eq.trans (kc_putV rfl rfl trivial) (Eq.trans (k_aload rfl rfl) (Eq.trans (k_pushi (-1) rfl rfl) (Eq.trans (kc_putV rfl rfl trivial) (Eq.trans (k_aload rfl rfl) (Eq.trans (k_pushi (-1) rfl rfl) (Eq.trans (kc_putV rfl rfl trivial) ((k_ret rfl).trans (congrArg (fun h => rV h) (CH_done (n := 136) (a := 1) (b := 0) rfl (by decide +kernel) rfl)))))))))))))))))))))))))))))))))))))))))))))))))))))))))))))))))))))))))))))))
end
