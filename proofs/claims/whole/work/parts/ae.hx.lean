/-! the model's array of seers, beside all else -/
def HX (m : Nat) (q : QQ) (V : VV) : AH := (upS (am_S0 q.1.1 q.1.2) 46 m (some (Sum.inl (0, 32, fun _ => aN))), q.2.1, lft V, q.2.2)
section
variable {d y pc nx m : Nat} {ls : List (Option AV)} {st : List AV} {q : QQ} {V : VV}
theorem kx_getfr {c j a b a' b' : Nat} {fs : List AV} (hcd : am_cd y pc = i_getf c j nx) (hS : upS (am_S0 q.1.1 q.1.2) 46 m (some (Sum.inl (0, 32, fun _ => aN))) a b = some (Sum.inr (c, fs))) (hf : fs.getD j aN = aR a' b') : RUN d y (pc, ls, aR a b :: st) (HX m q V) = RUN d y (nx, ls, aR a' b' :: st) (HX m q V) := by
  refine RUN_gi hcd (cs := []) ?_ trivial
  show (match upS (am_S0 q.1.1 q.1.2) 46 m (some (Sum.inl (0, 32, fun _ => aN))) a b with
    | some (Sum.inr (c', fs)) => (match Nat.beq c' c with
      | true => go nx ls (am_fld (HX m q V) a b fs j :: st) (HX m q V)
      | false => stuck)
    | _ => stuck) = _
  rw [hS]
  dsimp only
  rw [Nat.beq_refl]
  dsimp only
  unfold am_fld
  rw [hf]
theorem kx_iald {a b n : Nat} {g : Nat → AV} {e : Int} (hcd : am_cd y pc = i_iald nx) (hS : upS (am_S0 q.1.1 q.1.2) 46 m (some (Sum.inl (0, 32, fun _ => aN))) a b = some (Sum.inl (0, n, g))) (hn : Nat.blt n 2147483648 = true) (he : 0 ≤ e ∧ e < (n : Int)) : RUN d y (pc, ls, aI (iI e) :: aR a b :: st) (HX m q V) = RUN d y (nx, ls, aI (iI (V a b e)) :: st) (HX m q V) := by
  have hn' : n < 2147483648 := Nat.blt_eq.mp hn
  refine RUN_gi hcd (cs := [vp_in (iI e) n]) ?_ ⟨iI_in he hn', trivial⟩
  show (match upS (am_S0 q.1.1 q.1.2) 46 m (some (Sum.inl (0, 32, fun _ => aN))) a b with
    | some (Sum.inl (0, n, g)) => goC (vp_in (iI e) n) nx ls (aI (lft V a b (iI e).toNatClampNeg) :: st) (HX m q V)
    | some (Sum.inl (9, n, g)) => goC (vp_in (iI e) n) nx ls (g (iI e).toNatClampNeg :: st) (HX m q V)
    | _ => stuck) = _
  rw [hS]
  try dsimp only
  rw [lft_at V a b he.1 (by omega)]
  try rfl
theorem kx_ialdE {a b n : Nat} {g : Nat → AV} {e z : Int} (hcd : am_cd y pc = i_iald nx) (hS : upS (am_S0 q.1.1 q.1.2) 46 m (some (Sum.inl (0, 32, fun _ => aN))) a b = some (Sum.inl (0, n, g))) (hn : Nat.blt n 2147483648 = true) (he : 0 ≤ e ∧ e < (n : Int)) (hv : V a b e = z) : RUN d y (pc, ls, aI (iI e) :: aR a b :: st) (HX m q V) = RUN d y (nx, ls, aI (iI z) :: st) (HX m q V) := by
  subst hv
  exact kx_iald hcd hS hn he
theorem kx_iast {a b n : Nat} {g : Nat → AV} {e v : Int} (hcd : am_cd y pc = i_iast nx) (hS : upS (am_S0 q.1.1 q.1.2) 46 m (some (Sum.inl (0, 32, fun _ => aN))) a b = some (Sum.inl (0, n, g))) (hn : Nat.blt n 2147483648 = true) (he : 0 ≤ e ∧ e < (n : Int)) : RUN d y (pc, ls, aI (iI v) :: aI (iI e) :: aR a b :: st) (HX m q V) = RUN d y (nx, ls, st) (HX m q (upV V a b e v)) := by
  have hn' : n < 2147483648 := Nat.blt_eq.mp hn
  refine RUN_gi hcd (cs := [vp_in (iI e) n]) ?_ ⟨iI_in he hn', trivial⟩
  show (match upS (am_S0 q.1.1 q.1.2) 46 m (some (Sum.inl (0, 32, fun _ => aN))) a b with
    | some (Sum.inl (0, n, g)) => goC (vp_in (iI e) n) nx ls st (upS (am_S0 q.1.1 q.1.2) 46 m (some (Sum.inl (0, 32, fun _ => aN))), q.2.1, upI (lft V) a b (iI e).toNatClampNeg (iI v), q.2.2)
    | _ => stuck) = _
  rw [hS]
  try dsimp only
  rw [iI_nat (by omega), lft_upE V a b he.1]
  rfl
theorem RUN_cix {y' : Nat} {ins : Ins} {as : List AV} {fr2 : Fr} {r : Option AV} (hcd : am_cd y pc = ins) (e : ins (pc, ls, st) (HX m q V) = ([], Sum.inr (Sum.inl (y', as, fr2)))) (ok : am_aok y' as = true)
    (hr : RUN d y' (am_en y' as) (HX m q V) = some (Sum.inl r, HX m q V)) (hq : qle q q) : RUN (d + 1) y (pc, ls, st) (HX m q V) = RUN (d + 1) y (fr2.1 + 3, fr2.2.1, r.toList ++ fr2.2.2) (HX m q V) := by
  subst hcd
  exact RUN_call (fr := (pc, ls, st)) (by show allP (am_cd y pc (pc, ls, st) (HX m q V)).1; rw [e]; trivial) (by show (am_cd y pc (pc, ls, st) (HX m q V)).2 = _; rw [e]) ok hr (Nat.le_refl _) (Nat.le_refl _)
end
theorem run_220x {d mh : Nat} {q : QQ} {V : VV} {x1 : Int} {x2 z : Int} (p1 : 0 ≤ x1 ∧ x1 < 8) (p2 : 0 ≤ x2 ∧ x2 < 13) (h : V 34 0 (50 + 13 * x1 + x2) = z) : RUN d 220 (am_en 220 [aR 33 0, aI (iI x1), aI (iI x2)]) (HX mh q V) = rI z (HX mh q V) :=
  (show RUN d 220 (0, [sR 33 0, sI x1, sI x2], []) (HX mh q V) = _ from Eq.trans (k_aload rfl rfl) (Eq.trans (kx_getfr rfl rfl rfl) (Eq.trans (k_pushi 50 rfl rfl) (Eq.trans (k_pushi 13 rfl rfl) (Eq.trans (k_iload rfl rfl) (Eq.trans (k_bin rfl (iI_mul _ _)) (Eq.trans (k_bin rfl (iI_add _ _)) (Eq.trans (k_iload rfl rfl) (Eq.trans (k_bin rfl (iI_add _ _)) (Eq.trans (kx_ialdE rfl rfl rfl (by omega) h) (k_iret rfl trivial)))))))))))
theorem s_220_0x {d mh : Nat} {q : QQ} {V U : VV} {x1 : Int} (rk : rowok U) (mr : MR V U) (p : 0 ≤ x1 ∧ x1 < 8) : RUN d 220 (am_en 220 [aR 33 0, aI (iI x1), aI (iI 0)]) (HX mh q V) = rI (U 4 0 x1) (HX mh q V) := run_220x p (by decide) (mr_t0 mr p)
theorem s_220_1x {d mh : Nat} {q : QQ} {V U : VV} {x1 : Int} (rk : rowok U) (mr : MR V U) (p : 0 ≤ x1 ∧ x1 < 8) : RUN d 220 (am_en 220 [aR 33 0, aI (iI x1), aI (iI 1)]) (HX mh q V) = rI (U 5 0 x1) (HX mh q V) := run_220x p (by decide) (mr_t1 mr p)
theorem e_231x {d mh : Nat} {q : QQ} {V U : VV} {x1 : Int}  (rk : rowok U) (mr : MR V U) (p3 : 0 ≤ x1 ∧ x1 < 8) : RUN (d + 1) 231 (am_en 231 [aR 33 0, aI (iI x1)]) (HX mh q V) = rI ((U 3 0 (U 4 0 x1)) + (U 5 0 x1)) (HX mh q V) := (show RUN (d + 1) 231 (0, [sR 33 0, sI x1], []) (HX mh q V) = _ from Eq.trans (k_aload rfl rfl) (Eq.trans (kx_getfr rfl rfl rfl) (Eq.trans (k_pushi 2 rfl rfl) (Eq.trans (k_aload rfl rfl) (Eq.trans (k_iload rfl rfl) (Eq.trans (k_pushi 0 rfl rfl) (Eq.trans (RUN_cix rfl rfl rfl (s_220_0x rk mr p3) (qle_refl _)) (Eq.trans (k_bin rfl (iI_add _ _)) (Eq.trans (kx_ialdE rfl rfl rfl (by have f0_0 := rk_4 (j := x1) rk p3; omega) (mr_g mr (j := U 4 0 x1) (by have f0_0 := rk_4 (j := x1) rk p3; omega))) (Eq.trans (k_aload rfl rfl) (Eq.trans (k_iload rfl rfl) (Eq.trans (k_pushi 1 rfl rfl) (Eq.trans (RUN_cix rfl rfl rfl (s_220_1x rk mr p3) (qle_refl _)) (Eq.trans (k_bin rfl (iI_add _ _)) (k_iret rfl trivial)))))))))))))))
theorem s_231x {d mh : Nat} {q : QQ} {V U : VV} {x1 : Int} (rk : rowok U) (mr : MR V U) (p : 0 ≤ x1 ∧ x1 < 8) : RUN (d + 1) 231 (am_en 231 [aR 33 0, aI (iI x1)]) (HX mh q V) = rI (eyeV (U 3 0) (U 4 0) (U 5 0) x1) (HX mh q V) := e_231x rk mr p
theorem g_238_0x {d mh : Nat} {q : QQ} {V U : VV} {x1 : Int} {x2 : Int} {x3 : Int} {x4 : Int}  (rk : rowok U) (mr : MR V U) (h3 : R32 x3) (h4 : R32 x1) (h5 : (x3 ≤ x1) → (R32 (x3 - x1))) (h6 : (¬ (x3 ≤ x1)) → (R32 (x3 - x1))) : RUN d 238 (am_en 238 [aR 33 0, aI (iI x1), aI (iI x2), aI (iI x3), aI (iI x4)]) (HX mh q V) = cif (x3 ≤ x1) (RUN d 238 (23, [sR 33 0, sI x1, sI x2, sI x3, sI x4, sI (-1), sI (max (x3 - x1) (-(x3 - x1))), sI 1, none], []) (HX mh q V)) (RUN d 238 (23, [sR 33 0, sI x1, sI x2, sI x3, sI x4, sI 1, sI (max (x3 - x1) (-(x3 - x1))), sI 1, none], []) (HX mh q V)) := (show RUN d 238 (0, [sR 33 0, sI x1, sI x2, sI x3, sI x4, none, none, none, none], []) (HX mh q V) = _ from Eq.trans (k_iload rfl rfl) (Eq.trans (k_iload rfl rfl) (Eq.trans (k_icmpc (x3 ≤ x1) rfl (iI_le h3 h4)) (k_cifs (fun c1 => Eq.trans (k_pushi (-1) rfl rfl) (Eq.trans (k_store rfl) (Eq.trans (k_iload rfl rfl) (Eq.trans (k_iload rfl rfl) (Eq.trans (k_bin rfl (iI_sub _ _)) (Eq.trans (k_m1 rfl rfl (iI_abs (h5 c1))) (Eq.trans (k_store rfl) (Eq.trans (k_pushi 1 rfl rfl) (Eq.trans (k_store rfl) (rfl)))))))))) (fun c1 => Eq.trans (k_pushi 1 rfl rfl) (Eq.trans (k_goto rfl) (Eq.trans (k_store rfl) (Eq.trans (k_iload rfl rfl) (Eq.trans (k_iload rfl rfl) (Eq.trans (k_bin rfl (iI_sub _ _)) (Eq.trans (k_m1 rfl rfl (iI_abs (h6 c1))) (Eq.trans (k_store rfl) (Eq.trans (k_pushi 1 rfl rfl) (Eq.trans (k_store rfl) (rfl)))))))))))))))
theorem g_238_23x {d mh : Nat} {q : QQ} {V U : VV} {x1 : Int} {x2 : Int} {l3 : Option AV} {x4 : Int} {x5 : Int} {x6 : Int} {x7 : Int} {l8 : Option AV}  (rk : rowok U) (mr : MR V U) (h3 : R32 x6) (h4 : R32 x7) (h5 : (¬ (x6 ≤ x7)) → (0 ≤ ((2 + x1) + (x5 * x7)) ∧ ((2 + x1) + (x5 * x7)) < 154)) (h6 : (¬ (x6 ≤ x7)) → (0 ≤ (x1 + (x5 * x7)) ∧ (x1 + (x5 * x7)) < 32)) (h7 : (¬ (x6 ≤ x7)) → (R32 ((U 3 0 (x1 + (x5 * x7))) * x6))) (h8 : (¬ (x6 ≤ x7)) → (R32 ((x2 * (x6 - x7)) + (x4 * x7)))) : RUN d 238 (23, [sR 33 0, sI x1, sI x2, l3, sI x4, sI x5, sI x6, sI x7, l8], []) (HX mh q V) = cif (x6 ≤ x7) (rI 1 (HX mh q V)) (cif (((U 3 0 (x1 + (x5 * x7))) * x6) < ((x2 * (x6 - x7)) + (x4 * x7))) (RUN d 238 (23, [sR 33 0, sI x1, sI x2, l3, sI x4, sI x5, sI x6, sI (x7 + 1), sI ((x2 * (x6 - x7)) + (x4 * x7))], []) (HX mh q V)) (rI 0 (HX mh q V))) := Eq.trans (k_iload rfl rfl) (Eq.trans (k_iload rfl rfl) (Eq.trans (k_icmpc (x6 ≤ x7) rfl (iI_le h3 h4)) (k_cifs (fun c1 => Eq.trans (k_pushi 1 rfl rfl) (k_iret rfl (iI_bool (z := 1) (by decide)))) (fun c1 => Eq.trans (k_iload rfl rfl) (Eq.trans (k_iload rfl rfl) (Eq.trans (k_iload rfl rfl) (Eq.trans (k_bin rfl (iI_sub _ _)) (Eq.trans (k_bin rfl (iI_mul _ _)) (Eq.trans (k_iload rfl rfl) (Eq.trans (k_iload rfl rfl) (Eq.trans (k_bin rfl (iI_mul _ _)) (Eq.trans (k_bin rfl (iI_add _ _)) (Eq.trans (k_store rfl) (Eq.trans (k_aload rfl rfl) (Eq.trans (kx_getfr rfl rfl rfl) (Eq.trans (k_pushi 2 rfl rfl) (Eq.trans (k_iload rfl rfl) (Eq.trans (k_bin rfl (iI_add _ _)) (Eq.trans (k_iload rfl rfl) (Eq.trans (k_iload rfl rfl) (Eq.trans (k_bin rfl (iI_mul _ _)) (Eq.trans (k_bin rfl (iI_add _ _)) (Eq.trans (kx_ialdE rfl rfl rfl (h5 c1) (mr_g2 mr (a := x1) (b := x5 * x7) (h6 c1))) (Eq.trans (k_iload rfl rfl) (Eq.trans (k_bin rfl (iI_mul _ _)) (Eq.trans (k_iload rfl rfl) (Eq.trans (k_icmpc (((U 3 0 (x1 + (x5 * x7))) * x6) < ((x2 * (x6 - x7)) + (x4 * x7))) rfl (iI_lt (h7 c1) (h8 c1))) (k_cifs (fun c2 => Eq.trans (k_iinc 1 rfl rfl rfl) (Eq.trans (k_goto rfl) (rfl))) (fun c2 => Eq.trans (k_pushi 0 rfl rfl) (k_iret rfl (iI_bool (z := 0) (by decide))))))))))))))))))))))))))))))))
set_option maxHeartbeats 1000000 in
theorem lp_238x {d mh : Nat} {q : QQ} {V U : VV} (rk : rowok U) (mr : MR V U) {a ha hb D dir : Int} {l3 : Option AV} (h1 : 0 ≤ ha ∧ ha ≤ 18) (h2 : 0 ≤ hb ∧ hb ≤ 18) (h3 : 0 ≤ D ∧ D ≤ 31) (hin : ∀ k, 1 ≤ k → k < D → 0 ≤ a + dir * k ∧ a + dir * k < 32) :
    ∀ (n : Nat) (k : Int) (l8 : Option AV), D - k ≤ n → 1 ≤ k → k ≤ 32 → RUN d 238 (23, [sR 33 0, sI a, sI ha, l3, sI hb, sI dir, sI D, sI k, l8], []) (HX mh q V) = rI (b2i (∀ j, k ≤ j → j < D → U 3 0 (a + dir * j) * D < ha * (D - j) + hb * j)) (HX mh q V) := by
  intro n
  induction n with
  | zero =>
    intro k l8 hn hk hk2
    rw [g_238_23x rk mr (by omega) (by omega) (by intro h; omega) (by intro h; omega) (by intro h; omega) (by intro h; omega), cif_pos (by omega), b2i_pos (by intro j hj1 hj2; omega)]
  | succ n ih =>
    intro k l8 hn hk hk2
    by_cases hc : D ≤ k
    · rw [g_238_23x rk mr (by omega) (by omega) (by intro h; omega) (by intro h; omega) (by intro h; omega) (by intro h; omega), cif_pos (by omega), b2i_pos (by intro j hj1 hj2; omega)]
    · have i1 := hin k hk (by omega)
      have i2 := rk_3 rk i1
      have m1 := mul_b i2 h3
      have m2 := mul_b h1 (show 0 ≤ D - k ∧ D - k ≤ 31 by omega)
      have m3 := mul_b h2 (show 0 ≤ k ∧ k ≤ 31 by omega)
      rw [g_238_23x rk mr (by omega) (by omega) (fun _ => by omega) (fun _ => i1) (fun _ => by omega) (fun _ => by omega), cif_neg hc]
      by_cases hl : U 3 0 (a + dir * k) * D < ha * (D - k) + hb * k
      · rw [cif_pos hl, ih (k + 1) _ (by omega) (by omega) (by omega)]
        rw [b2i_iff (Q := ∀ j, k ≤ j → j < D → U 3 0 (a + dir * j) * D < ha * (D - j) + hb * j)]
        constructor
        · intro h j hj1 hj2
          by_cases e : j = k
          · rw [e]; exact hl
          · exact h j (by omega) hj2
        · intro h j hj1 hj2
          exact h j (by omega) hj2
      · rw [cif_neg hl, b2i_neg (fun h => hl (h k (by omega) (by omega)))]
theorem s_238x {d mh : Nat} {q : QQ} {V U : VV} {x1 x2 x3 x4 : Int} (rk : rowok U) (mr : MR V U) (h1 : 0 ≤ x1 ∧ x1 < 32) (h2 : 0 ≤ x2 ∧ x2 < 19) (h3 : 0 ≤ x3 ∧ x3 < 32) (h4 : 0 ≤ x4 ∧ x4 < 19) :
    RUN d 238 (am_en 238 [aR 33 0, aI (iI x1), aI (iI x2), aI (iI x3), aI (iI x4)]) (HX mh q V) = rI (b2i (clear (U 3 0) x1 x2 x3 x4)) (HX mh q V) := by
  rw [g_238_0x rk mr (by omega) (by omega) (fun _ => by omega) (fun _ => by omega)]
  unfold clear
  refine cif_eq (fun c => ?_) (fun c => ?_)
  · rw [lp_238x rk mr (by omega) (by omega) (by omega) (by intro k a1 a2; omega) 32 1 none (by omega) (by omega) (by omega), if_neg (show ¬ x1 < x3 by omega)]
  · rw [lp_238x rk mr (by omega) (by omega) (by omega) (by intro k a1 a2; omega) 32 1 none (by omega) (by omega) (by omega), if_pos (show x1 < x3 by omega)]
theorem e_241x {d mh : Nat} {q : QQ} {V U : VV} {x1 : Int} {x2 : Int}  (rk : rowok U) (mr : MR V U) (p3 : 0 ≤ x1 ∧ x1 < 8) (p4 : 0 ≤ x2 ∧ x2 < 32) : RUN (d + 2) 241 (am_en 241 [aR 33 0, aI (iI x1), aI (iI x2)]) (HX mh q V) = rI (b2i (clear (U 3 0) (U 4 0 x1) (eyeV (U 3 0) (U 4 0) (U 5 0) x1) x2 (U 3 0 x2))) (HX mh q V) := (show RUN (d + 2) 241 (0, [sR 33 0, sI x1, sI x2], []) (HX mh q V) = _ from Eq.trans (k_aload rfl rfl) (Eq.trans (k_aload rfl rfl) (Eq.trans (k_iload rfl rfl) (Eq.trans (k_pushi 0 rfl rfl) (Eq.trans (RUN_cix rfl rfl rfl (s_220_0x rk mr p3) (qle_refl _)) (Eq.trans (k_aload rfl rfl) (Eq.trans (k_iload rfl rfl) (Eq.trans (RUN_cix rfl rfl rfl (s_231x rk mr p3) (qle_refl _)) (Eq.trans (k_iload rfl rfl) (Eq.trans (k_aload rfl rfl) (Eq.trans (kx_getfr rfl rfl rfl) (Eq.trans (k_pushi 2 rfl rfl) (Eq.trans (k_iload rfl rfl) (Eq.trans (k_bin rfl (iI_add _ _)) (Eq.trans (kx_ialdE rfl rfl rfl (by omega) (mr_g mr (j := x2) p4)) (Eq.trans (RUN_cix rfl rfl rfl (s_238x rk mr (by have f0_0 := rk_4 (j := x1) rk p3; omega) (by have f0_0 := eyeV_b rk (t := x1) p3; omega) p4 (by have f0_0 := rk_3 (j := x2) rk p4; omega)) (qle_refl _)) (k_iret rfl (iI_bool (b2i_01 _)))))))))))))))))))
theorem s_241x {d mh : Nat} {q : QQ} {V U : VV} {x1 : Int} {x2 : Int} (rk : rowok U) (mr : MR V U) (p2 : 0 ≤ x1 ∧ x1 < 8) (p3 : 0 ≤ x2 ∧ x2 < 32) : RUN (d + 2) 241 (am_en 241 [aR 33 0, aI (iI x1), aI (iI x2)]) (HX mh q V) = rI (b2i (seeP (U 3 0) (U 4 0) (U 5 0) x1 x2)) (HX mh q V) := by
  rw [e_241x rk mr p2 p3]
  repeat' (refine cif_eq (fun _ => ?_) (fun _ => ?_))
  all_goals first | (refine rI0_b ?_; omega) | (refine rI1_b ?_; omega) | (refine congrArg (fun z => rI z (HX mh q V)) (b2i_iff ?_); omega) | rfl | (refine rI0_b ?_; intro hh; simp_all [seeP]; done) | (refine rI1_b ?_; simp_all [seeP]; done)
theorem g_245_0x {d mh : Nat} {q : QQ} {V : VV} {x0 : Int}  : RUN d 245 (am_en 245 [aI (iI x0)]) (HX mh q V) = RUN d 245 (4, [sI x0, sI 0, sI x0], []) (HX mh q V) := (show RUN d 245 (0, [sI x0, none, none], []) (HX mh q V) = _ from Eq.trans (k_pushi 0 rfl rfl) (Eq.trans (k_store rfl) (Eq.trans (k_iload rfl rfl) (Eq.trans (k_store rfl) (rfl)))))
theorem g_245_4x {d mh : Nat} {q : QQ} {V : VV} {l0 : Option AV} {x1 : Int} {x2 : Int}  (h1 : R32 x2) : RUN d 245 (4, [l0, sI x1, sI x2], []) (HX mh q V) = cif (x2 ≤ 0) (rI x1 (HX mh q V)) (RUN d 245 (4, [l0, sI (x1 + (bAnd x2 1)), sI (bShr x2 1)], []) (HX mh q V)) := Eq.trans (k_iload rfl rfl) (Eq.trans (k_ifc (x2 ≤ 0) rfl (iI_le0 h1)) (k_cifs (fun c1 => Eq.trans (k_iload rfl rfl) (k_iret rfl trivial)) (fun c1 => Eq.trans (k_iload rfl rfl) (Eq.trans (k_iload rfl rfl) (Eq.trans (k_pushi 1 rfl rfl) (Eq.trans (k_bin (c := bAnd x2 1) rfl (iI_of _).symm) (Eq.trans (k_bin rfl (iI_add _ _)) (Eq.trans (k_store rfl) (Eq.trans (k_iload rfl rfl) (Eq.trans (k_pushi 1 rfl rfl) (Eq.trans (k_bin (c := bShr x2 1) rfl (iI_of _).symm) (Eq.trans (k_store rfl) (Eq.trans (k_goto rfl) (rfl))))))))))))))
theorem s_245x {d mh : Nat} {q : QQ} {V : VV} {x0 : Int} (p : 0 ≤ x0 ∧ x0 < 256) : RUN d 245 (am_en 245 [aI (iI x0)]) (HX mh q V) = rI (popF x0) (HX mh q V) := by
  rw [g_245_0x]
  have key : ∀ (z : Nat) (m : Int), z < 256 → RUN d 245 (4, [sI x0, sI m, sI (z : Int)], []) (HX mh q V) = rI (m + (pc8 z : Nat)) (HX mh q V) := by
    intro z
    induction z using Nat.strongRecOn with
    | ind z ih =>
      intro m hz
      rw [g_245_4x (by constructor <;> omega)]
      obtain ⟨a1, a2, a3⟩ := half_ok z hz
      by_cases c : (z : Int) ≤ 0
      · rw [cif_pos c]
        have : z = 0 := by omega
        subst this
        exact congrArg (fun y => rI y (HX mh q V)) (show m = m + ((pc8 0 : Nat) : Int) by rw [pc8_0]; omega)
      · rw [cif_neg c, a1, a2, ih (z / 2) (by omega) _ (by omega), a3]
        exact congrArg (fun y => rI y (HX mh q V)) (by omega)
  have := key x0.toNat 0 (by omega)
  rw [show ((x0.toNat : Nat) : Int) = x0 by omega] at this
  rw [this, popF_small p]
  exact congrArg (fun y => rI y (HX mh q V)) (Int.zero_add _)
