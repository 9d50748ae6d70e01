/-! the law's cases of the means -/
section
variable {d y pc nx : Nat} {ls : List (Option AV)} {st : List AV} {h : AH}
theorem k_dcmp {a b : UInt64} {op : CmpOp} (hcd : am_cd y pc = i_dcmp op nx) : RUN d y (pc, ls, aD b :: aD a :: st) h = RUN d y (nx, ls, aI (iI (Op.cmpValue (FP.dcmp a b) op).toInt) :: st) h := by
  rw [iI_toInt]
  exact RUN_gi hcd rfl trivial
theorem k_dstore {i : Nat} {x : UInt64} (hcd : am_cd y pc = i_dstore i nx) : RUN d y (pc, ls, aD x :: st) h = RUN d y (nx, (ls.set i (some (aD x))).set (i + 1) none, st) h := RUN_gi hcd rfl trivial
theorem k_fstore {i : Nat} {x : UInt32} (hcd : am_cd y pc = i_fstore i nx) : RUN d y (pc, ls, aF x :: st) h = RUN d y (nx, ls.set i (some (aF x)), st) h := RUN_gi hcd rfl trivial
theorem k_dload {i : Nat} {x : UInt64} (hcd : am_cd y pc = i_dload i nx) (hl : ls[i]? = some (some (aD x))) : RUN d y (pc, ls, st) h = RUN d y (nx, ls, aD x :: st) h := by
  refine RUN_gi (cs := []) hcd ?_ trivial
  unfold i_dload
  dsimp only
  rw [hl]
theorem k_fload {i : Nat} {x : UInt32} (hcd : am_cd y pc = i_fload i nx) (hl : ls[i]? = some (some (aF x))) : RUN d y (pc, ls, st) h = RUN d y (nx, ls, aF x :: st) h := by
  refine RUN_gi (cs := []) hcd ?_ trivial
  unfold i_fload
  dsimp only
  rw [hl]
theorem k_daldE {q : QQ} {V : VV} {v : UInt64} (hcd : am_cd y pc = i_dald nx) (e : q.2.2.2 45 0 0 = v) : RUN d y (pc, ls, aI (iI 0) :: aR 45 0 :: st) (HM q V) = RUN d y (nx, ls, aD v :: st) (HM q V) := by
  subst e
  exact k_dald hcd
end
theorem fp_e : ∀ a : Fin 9, ∀ b : Fin 8, Op.cmpValue (FP.dcmp (FP.f2d (FP.fdiv (FP.i2f (iI (a.val : Int))) (FP.i2f (iI ((b.val : Int) + 1))))) (FP.f2d (FP.fdiv (FP.i2f (iI (a.val : Int))) (FP.i2f (iI ((b.val : Int) + 1)))))) .l = iI 0 := by
  decide +kernel
theorem meanF_e {s n : Int} (hs : 0 ≤ s ∧ s ≤ 8) (hn : 1 ≤ n ∧ n ≤ 8) : Op.cmpValue (FP.dcmp (FP.f2d (meanF s n)) (FP.f2d (meanF s n))) .l = iI 0 := by
  have := fp_e ⟨s.toNat, by omega⟩ ⟨(n - 1).toNat, by omega⟩
  have e1 : ((s.toNat : Nat) : Int) = s := by omega
  have e2 : (((n - 1).toNat : Nat) : Int) + 1 = n := by omega
  unfold meanF
  rw [← e1, ← e2]
  exact this
section
variable {D : Nat} {B i : Int} {H V V' : VV} {q q' : QQ}
theorem wr_152_ok {x : UInt64} (hc : RUN D 153 (am_en 153 [aR 1 0]) (HM q V) = rD x (HM q' V')) (hq : qle q q') : RUN (D + 1) 152 (am_en 152 [aR 1 0, aR 45 0]) (HM q V) = rI 0 (HM (qD q' x) V') :=
  (show RUN (D + 1) 152 (0, [sR 1 0, sR 45 0, none], []) (HM q V) = _ from Eq.trans (k_aload rfl rfl) (Eq.trans (k_pushi 0 rfl rfl) (Eq.trans (k_aload rfl rfl) (Eq.trans (RUN_ci rfl rfl rfl hc hq) (Eq.trans (k_dast rfl) (Eq.trans (k_goto rfl) (Eq.trans (k_pushi 0 rfl rfl) (k_iret rfl trivial))))))))
theorem wr_154_ok {x : UInt32} (ok : vf_n64 (FP.f2d x)) (hc : RUN D 155 (am_en 155 [aR 1 0]) (HM q V) = rF x (HM q' V')) (hq : qle q q') : RUN (D + 1) 154 (am_en 154 [aR 1 0, aR 45 0]) (HM q V) = rI 0 (HM (qD q' (FP.f2d x)) V') :=
  (show RUN (D + 1) 154 (0, [sR 1 0, sR 45 0, none], []) (HM q V) = _ from Eq.trans (k_aload rfl rfl) (Eq.trans (k_pushi 0 rfl rfl) (Eq.trans (k_aload rfl rfl) (Eq.trans (RUN_ci rfl rfl rfl hc hq) (Eq.trans (k_f2d rfl ok) (Eq.trans (k_dast rfl) (Eq.trans (k_goto rfl) (Eq.trans (k_pushi 0 rfl rfl) (k_iret rfl trivial)))))))))
theorem qu2_qup {q q1 : QQ} (h : qup q q1) : qu2 q q1 := qu2_of h (qst_refl q1)
theorem cse_40 {d : Nat} (h : CR B H H) (hB : B ≤ 999990) : Nxt B (d + 14) 2461 i q H := by
  have rk := CR_rk h hB
  have mr := CR_mr h
  intro a b c
  by_cases n : H 2 0 8 = 0
  · have e := wr_152_5 ((s_153 (d := d + 11) (q := q) rk).trans (cif_pos n)) (qle_thr q)
    have m := (s_283 (d := d + 11) (q := thr q) rk mr).trans (cif_pos n)
    refine ⟨thr q, upV H 33 0 6 1, sI 1, some (aD FP.dconst0), none, qu2_qup (qup_thr q), CR_6 h, ?_⟩
    refine Eq.trans (k_aload rfl rfl) (Eq.trans (k_aload rfl rfl) (Eq.trans (RUN_ci rfl rfl rfl e (qle_thr q)) (Eq.trans (k_store rfl) (Eq.trans (k_aload rfl rfl) (Eq.trans (RUN_ci rfl rfl rfl m (qle_refl _)) (Eq.trans (k_dstore rfl) (Eq.trans (k_aload rfl rfl) (Eq.trans (RUN_ci rfl rfl rfl e_209 (qle_refl _)) (Eq.trans (k_iload rfl rfl) ?_)))))))))
    exact Eq.trans (Eq.trans (k_icmpc ((1 : Int) = 1) rfl (iI_eq (show R32 (1 : Int) by decide) (show R32 (1 : Int) by decide))) (cif_pos rfl)) (Eq.trans (k_iload rfl rfl) (Eq.trans (Eq.trans (k_ifcN ((1 : Int) = 0) rfl (iI_ne0 (show R32 (1 : Int) by decide))) (cif_neg (by decide))) (k_goto rfl)))
  · have e := wr_152_ok ((s_153 (d := d + 11) (q := q) rk).trans (cif_neg n)) (qle_refl q)
    have m := fun q' : QQ => (s_283 (d := d + 11) (q := q') rk mr).trans (cif_neg n)
    generalize meanD (sumI (eyeV (H 3 0) (H 4 0) (H 5 0)) (H 2 0 8)) (H 2 0 8) = x at e m
    have m := m (qD q x)
    refine ⟨qD q x, upV H 33 0 6 0, sI 0, some (aD x), none, qu2_qup (qup_D q x), CR_6 h, ?_⟩
    refine Eq.trans (Eq.trans (k_aload rfl rfl) (Eq.trans (k_aload rfl rfl) (Eq.trans (RUN_ci rfl rfl rfl e (qle_D q x)) (Eq.trans (k_store rfl) (Eq.trans (k_aload rfl rfl) (Eq.trans (RUN_ci rfl rfl rfl m (qle_refl _)) (Eq.trans (k_dstore rfl) (Eq.trans (k_aload rfl rfl) (Eq.trans (RUN_ci rfl rfl rfl e_209 (qle_refl _)) (Eq.trans (k_iload rfl rfl) (Eq.trans (Eq.trans (k_icmpc ((0 : Int) = 0) rfl (iI_eq (show R32 (0 : Int) by decide) (show R32 (0 : Int) by decide))) (cif_pos rfl)) (Eq.trans (k_iload rfl rfl) (Eq.trans (Eq.trans (k_ifcN ((0 : Int) = 0) rfl (iI_ne0 (show R32 (0 : Int) by decide))) (cif_pos rfl)) (Eq.trans (k_aload rfl rfl) (Eq.trans (k_pushi 0 rfl rfl) (Eq.trans (k_daldE rfl (qD_at q x)) (Eq.trans (k_dload rfl rfl) (k_dcmp rfl)))))))))))))))))) ?_
    by_cases z : Op.cmpValue (FP.dcmp x x) .l = 0
    · exact Eq.trans (Eq.trans (k_ifc (Op.cmpValue (FP.dcmp x x) .l = 0) rfl (by rw [iI_toInt])) (cif_pos z)) (k_goto rfl)
    · refine Eq.trans (Eq.trans (k_ifc (Op.cmpValue (FP.dcmp x x) .l = 0) rfl (by rw [iI_toInt])) (cif_neg z)) ?_
      exact (Eq.trans (k_aload rfl rfl) (Eq.trans (k_pushi 0 rfl rfl) (Eq.trans (k_daldE rfl (qD_at q x)) (Eq.trans (k_aload rfl rfl) (Eq.trans (k_pushi 0 rfl rfl) (Eq.trans (k_daldE rfl (qD_at q x)) (Eq.trans (k_dcmp rfl) (Eq.trans (Eq.trans (k_ifc (Op.cmpValue (FP.dcmp x x) .l = 0) rfl (by rw [iI_toInt])) (cif_neg z)) (Eq.trans (k_dload rfl rfl) (Eq.trans (k_dload rfl rfl) (Eq.trans (k_dcmp rfl) (Eq.trans (Eq.trans (k_ifcN (Op.cmpValue (FP.dcmp x x) .l = 0) rfl (by rw [iI_toInt])) (cif_neg z)) (k_goto rfl)))))))))))))
theorem cse_41 {d : Nat} (h : CR B H H) (hB : B ≤ 999990) : Nxt B (d + 14) 2526 i q H := by
  have rk := CR_rk h hB
  have mr := CR_mr h
  have hn := rk_n rk
  have hs := cntI_b (fun t => H 6 0 t = 0) hn.1
  intro a b c
  by_cases n : H 2 0 8 = 0
  · have e := wr_154_5 ((s_155 (d := d + 12) (q := q) rk).trans (cif_pos n)) (qle_thr q)
    have m := (s_284 (d := d + 11) (q := thr q) rk mr).trans (cif_pos n)
    refine ⟨thr q, upV H 33 0 6 1, sI 1, some (aF FP.fconst0), c, qu2_qup (qup_thr q), CR_6 h, ?_⟩
    refine Eq.trans (k_aload rfl rfl) (Eq.trans (k_aload rfl rfl) (Eq.trans (RUN_ci rfl rfl rfl e (qle_thr q)) (Eq.trans (k_store rfl) (Eq.trans (k_aload rfl rfl) (Eq.trans (RUN_ci rfl rfl rfl m (qle_refl _)) (Eq.trans (k_fstore rfl) (Eq.trans (k_aload rfl rfl) (Eq.trans (RUN_ci rfl rfl rfl e_209 (qle_refl _)) (Eq.trans (k_iload rfl rfl) ?_)))))))))
    exact Eq.trans (Eq.trans (k_icmpc ((1 : Int) = 1) rfl (iI_eq (show R32 (1 : Int) by decide) (show R32 (1 : Int) by decide))) (cif_pos rfl)) (Eq.trans (k_iload rfl rfl) (Eq.trans (Eq.trans (k_ifcN ((1 : Int) = 0) rfl (iI_ne0 (show R32 (1 : Int) by decide))) (cif_neg (by decide))) (k_goto rfl)))
  · have ok := (meanF_ok (s := cntI (fun t => H 6 0 t = 0) (H 2 0 8)) (n := H 2 0 8) (by omega) (by omega)).2
    have z : Op.cmpValue (FP.dcmp (FP.f2d (meanF (cntI (fun t => H 6 0 t = 0) (H 2 0 8)) (H 2 0 8))) (FP.f2d (meanF (cntI (fun t => H 6 0 t = 0) (H 2 0 8)) (H 2 0 8)))) .l = 0 := meanF_e (by omega) (by omega)
    have e := wr_154_ok ok ((s_155 (d := d + 12) (q := q) rk).trans (cif_neg n)) (qle_refl q)
    have m := fun q' : QQ => (s_284 (d := d + 11) (q := q') rk mr).trans (cif_neg n)
    generalize meanF (cntI (fun t => H 6 0 t = 0) (H 2 0 8)) (H 2 0 8) = x at e m ok z
    have m := m (qD q (FP.f2d x))
    refine ⟨qD q (FP.f2d x), upV H 33 0 6 0, sI 0, some (aF x), c, qu2_qup (qup_D q (FP.f2d x)), CR_6 h, ?_⟩
    exact (Eq.trans (k_aload rfl rfl) (Eq.trans (k_aload rfl rfl) (Eq.trans (RUN_ci rfl rfl rfl e (qle_D q (FP.f2d x))) (Eq.trans (k_store rfl) (Eq.trans (k_aload rfl rfl) (Eq.trans (RUN_ci rfl rfl rfl m (qle_refl _)) (Eq.trans (k_fstore rfl) (Eq.trans (k_aload rfl rfl) (Eq.trans (RUN_ci rfl rfl rfl e_209 (qle_refl _)) (Eq.trans (k_iload rfl rfl) (Eq.trans (Eq.trans (k_icmpc ((0 : Int) = 0) rfl (iI_eq (show R32 (0 : Int) by decide) (show R32 (0 : Int) by decide))) (cif_pos rfl)) (Eq.trans (k_iload rfl rfl) (Eq.trans (Eq.trans (k_ifcN ((0 : Int) = 0) rfl (iI_ne0 (show R32 (0 : Int) by decide))) (cif_pos rfl)) (Eq.trans (k_aload rfl rfl) (Eq.trans (k_pushi 0 rfl rfl) (Eq.trans (k_daldE rfl (qD_at q (FP.f2d x))) (Eq.trans (k_fload rfl rfl) (Eq.trans (k_f2d rfl ok) (Eq.trans (k_dcmp rfl) (Eq.trans (Eq.trans (k_ifc (Op.cmpValue (FP.dcmp (FP.f2d x) (FP.f2d x)) .l = 0) rfl (by rw [iI_toInt])) (cif_pos z)) (k_goto rfl)))))))))))))))))))))
end
