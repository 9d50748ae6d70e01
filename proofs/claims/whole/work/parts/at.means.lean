/-! the means -/
def rD (x : UInt64) (h : AH) : Option (Out × AH) := some (Sum.inl (some (aD x)), h)
def rF (x : UInt32) (h : AH) : Option (Out × AH) := some (Sum.inl (some (aF x)), h)
section
variable {d y pc nx : Nat} {ls : List (Option AV)} {st : List AV} {h : AH}
theorem k_i2d {x : Int} (hcd : am_cd y pc = i_i2d nx) : RUN d y (pc, ls, aI (iI x) :: st) h = RUN d y (nx, ls, aD (FP.i2d (iI x)) :: st) h := RUN_gi hcd rfl trivial
theorem k_i2f {x : Int} (hcd : am_cd y pc = i_i2f nx) : RUN d y (pc, ls, aI (iI x) :: st) h = RUN d y (nx, ls, aF (FP.i2f (iI x)) :: st) h := RUN_gi hcd rfl trivial
theorem k_ddiv {a b : UInt64} (hcd : am_cd y pc = i_ddiv nx) (ok : vf_n64 (FP.ddiv a b)) : RUN d y (pc, ls, aD b :: aD a :: st) h = RUN d y (nx, ls, aD (FP.ddiv a b) :: st) h := RUN_gi hcd rfl ⟨ok, trivial⟩
theorem k_fdiv {a b : UInt32} (hcd : am_cd y pc = i_fdiv nx) (ok : vf_n32 (FP.fdiv a b)) : RUN d y (pc, ls, aF b :: aF a :: st) h = RUN d y (nx, ls, aF (FP.fdiv a b) :: st) h := RUN_gi hcd rfl ⟨ok, trivial⟩
theorem k_dret {x : UInt64} (hcd : am_cd y pc = i_dret) : RUN d y (pc, ls, [aD x]) h = rD x h := RUN_ei hcd rfl trivial
theorem k_fret {x : UInt32} (hcd : am_cd y pc = i_fret) : RUN d y (pc, ls, [aF x]) h = rF x h := RUN_ei hcd rfl trivial
end
section
variable {d : Nat} {q : QQ} {V U : VV}
theorem eyes_b {V : VV} (rk : rowok V) : ∀ j, 0 ≤ j → j < V 2 0 8 → 0 ≤ eyeV (V 3 0) (V 4 0) (V 5 0) j ∧ eyeV (V 3 0) (V 4 0) (V 5 0) j ≤ 18 := fun j h1 h2 => by
  have := eyeV_b rk (t := j) (by have := rk_n rk; omega)
  omega
theorem s_153 (rk : rowok V) : RUN (d + 1) 153 (am_en 153 [aR 1 0]) (HM q V) = cif (V 2 0 8 = 0) (rX 5 (HM (thr q) V)) (rD (meanD (sumI (eyeV (V 3 0) (V 4 0) (V 5 0)) (V 2 0 8)) (V 2 0 8)) (HM q V)) := by
  have hn := rk_n rk
  refine (show RUN (d + 1) 153 (0, [sR 1 0, none, none], []) (HM q V) = _ from Eq.trans (k_aload rfl rfl) (Eq.trans (k_getfr rfl rfl rfl) (Eq.trans (k_getfi 8 rfl rfl rfl rfl) (Eq.trans (k_ifcN (V 2 0 8 = 0) rfl (iI_ne0 (by constructor <;> omega))) (k_cifs (fun c => k_throw rfl rfl) (fun c => ?_))))))
  refine Eq.trans (k_pushi 0 rfl rfl) (Eq.trans (k_store rfl) (Eq.trans (k_pushi 0 rfl rfl) (Eq.trans (k_store rfl) ?_)))
  obtain ⟨_, e⟩ := loop_to (fun i s (_ : Unit) => RUN (d + 1) 153 (25, [sR 1 0, sI s, sI i], []) (HM q V)) (fun i => sumI (eyeV (V 3 0) (V 4 0) (V 5 0)) i) 0 (V 2 0 8) (by
    intro i l h1 h2
    refine ⟨(), ?_⟩
    try dsimp only
    rw [sumI_succ _ h1]
    exact Eq.trans (k_iload rfl rfl) (Eq.trans (k_aload rfl rfl) (Eq.trans (k_getfr rfl rfl rfl) (Eq.trans (k_getfi 8 rfl rfl rfl rfl) (Eq.trans (Eq.trans (k_icmpc (V 2 0 8 ≤ i) rfl (iI_le (by constructor <;> omega) (by constructor <;> omega))) (cif_neg (by omega))) (Eq.trans (k_iload rfl rfl) (Eq.trans (k_aload rfl rfl) (Eq.trans (k_getfr rfl rfl rfl) (Eq.trans (k_iload rfl rfl) (Eq.trans (RUN_ci rfl rfl rfl (s_18 rk (by omega)) (qle_refl _)) (Eq.trans (k_bin rfl (iI_add _ _)) (Eq.trans (k_store rfl) (Eq.trans (k_iinc 1 rfl rfl rfl) (k_goto rfl)))))))))))))) hn.1 ()
  refine Eq.trans e ?_
  have hs := sumI_b hn.1 (eyes_b rk)
  exact Eq.trans (k_iload rfl rfl) (Eq.trans (k_aload rfl rfl) (Eq.trans (k_getfr rfl rfl rfl) (Eq.trans (k_getfi 8 rfl rfl rfl rfl) (Eq.trans (Eq.trans (k_icmpc (V 2 0 8 ≤ V 2 0 8) rfl (iI_le (by constructor <;> omega) (by constructor <;> omega))) (cif_pos (by omega))) (Eq.trans (k_iload rfl rfl) (Eq.trans (k_i2d rfl) (Eq.trans (k_aload rfl rfl) (Eq.trans (k_getfr rfl rfl rfl) (Eq.trans (k_getfi 8 rfl rfl rfl rfl) (Eq.trans (k_i2d rfl) (Eq.trans (k_ddiv rfl (meanD_ok (by omega) (by omega))) (k_dret rfl))))))))))))
theorem s_155 (rk : rowok V) : RUN d 155 (am_en 155 [aR 1 0]) (HM q V) = cif (V 2 0 8 = 0) (rX 5 (HM (thr q) V)) (rF (meanF (cntI (fun t => V 6 0 t = 0) (V 2 0 8)) (V 2 0 8)) (HM q V)) := by
  have hn := rk_n rk
  refine (show RUN d 155 (0, [sR 1 0, none, none], []) (HM q V) = _ from Eq.trans (k_aload rfl rfl) (Eq.trans (k_getfr rfl rfl rfl) (Eq.trans (k_getfi 8 rfl rfl rfl rfl) (Eq.trans (k_ifcN (V 2 0 8 = 0) rfl (iI_ne0 (by constructor <;> omega))) (k_cifs (fun c => k_throw rfl rfl) (fun c => ?_))))))
  refine Eq.trans (k_pushi 0 rfl rfl) (Eq.trans (k_store rfl) (Eq.trans (k_pushi 0 rfl rfl) (Eq.trans (k_store rfl) ?_)))
  obtain ⟨_, e⟩ := loop_to (fun i s (_ : Unit) => RUN d 155 (25, [sR 1 0, sI s, sI i], []) (HM q V)) (fun i => cntI (fun t => V 6 0 t = 0) i) 0 (V 2 0 8) (by
    intro i l h1 h2
    refine ⟨(), ?_⟩
    try dsimp only
    rw [cntI_succ _ h1]
    have hm : 0 ≤ V 6 0 i ∧ V 6 0 i ≤ 3 := rk.2.2.2.2.2.1 i (by omega)
    refine Eq.trans (k_iload rfl rfl) (Eq.trans (k_aload rfl rfl) (Eq.trans (k_getfr rfl rfl rfl) (Eq.trans (k_getfi 8 rfl rfl rfl rfl) (Eq.trans (Eq.trans (k_icmpc (V 2 0 8 ≤ i) rfl (iI_le (by constructor <;> omega) (by constructor <;> omega))) (cif_neg (by omega))) (Eq.trans (k_aload rfl rfl) (Eq.trans (k_getfr rfl rfl rfl) (Eq.trans (k_getfr rfl rfl rfl) (Eq.trans (k_iload rfl rfl) (Eq.trans (k_iald rfl rfl rfl (by omega)) ?_)))))))))
    by_cases c2 : V 6 0 i = 0
    · rw [b2i_pos c2]
      exact Eq.trans (Eq.trans (k_ifcN (V 6 0 i = 0) rfl (iI_ne0 (by constructor <;> omega))) (cif_pos c2)) (Eq.trans (k_iinc 1 rfl rfl rfl) (Eq.trans (k_iinc 1 rfl rfl rfl) (k_goto rfl)))
    · rw [b2i_neg c2, Int.add_zero]
      exact Eq.trans (Eq.trans (k_ifcN (V 6 0 i = 0) rfl (iI_ne0 (by constructor <;> omega))) (cif_neg c2)) (Eq.trans (k_iinc 1 rfl rfl rfl) (k_goto rfl))) hn.1 ()
  refine Eq.trans e ?_
  have hs := cntI_b (fun t => V 6 0 t = 0) hn.1
  exact Eq.trans (k_iload rfl rfl) (Eq.trans (k_aload rfl rfl) (Eq.trans (k_getfr rfl rfl rfl) (Eq.trans (k_getfi 8 rfl rfl rfl rfl) (Eq.trans (Eq.trans (k_icmpc (V 2 0 8 ≤ V 2 0 8) rfl (iI_le (by constructor <;> omega) (by constructor <;> omega))) (cif_pos (by omega))) (Eq.trans (k_iload rfl rfl) (Eq.trans (k_i2f rfl) (Eq.trans (k_aload rfl rfl) (Eq.trans (k_getfr rfl rfl rfl) (Eq.trans (k_getfi 8 rfl rfl rfl rfl) (Eq.trans (k_i2f rfl) (Eq.trans (k_fdiv rfl (meanF_ok (by omega) (by omega)).1) (k_fret rfl))))))))))))
theorem s_283 (rk : rowok U) (mr : MR V U) : RUN (d + 2) 283 (am_en 283 [aR 33 0]) (HM q V) = cif (U 2 0 8 = 0) (rD FP.dconst0 (HM q (upV V 33 0 6 1))) (rD (meanD (sumI (eyeV (U 3 0) (U 4 0) (U 5 0)) (U 2 0 8)) (U 2 0 8)) (HM q (upV V 33 0 6 0))) := by
  have hn := rk_n rk
  refine (show RUN (d + 2) 283 (0, [sR 33 0, none, none], []) (HM q V) = _ from ?_)
  refine Eq.trans (k_pushi 0 rfl rfl) (Eq.trans (k_store rfl) (Eq.trans (k_pushi 0 rfl rfl) (Eq.trans (k_store rfl) ?_)))
  obtain ⟨_, e⟩ := loop_to (fun i s (_ : Unit) => RUN (d + 2) 283 (4, [sR 33 0, sI s, sI i], []) (HM q V)) (fun i => sumI (eyeV (U 3 0) (U 4 0) (U 5 0)) i) 0 (U 2 0 8) (by
    intro i l h1 h2
    refine ⟨(), ?_⟩
    try dsimp only
    rw [sumI_succ _ h1]
    exact Eq.trans (k_iload rfl rfl) (Eq.trans (k_aload rfl rfl) (Eq.trans (k_getfr rfl rfl rfl) (Eq.trans (k_pushi 1 rfl rfl) (Eq.trans (k_ialdE rfl rfl rfl (by decide) (mr_n mr)) (Eq.trans (Eq.trans (k_icmpc (U 2 0 8 ≤ i) rfl (iI_le (by constructor <;> omega) (by constructor <;> omega))) (cif_neg (by omega))) (Eq.trans (k_iload rfl rfl) (Eq.trans (k_aload rfl rfl) (Eq.trans (k_iload rfl rfl) (Eq.trans (RUN_ci rfl rfl rfl (s_231 rk mr (by omega)) (qle_refl _)) (Eq.trans (k_bin rfl (iI_add _ _)) (Eq.trans (k_store rfl) (Eq.trans (k_iinc 1 rfl rfl rfl) (k_goto rfl)))))))))))))) hn.1 ()
  refine Eq.trans e ?_
  have hs := sumI_b hn.1 (eyes_b rk)
  refine Eq.trans (k_iload rfl rfl) (Eq.trans (k_aload rfl rfl) (Eq.trans (k_getfr rfl rfl rfl) (Eq.trans (k_pushi 1 rfl rfl) (Eq.trans (k_ialdE rfl rfl rfl (by decide) (mr_n mr)) (Eq.trans (Eq.trans (k_icmpc (U 2 0 8 ≤ U 2 0 8) rfl (iI_le (by constructor <;> omega) (by constructor <;> omega))) (cif_pos (by omega))) (Eq.trans (k_aload rfl rfl) (Eq.trans (k_aload rfl rfl) (Eq.trans (k_getfr rfl rfl rfl) (Eq.trans (k_pushi 1 rfl rfl) (Eq.trans (k_ialdE rfl rfl rfl (by decide) (mr_n mr)) (Eq.trans (k_ifc (U 2 0 8 ≤ 0) rfl (iI_le0 (by constructor <;> omega))) ?_)))))))))))
  by_cases c : U 2 0 8 = 0
  · rw [cif_pos c, cif_pos (by omega)]
    exact Eq.trans (k_pushi 0 rfl rfl) (Eq.trans (RUN_ci rfl rfl rfl ((s_226 (Or.inl rfl)).trans (cif_pos rfl)) (qle_refl _)) (Eq.trans (Eq.trans (k_ifc ((0 : Int) = 0) rfl (iI_eq0 (show R32 (0 : Int) by decide))) (cif_pos rfl)) (Eq.trans (k_push rfl) (k_dret rfl))))
  · rw [cif_neg c, cif_neg (by omega)]
    have mr2 : MR (upV V 33 0 6 0) U := mr
    exact Eq.trans (k_pushi 1 rfl rfl) (Eq.trans (k_goto rfl) (Eq.trans (RUN_ci rfl rfl rfl ((s_226 (Or.inr rfl)).trans (cif_neg (by decide))) (qle_refl _)) (Eq.trans (Eq.trans (k_ifc ((1 : Int) = 0) rfl (iI_eq0 (show R32 (1 : Int) by decide))) (cif_neg (by decide))) (Eq.trans (k_iload rfl rfl) (Eq.trans (k_i2d rfl) (Eq.trans (k_aload rfl rfl) (Eq.trans (k_getfr rfl rfl rfl) (Eq.trans (k_pushi 1 rfl rfl) (Eq.trans (k_ialdE rfl rfl rfl (by decide) (mr_n mr2)) (Eq.trans (k_i2d rfl) (Eq.trans (k_ddiv rfl (meanD_ok (by omega) (by omega))) (Eq.trans (k_goto rfl) (k_dret rfl)))))))))))))
theorem s_284 (rk : rowok U) (mr : MR V U) : RUN (d + 2) 284 (am_en 284 [aR 33 0]) (HM q V) = cif (U 2 0 8 = 0) (rF FP.fconst0 (HM q (upV V 33 0 6 1))) (rF (meanF (cntI (fun t => U 6 0 t = 0) (U 2 0 8)) (U 2 0 8)) (HM q (upV V 33 0 6 0))) := by
  have hn := rk_n rk
  refine (show RUN (d + 2) 284 (0, [sR 33 0, none, none], []) (HM q V) = _ from ?_)
  refine Eq.trans (k_pushi 0 rfl rfl) (Eq.trans (k_store rfl) (Eq.trans (k_pushi 0 rfl rfl) (Eq.trans (k_store rfl) ?_)))
  obtain ⟨_, e⟩ := loop_to (fun i s (_ : Unit) => RUN (d + 2) 284 (4, [sR 33 0, sI s, sI i], []) (HM q V)) (fun i => cntI (fun t => U 6 0 t = 0) i) 0 (U 2 0 8) (by
    intro i l h1 h2
    refine ⟨(), ?_⟩
    try dsimp only
    rw [cntI_succ _ h1]
    have hm : 0 ≤ U 6 0 i ∧ U 6 0 i ≤ 3 := rk.2.2.2.2.2.1 i (by omega)
    refine Eq.trans (k_iload rfl rfl) (Eq.trans (k_aload rfl rfl) (Eq.trans (k_getfr rfl rfl rfl) (Eq.trans (k_pushi 1 rfl rfl) (Eq.trans (k_ialdE rfl rfl rfl (by decide) (mr_n mr)) (Eq.trans (Eq.trans (k_icmpc (U 2 0 8 ≤ i) rfl (iI_le (by constructor <;> omega) (by constructor <;> omega))) (cif_neg (by omega))) (Eq.trans (k_iload rfl rfl) (Eq.trans (k_aload rfl rfl) (Eq.trans (k_iload rfl rfl) (Eq.trans (k_pushi 2 rfl rfl) (Eq.trans (RUN_ci rfl rfl rfl (s_220_2 rk mr (by omega)) (qle_refl _)) ?_))))))))))
    by_cases c2 : U 6 0 i = 0
    · rw [b2i_pos c2]
      exact Eq.trans (Eq.trans (k_ifcN (U 6 0 i = 0) rfl (iI_ne0 (by constructor <;> omega))) (cif_pos c2)) (Eq.trans (k_pushi 1 rfl rfl) (Eq.trans (k_goto rfl) (Eq.trans (k_bin rfl (iI_add _ _)) (Eq.trans (k_store rfl) (Eq.trans (k_iinc 1 rfl rfl rfl) (k_goto rfl))))))
    · rw [b2i_neg c2]
      exact Eq.trans (Eq.trans (k_ifcN (U 6 0 i = 0) rfl (iI_ne0 (by constructor <;> omega))) (cif_neg c2)) (Eq.trans (k_pushi 0 rfl rfl) (Eq.trans (k_bin rfl (iI_add _ _)) (Eq.trans (k_store rfl) (Eq.trans (k_iinc 1 rfl rfl rfl) (k_goto rfl)))))) hn.1 ()
  refine Eq.trans e ?_
  have hs := cntI_b (fun t => U 6 0 t = 0) hn.1
  refine Eq.trans (k_iload rfl rfl) (Eq.trans (k_aload rfl rfl) (Eq.trans (k_getfr rfl rfl rfl) (Eq.trans (k_pushi 1 rfl rfl) (Eq.trans (k_ialdE rfl rfl rfl (by decide) (mr_n mr)) (Eq.trans (Eq.trans (k_icmpc (U 2 0 8 ≤ U 2 0 8) rfl (iI_le (by constructor <;> omega) (by constructor <;> omega))) (cif_pos (by omega))) (Eq.trans (k_aload rfl rfl) (Eq.trans (k_aload rfl rfl) (Eq.trans (k_getfr rfl rfl rfl) (Eq.trans (k_pushi 1 rfl rfl) (Eq.trans (k_ialdE rfl rfl rfl (by decide) (mr_n mr)) (Eq.trans (k_ifc (U 2 0 8 ≤ 0) rfl (iI_le0 (by constructor <;> omega))) ?_)))))))))))
  by_cases c : U 2 0 8 = 0
  · rw [cif_pos c, cif_pos (by omega)]
    exact Eq.trans (k_pushi 0 rfl rfl) (Eq.trans (RUN_ci rfl rfl rfl ((s_226 (Or.inl rfl)).trans (cif_pos rfl)) (qle_refl _)) (Eq.trans (Eq.trans (k_ifc ((0 : Int) = 0) rfl (iI_eq0 (show R32 (0 : Int) by decide))) (cif_pos rfl)) (Eq.trans (k_push rfl) (k_fret rfl))))
  · rw [cif_neg c, cif_neg (by omega)]
    have mr2 : MR (upV V 33 0 6 0) U := mr
    exact Eq.trans (k_pushi 1 rfl rfl) (Eq.trans (k_goto rfl) (Eq.trans (RUN_ci rfl rfl rfl ((s_226 (Or.inr rfl)).trans (cif_neg (by decide))) (qle_refl _)) (Eq.trans (Eq.trans (k_ifc ((1 : Int) = 0) rfl (iI_eq0 (show R32 (1 : Int) by decide))) (cif_neg (by decide))) (Eq.trans (k_iload rfl rfl) (Eq.trans (k_i2f rfl) (Eq.trans (k_aload rfl rfl) (Eq.trans (k_getfr rfl rfl rfl) (Eq.trans (k_pushi 1 rfl rfl) (Eq.trans (k_ialdE rfl rfl rfl (by decide) (mr_n mr2)) (Eq.trans (k_i2f rfl) (Eq.trans (k_fdiv rfl (meanF_ok (by omega) (by omega)).1) (Eq.trans (k_goto rfl) (k_fret rfl)))))))))))))
theorem s_233 {x1 : Int} (rk : rowok U) (mr : MR V U) (hd : distR 0 U) (hx : R32 x1) : RUN (d + 2) 233 (am_en 233 [aR 33 0, aI (iI x1)]) (HM q V) = cif (0 ≤ x1 ∧ x1 < 32) (cif (fstI (posIs (U 4 0) x1) (U 2 0 8) = -1) (rI 0 (HM q (upV V 33 0 6 2))) (rI (fstI (posIs (U 4 0) x1) (U 2 0 8)) (HM q (upV V 33 0 6 0)))) (rI 0 (HM q (upV V 33 0 6 1))) := by
  have hn := rk_n rk
  have hf := fstI_n rk (posIs (U 4 0) x1)
  have mr2 : MR (upV V 33 0 6 0) U := mr
  refine (show RUN (d + 2) 233 (0, [sR 33 0, sI x1], []) (HM q V) = _ from Eq.trans (k_aload rfl rfl) (Eq.trans (k_iload rfl rfl) (Eq.trans (RUN_ci rfl rfl rfl (s_213 hx) (qle_refl _)) (Eq.trans (k_ifc (0 ≤ x1 ∧ x1 < 32) rfl b2i_ne0) (k_cifs (fun c => ?_) (fun c => ?_))))))
  · refine Eq.trans (k_aload rfl rfl) (Eq.trans (k_iload rfl rfl) (Eq.trans (RUN_ci rfl rfl rfl (s_219 rk mr hd hx) (qle_refl _)) (Eq.trans (k_ifcN (fstI (posIs (U 4 0) x1) (U 2 0 8) = -1) rfl ((iI_le R32_0 (by constructor <;> omega)).trans ⟨fun z => by omega, fun z => by omega⟩)) (k_cifs (fun c2 => ?_) (fun c2 => ?_)))))
    · exact Eq.trans (k_pushi 2 rfl rfl) (Eq.trans (k_goto rfl) (Eq.trans (k_putfi 6 rfl rfl rfl rfl trivial) (Eq.trans (k_aload rfl rfl) (Eq.trans (k_getfi 6 rfl rfl rfl rfl) (Eq.trans (Eq.trans (k_ifc ((2 : Int) ≤ 0) rfl (iI_le0 (show R32 (2 : Int) by decide))) (cif_neg (by decide))) (Eq.trans (k_pushi 0 rfl rfl) (Eq.trans (k_goto rfl) (k_iret rfl trivial))))))))
    · exact Eq.trans (k_pushi 0 rfl rfl) (Eq.trans (k_putfi 6 rfl rfl rfl rfl trivial) (Eq.trans (k_aload rfl rfl) (Eq.trans (k_getfi 6 rfl rfl rfl rfl) (Eq.trans (Eq.trans (k_ifc ((0 : Int) ≤ 0) rfl (iI_le0 (show R32 (0 : Int) by decide))) (cif_pos (by decide))) (Eq.trans (k_aload rfl rfl) (Eq.trans (k_iload rfl rfl) (Eq.trans (RUN_ci rfl rfl rfl (s_219 rk mr2 hd hx) (qle_refl _)) (k_iret rfl trivial))))))))
  · exact Eq.trans (k_pushi 1 rfl rfl) (Eq.trans (k_goto rfl) (Eq.trans (k_putfi 6 rfl rfl rfl rfl trivial) (Eq.trans (k_aload rfl rfl) (Eq.trans (k_getfi 6 rfl rfl rfl rfl) (Eq.trans (Eq.trans (k_ifc ((1 : Int) ≤ 0) rfl (iI_le0 (show R32 (1 : Int) by decide))) (cif_neg (by decide))) (Eq.trans (k_pushi 0 rfl rfl) (Eq.trans (k_goto rfl) (k_iret rfl trivial))))))))
end
