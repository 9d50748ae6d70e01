/-! the machine's own texts: builders and their growth -/
theorem sh_r0 (a : Int32) : a >>> (iI 0 &&& 31) = a := by
  show a >>> (0 : Int32) = a
  exact Int32.shiftRight_zero
theorem sh_l0 (a : Int32) : a <<< (iI 0 &&& 31) = a := by
  show a <<< (0 : Int32) = a
  exact Int32.shiftLeft_zero
section
variable {d b : Nat} {q : QQ} {V : VV} {fs : List AV}
theorem c_360 (hb : q.1.2.2 b = some (Sum.inr (9, fs))) (hf : fs.getD 1 aN = aI 0) (h1 : V 46 b 1 = 0) : RUN d 360 (am_en 360 [aR 46 b]) (HM q V) = rI 1 (HM q V) := by
  refine (show RUN d 360 (0, [sR 46 b], []) (HM q V) = _ from ?_)
  refine Eq.trans (k_pushi 1 rfl rfl) ?_
  refine Eq.trans (Eq.trans (k_ifc ((1 : Int) = 0) rfl (iI_eq0 ⟨by decide, by decide⟩)) (cif_neg (by decide))) ?_
  refine Eq.trans (k_aload rfl rfl) ?_
  refine Eq.trans (k_getfi 1 rfl rfl hb hf) ?_
  rw [h1]
  refine Eq.trans (Eq.trans (k_ifcN ((0 : Int) = 0) rfl (iI_ne0 ⟨by decide, by decide⟩)) (cif_pos rfl)) ?_
  refine Eq.trans (k_pushi 1 rfl rfl) ?_
  refine Eq.trans (k_goto rfl) ?_
  exact k_iret rfl (iI_bool (z := 1) (by decide))
theorem c_361 {x : Int} (h : 0 ≤ x ∧ x < 128) : RUN d 361 (am_en 361 [aI (iI x)]) (HM q V) = rI 1 (HM q V) := by
  refine (show RUN d 361 (0, [sI x], []) (HM q V) = _ from ?_)
  refine Eq.trans (k_iload rfl rfl) ?_
  refine Eq.trans (k_pushi 255 rfl rfl) ?_
  refine Eq.trans (Eq.trans (k_icmpc ((255 : Int) < x) rfl (iI_lt ⟨by decide, by decide⟩ (by omega))) (cif_neg (by omega))) ?_
  refine Eq.trans (k_pushi 1 rfl rfl) ?_
  refine Eq.trans (k_goto rfl) ?_
  exact k_iret rfl (iI_bool (z := 1) (by decide))
theorem c_357 {x0 x1 x2 : Int} (h0 : 0 ≤ x0 ∧ x0 < 2000) (h1 : -2000 ≤ x1 ∧ x1 < 2000) (h2 : 1 ≤ x2 ∧ x2 < 3000) : RUN d 357 (am_en 357 [aI (iI x0), aI (iI x1), aI (iI x2)]) (HM q V) = rI (x0 + max x1 x2) (HM q V) := by
  refine (show RUN d 357 (0, [sI x0, sI x1, sI x2, none], []) (HM q V) = _ from ?_)
  refine Eq.trans (k_iload rfl rfl) ?_
  refine Eq.trans (k_iload rfl rfl) ?_
  refine Eq.trans (k_iload rfl rfl) ?_
  refine Eq.trans (k_m2 rfl rfl (iI_max (by omega) (by omega))) ?_
  refine Eq.trans (k_bin rfl (iI_add _ _)) ?_
  refine Eq.trans (k_store rfl) ?_
  refine Eq.trans (k_pushi 0 rfl rfl) ?_
  refine Eq.trans (k_iload rfl rfl) ?_
  refine Eq.trans (Eq.trans (k_icmpc (x0 + max x1 x2 ≤ 0) rfl (iI_le (by omega) ⟨by decide, by decide⟩)) (cif_neg (by omega))) ?_
  refine Eq.trans (k_iload rfl rfl) ?_
  refine Eq.trans (k_pushi 2147483639 rfl rfl) ?_
  refine Eq.trans (Eq.trans (k_icmpc ((2147483639 : Int) < x0 + max x1 x2) rfl (iI_lt ⟨by decide, by decide⟩ (by omega))) (cif_neg (by omega))) ?_
  refine Eq.trans (k_iload rfl rfl) ?_
  exact k_iret rfl trivial
end
