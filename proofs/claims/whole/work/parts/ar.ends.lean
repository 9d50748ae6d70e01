/-! the model keeps a row, ends a change -/
def keepM (V : VV) : VV := cpV (upV V 33 0 6 0) 35 0 34 0 0 0 154
noncomputable def pushM (V : VV) : VV := cif (V 33 0 5 = 8) (upV (cpV (upV (cpV V 37 0 37 0 154 0 1078) 33 0 5 (V 33 0 5 - 1)) 37 0 35 0 0 (154 * (V 33 0 5 - 1)) 154) 33 0 5 (V 33 0 5 - 1 + 1)) (upV (cpV V 37 0 35 0 0 (154 * V 33 0 5) 154) 33 0 5 (V 33 0 5 + 1))
def backM (V : VV) : VV := cpV V 34 0 35 0 0 0 154
section
variable {V U W Z : VV} {d : Nat} {q : QQ} {x1 x2 x3 v m : Int}
theorem s_216 (p1 : 0 ≤ V 33 0 5 ∧ V 33 0 5 < 9) (h2 : R32 (V 33 0 6)) : RUN d 216 (am_en 216 [aR 33 0, aI (iI x1)]) (HM q V) = cif (V 33 0 6 ≤ 0) (rI x1 (HM q (pushM V))) (rI 0 (HM q (backM V))) := by
  rw [g_216_0 p1 h2 (fun _ h => by omega)]
  refine cif_eq (fun c => ?_) (fun c => (cif_neg c).symm)
  rw [cif_pos c]
  unfold pushM
  refine cif_eq (fun c => ?_) (fun c => ?_)
  · rw [cif_pos c]
  · rw [cif_neg c]
theorem go_210 {D : Nat} (h : RUN D 212 (am_en 212 [aR 33 0, aI (iI x1), aI (iI x2)]) (HM q (keepM V)) = rI v (HM q W)) (hE : RUN D 216 (am_en 216 [aR 33 0, aI (iI v)]) (HM q W) = rI m (HM q Z)) : RUN (D + 1) 210 (am_en 210 [aR 33 0, aI (iI x1), aI (iI x2)]) (HM q V) = rI m (HM q Z) :=
  (show RUN (D + 1) 210 (0, [sR 33 0, sI x1, sI x2], []) (HM q V) = _ from Eq.trans (k_aload rfl rfl) (Eq.trans (RUN_ci rfl rfl rfl e_211 (qle_refl _)) (Eq.trans (k_aload rfl rfl) (Eq.trans (k_aload rfl rfl) (Eq.trans (k_iload rfl rfl) (Eq.trans (k_iload rfl rfl) (Eq.trans (RUN_ci rfl rfl rfl h (qle_refl _)) (Eq.trans (RUN_ci rfl rfl rfl hE (qle_refl _)) (k_iret rfl trivial)))))))))
theorem go_222 {D : Nat} (h : RUN D 223 (am_en 223 [aR 33 0, aI (iI x1), aI (iI x2)]) (HM q (keepM V)) = rI v (HM q W)) (hE : RUN D 216 (am_en 216 [aR 33 0, aI (iI v)]) (HM q W) = rI m (HM q Z)) : RUN (D + 1) 222 (am_en 222 [aR 33 0, aI (iI x1), aI (iI x2)]) (HM q V) = rI m (HM q Z) :=
  (show RUN (D + 1) 222 (0, [sR 33 0, sI x1, sI x2], []) (HM q V) = _ from Eq.trans (k_aload rfl rfl) (Eq.trans (RUN_ci rfl rfl rfl e_211 (qle_refl _)) (Eq.trans (k_aload rfl rfl) (Eq.trans (k_aload rfl rfl) (Eq.trans (k_iload rfl rfl) (Eq.trans (k_iload rfl rfl) (Eq.trans (RUN_ci rfl rfl rfl h (qle_refl _)) (Eq.trans (RUN_ci rfl rfl rfl hE (qle_refl _)) (k_iret rfl trivial)))))))))
theorem go_247 {D : Nat} (h : RUN D 248 (am_en 248 [aR 33 0, aI (iI x1)]) (HM q (keepM V)) = rI v (HM q W)) (hE : RUN D 216 (am_en 216 [aR 33 0, aI (iI v)]) (HM q W) = rI m (HM q Z)) : RUN (D + 1) 247 (am_en 247 [aR 33 0, aI (iI x1)]) (HM q V) = rI m (HM q Z) :=
  (show RUN (D + 1) 247 (0, [sR 33 0, sI x1], []) (HM q V) = _ from Eq.trans (k_aload rfl rfl) (Eq.trans (RUN_ci rfl rfl rfl e_211 (qle_refl _)) (Eq.trans (k_aload rfl rfl) (Eq.trans (k_aload rfl rfl) (Eq.trans (k_iload rfl rfl) (Eq.trans (RUN_ci rfl rfl rfl h (qle_refl _)) (Eq.trans (RUN_ci rfl rfl rfl hE (qle_refl _)) (k_iret rfl trivial))))))))
theorem go_217 {D : Nat} (h : RUN D 218 (am_en 218 [aR 33 0, aI (iI x1), aI (iI x2), aI (iI x3)]) (HM q (keepM V)) = rI v (HM q W)) (hE : RUN D 216 (am_en 216 [aR 33 0, aI (iI v)]) (HM q W) = rI m (HM q Z)) : RUN (D + 1) 217 (am_en 217 [aR 33 0, aI (iI x1), aI (iI x2), aI (iI x3)]) (HM q V) = rI m (HM q Z) :=
  (show RUN (D + 1) 217 (0, [sR 33 0, sI x1, sI x2, sI x3], []) (HM q V) = _ from Eq.trans (k_aload rfl rfl) (Eq.trans (RUN_ci rfl rfl rfl e_211 (qle_refl _)) (Eq.trans (k_aload rfl rfl) (Eq.trans (k_aload rfl rfl) (Eq.trans (k_iload rfl rfl) (Eq.trans (k_iload rfl rfl) (Eq.trans (k_iload rfl rfl) (Eq.trans (RUN_ci rfl rfl rfl h (qle_refl _)) (Eq.trans (RUN_ci rfl rfl rfl hE (qle_refl _)) (k_iret rfl trivial))))))))))
theorem go_270 {D : Nat} (h : RUN D 271 (am_en 271 [aR 33 0, aI (iI x1), aI (iI x2), aI (iI x3)]) (HM q (keepM V)) = rI v (HM q W)) (hE : RUN D 216 (am_en 216 [aR 33 0, aI (iI v)]) (HM q W) = rI m (HM q Z)) : RUN (D + 1) 270 (am_en 270 [aR 33 0, aI (iI x1), aI (iI x2), aI (iI x3)]) (HM q V) = rI m (HM q Z) :=
  (show RUN (D + 1) 270 (0, [sR 33 0, sI x1, sI x2, sI x3], []) (HM q V) = _ from Eq.trans (k_aload rfl rfl) (Eq.trans (RUN_ci rfl rfl rfl e_211 (qle_refl _)) (Eq.trans (k_aload rfl rfl) (Eq.trans (k_aload rfl rfl) (Eq.trans (k_iload rfl rfl) (Eq.trans (k_iload rfl rfl) (Eq.trans (k_iload rfl rfl) (Eq.trans (RUN_ci rfl rfl rfl h (qle_refl _)) (Eq.trans (RUN_ci rfl rfl rfl hE (qle_refl _)) (k_iret rfl trivial))))))))))
theorem go_246 {D : Nat} {q' : QQ} (h : RUN D 244 (am_en 244 [aR 33 0]) (HM q V) = rI v (HM q' W)) (hq : qle q q') : RUN (D + 1) 246 (am_en 246 [aR 33 0]) (HM q V) = rI v (HM q' W) :=
  (show RUN (D + 1) 246 (0, [sR 33 0], []) (HM q V) = _ from Eq.trans (k_aload rfl rfl) (Eq.trans (RUN_ci rfl rfl rfl h hq) (k_iret rfl trivial)))
theorem go_280 {D : Nat} (h : RUN D 278 (am_en 278 [aR 33 0]) (HM q V) = rI v (HM q W)) : RUN (D + 1) 280 (am_en 280 [aR 33 0]) (HM q V) = rI v (HM q W) :=
  (show RUN (D + 1) 280 (0, [sR 33 0], []) (HM q V) = _ from Eq.trans (k_aload rfl rfl) (Eq.trans (RUN_ci rfl rfl rfl h (qle_refl _)) (k_iret rfl trivial)))
theorem go_255 {D : Nat} (h : RUN D 252 (am_en 252 [aR 33 0, aI (iI x1), aI (iI x2)]) (HM q V) = rI v (HM q W)) : RUN (D + 1) 255 (am_en 255 [aR 33 0, aI (iI x1), aI (iI x2)]) (HM q V) = rI v (HM q W) :=
  (show RUN (D + 1) 255 (0, [sR 33 0, sI x1, sI x2], []) (HM q V) = _ from Eq.trans (k_aload rfl rfl) (Eq.trans (k_iload rfl rfl) (Eq.trans (k_iload rfl rfl) (Eq.trans (RUN_ci rfl rfl rfl h (qle_refl _)) (k_iret rfl trivial)))))
theorem pushM_off {a b : Nat} (h : ¬ (a = 33 ∨ a = 37)) : pushM V a b = V a b := by
  unfold pushM
  by_cases c : V 33 0 5 = 8
  · rw [cif_pos c, upV_off2 (by omega), cpV_off (by omega), upV_off2 (by omega), cpV_off (by omega)]
  · rw [cif_neg c, upV_off2 (by omega), cpV_off (by omega)]
theorem pushM_33 {j : Int} (h : ¬ j = 5) : pushM V 33 0 j = V 33 0 j := by
  unfold pushM
  by_cases c : V 33 0 5 = 8
  · rw [cif_pos c, upV_at, if_neg h, cpV_off (by omega), upV_at, if_neg h, cpV_off (by omega)]
  · rw [cif_neg c, upV_at, if_neg h, cpV_off (by omega)]
theorem pushM_5 (p1 : 0 ≤ V 33 0 5 ∧ V 33 0 5 < 9) : pushM V 33 0 5 = min (V 33 0 5 + 1) 8 := by
  unfold pushM
  by_cases c : V 33 0 5 = 8
  · rw [cif_pos c, upV_at, if_pos rfl]
    omega
  · rw [cif_neg c, upV_at, if_pos rfl]
    omega
theorem pushM_37 (p1 : 0 ≤ V 33 0 5 ∧ V 33 0 5 < 9) {k j : Int} (hk : 0 ≤ k) (hj : 0 ≤ j ∧ j < 154) (hn : k < min (V 33 0 5 + 1) 8) : pushM V 37 0 (154 * k + j) = cif (k + 1 = min (V 33 0 5 + 1) 8) (V 35 0 j) (V 37 0 (154 * (k + (V 33 0 5 + 1 - min (V 33 0 5 + 1) 8)) + j)) := by
  unfold pushM
  by_cases c : V 33 0 5 = 8
  · rw [cif_pos c]
    show (if 154 * (V 33 0 5 - 1) ≤ 154 * k + j ∧ 154 * k + j < 154 * (V 33 0 5 - 1) + 154 then V 35 0 (0 + (154 * k + j - 154 * (V 33 0 5 - 1))) else (if 0 ≤ 154 * k + j ∧ 154 * k + j < 0 + 1078 then V 37 0 (154 + (154 * k + j - 0)) else V 37 0 (154 * k + j))) = _
    by_cases e : k + 1 = min (V 33 0 5 + 1) 8
    · rw [cif_pos e, if_pos (by omega)]
      congr 1
      omega
    · rw [cif_neg e, if_neg (by omega), if_pos (by omega)]
      congr 1
      omega
  · rw [cif_neg c]
    show (if 154 * V 33 0 5 ≤ 154 * k + j ∧ 154 * k + j < 154 * V 33 0 5 + 154 then V 35 0 (0 + (154 * k + j - 154 * V 33 0 5)) else V 37 0 (154 * k + j)) = _
    by_cases e : k + 1 = min (V 33 0 5 + 1) 8
    · rw [cif_pos e, if_pos (by omega)]
      congr 1
      omega
    · rw [cif_neg e, if_neg (by omega)]
      congr 1
      omega
theorem keepM_off {a b : Nat} (h : ¬ (a = 33 ∨ a = 35)) : keepM V a b = V a b := by
  unfold keepM
  rw [cpV_off (by omega), upV_off2 (by omega)]
theorem keepM_33 {j : Int} : keepM V 33 0 j = if j = 6 then 0 else V 33 0 j := rfl
theorem keepM_35 {j : Int} (hj : 0 ≤ j ∧ j < 154) : keepM V 35 0 j = V 34 0 j := by
  show (if 0 ≤ j ∧ j < 0 + 154 then V 34 0 (0 + (j - 0)) else V 35 0 j) = _
  rw [if_pos (by omega)]
  congr 1
  omega
theorem backM_off {a b : Nat} (h : ¬ a = 34) : backM V a b = V a b := cpV_off (by omega)
theorem backM_34 {j : Int} : backM V 34 0 j = if 0 ≤ j ∧ j < 154 then V 35 0 j else V 34 0 j := by
  show (if 0 ≤ j ∧ j < 0 + 154 then V 35 0 (0 + (j - 0)) else V 34 0 j) = _
  by_cases c : 0 ≤ j ∧ j < 154
  · rw [if_pos (by omega), if_pos c]
    congr 1
    omega
  · rw [if_neg (by omega), if_neg c]
end
