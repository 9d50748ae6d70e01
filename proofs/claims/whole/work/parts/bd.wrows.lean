/-! rows of longs and doubles; caught throws -/
def i2L (v : Int) : Int64 := (iI v).toInt64
def qJ (q : QQ) (v : Int64) : QQ := (q.1, q.2.1, (upJ q.2.2.1 44 0 0 v, q.2.2.2))
def qD (q : QQ) (v : UInt64) : QQ := (q.1, q.2.1, (q.2.2.1, upD q.2.2.2 45 0 0 v))
theorem qle_J (q : QQ) (v : Int64) : qle q (qJ q v) := ⟨Nat.le_refl _, Nat.le_refl _⟩
theorem qle_D (q : QQ) (v : UInt64) : qle q (qD q v) := ⟨Nat.le_refl _, Nat.le_refl _⟩
theorem qle_trans {a b c : QQ} (h : qle a b) (k : qle b c) : qle a c := ⟨Nat.le_trans h.1 k.1, Nat.le_trans h.2 k.2⟩
theorem qJ_at (q : QQ) (v : Int64) : (qJ q v).2.2.1 44 0 0 = v := by
  show upJ q.2.2.1 44 0 0 v 44 0 0 = v
  unfold upJ
  exact if_pos ⟨rfl, rfl, rfl⟩
theorem qD_at (q : QQ) (v : UInt64) : (qD q v).2.2.2 45 0 0 = v := by
  show upD q.2.2.2 45 0 0 v 45 0 0 = v
  unfold upD
  exact if_pos ⟨rfl, rfl, rfl⟩
section
variable {d y pc nx : Nat} {ls : List (Option AV)} {st : List AV} {q : QQ} {V : VV}
theorem k_i2l {x : Int} {h : AH} (hcd : am_cd y pc = i_i2l nx) : RUN d y (pc, ls, aI (iI x) :: st) h = RUN d y (nx, ls, aL (i2L x) :: st) h := RUN_gi hcd rfl trivial
theorem k_last {v : Int64} (hcd : am_cd y pc = i_last nx) : RUN d y (pc, ls, aL v :: aI (iI 0) :: aR 44 0 :: st) (HM q V) = RUN d y (nx, ls, st) (HM (qJ q v) V) := by
  refine RUN_gi hcd (cs := [vp_in (iI 0) 1]) ?_ ⟨iI_in (by decide) (by decide), trivial⟩
  rfl
theorem k_lald (hcd : am_cd y pc = i_lald nx) : RUN d y (pc, ls, aI (iI 0) :: aR 44 0 :: st) (HM q V) = RUN d y (nx, ls, aL (q.2.2.1 44 0 0) :: st) (HM q V) := by
  refine RUN_gi hcd (cs := [vp_in (iI 0) 1]) ?_ ⟨iI_in (by decide) (by decide), trivial⟩
  rfl
theorem lgc (a : Int64) : lg_cmp a a = iI 0 := by
  unfold lg_cmp
  rw [if_neg (fun z => Int64.lt_irrefl z), if_pos rfl]
  rfl
theorem k_lcmpE {a : Int64} {h : AH} (hcd : am_cd y pc = i_lcmp nx) : RUN d y (pc, ls, aL a :: aL a :: st) h = RUN d y (nx, ls, aI (iI 0) :: st) h := by
  rw [← lgc a]
  exact RUN_gi hcd rfl trivial
theorem k_dast {v : UInt64} (hcd : am_cd y pc = i_dast nx) : RUN d y (pc, ls, aD v :: aI (iI 0) :: aR 45 0 :: st) (HM q V) = RUN d y (nx, ls, st) (HM (qD q v) V) := by
  refine RUN_gi hcd (cs := [vp_in (iI 0) 1]) ?_ ⟨iI_in (by decide) (by decide), trivial⟩
  rfl
theorem k_dald (hcd : am_cd y pc = i_dald nx) : RUN d y (pc, ls, aI (iI 0) :: aR 45 0 :: st) (HM q V) = RUN d y (nx, ls, aD (q.2.2.2 45 0 0) :: st) (HM q V) := by
  refine RUN_gi hcd (cs := [vp_in (iI 0) 1]) ?_ ⟨iI_in (by decide) (by decide), trivial⟩
  rfl
theorem k_f2d {x : UInt32} {h : AH} (hcd : am_cd y pc = i_f2d nx) (ok : vf_n64 (FP.f2d x)) : RUN d y (pc, ls, aF x :: st) h = RUN d y (nx, ls, aD (FP.f2d x) :: st) h := RUN_gi hcd rfl ⟨ok, trivial⟩
theorem cat_of {i hp : Nat} {fr : Fr} (h : am_hx (am_mi y).2.1 hp = some (i, nx)) (h2 : Nat.blt i (am_mi y).2.2.1 = true) : am_cat y fr hp = some (nx, fr.2.1.set i none, []) := by
  unfold am_cat
  rw [h]
  dsimp only
  rw [h2]
  rfl
end
/-- the room after a step, bounded -/
def qup (q q' : QQ) : Prop := qle q q' ∧ (q'.2.1.1 ≤ q.2.1.1 + 1 ∧ q'.2.1.2 ≤ q.2.1.2 + 32) ∧ q'.1 = q.1
theorem qup_refl (q : QQ) : qup q q := ⟨qle_refl q, ⟨by omega, by omega⟩, rfl⟩
theorem qup_thr (q : QQ) : qup q (thr q) := ⟨qle_thr q, ⟨Nat.le_refl _, by show q.2.1.2 + 6 ≤ _; omega⟩, rfl⟩
theorem qup_J (q : QQ) (v : Int64) : qup q (qJ q v) := ⟨qle_J q v, ⟨by show q.2.1.1 ≤ _; omega, by show q.2.1.2 ≤ _; omega⟩, rfl⟩
theorem qup_D (q : QQ) (v : UInt64) : qup q (qD q v) := ⟨qle_D q v, ⟨by show q.2.1.1 ≤ _; omega, by show q.2.1.2 ≤ _; omega⟩, rfl⟩
/-- what a guarded call came to -/
def Wr (r : Option (Out × AH)) (q : QQ) (k : Int) (o : Int64) (U : VV) : Prop := ∃ q1, qup q q1 ∧ (k = 0 → q1.2.2.1 44 0 0 = o) ∧ r = rI k (HM q1 U)
