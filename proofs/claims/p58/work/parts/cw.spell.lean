/-! means; what the law reads of the class's texts -/
theorem fp_d : ∀ a : Fin 145, ∀ b : Fin 8, vf_n64 (FP.ddiv (FP.i2d (iI (a.val : Int))) (FP.i2d (iI ((b.val : Int) + 1)))) := by
  unfold vf_n64
  decide +kernel
theorem fp_f : ∀ a : Fin 9, ∀ b : Fin 8, vf_n32 (FP.fdiv (FP.i2f (iI (a.val : Int))) (FP.i2f (iI ((b.val : Int) + 1)))) ∧ vf_n64 (FP.f2d (FP.fdiv (FP.i2f (iI (a.val : Int))) (FP.i2f (iI ((b.val : Int) + 1))))) := by
  unfold vf_n64 vf_n32
  decide +kernel
def meanD (s n : Int) : UInt64 := FP.ddiv (FP.i2d (iI s)) (FP.i2d (iI n))
def meanF (s n : Int) : UInt32 := FP.fdiv (FP.i2f (iI s)) (FP.i2f (iI n))
theorem meanD_ok {s n : Int} (hs : 0 ≤ s ∧ s ≤ 144) (hn : 1 ≤ n ∧ n ≤ 8) : vf_n64 (meanD s n) := by
  have := fp_d ⟨s.toNat, by omega⟩ ⟨(n - 1).toNat, by omega⟩
  have e1 : ((s.toNat : Nat) : Int) = s := by omega
  have e2 : (((n - 1).toNat : Nat) : Int) + 1 = n := by omega
  unfold meanD
  rw [← e1, ← e2]
  exact this
theorem meanF_ok {s n : Int} (hs : 0 ≤ s ∧ s ≤ 8) (hn : 1 ≤ n ∧ n ≤ 8) : vf_n32 (meanF s n) ∧ vf_n64 (FP.f2d (meanF s n)) := by
  have := fp_f ⟨s.toNat, by omega⟩ ⟨(n - 1).toNat, by omega⟩
  have e1 : ((s.toNat : Nat) : Int) = s := by omega
  have e2 : (((n - 1).toNat : Nat) : Int) + 1 = n := by omega
  unfold meanF
  rw [← e1, ← e2]
  exact this
def rD (x : UInt64) (h : AH) : Option (Out × AH) := some (Sum.inl (some (aD x)), h)
def rF (x : UInt32) (h : AH) : Option (Out × AH) := some (Sum.inl (some (aF x)), h)
section
variable {d y pc nx : Nat} {ls : List (Option AV)} {st : List AV} {h : AH}
theorem k_i2d {x : Int} (hcd : am_cd y pc = i_i2d nx) : RUN d y (pc, ls, aI (iI x) :: st) h = RUN d y (nx, ls, aD (FP.i2d (iI x)) :: st) h := RUN_gi hcd rfl trivial
theorem k_i2f {x : Int} (hcd : am_cd y pc = i_i2f nx) : RUN d y (pc, ls, aI (iI x) :: st) h = RUN d y (nx, ls, aF (FP.i2f (iI x)) :: st) h := RUN_gi hcd rfl trivial
theorem k_ddiv {a b : UInt64} (hcd : am_cd y pc = i_ddiv nx) (ok : vf_n64 (FP.ddiv a b)) : RUN d y (pc, ls, aD b :: aD a :: st) h = RUN d y (nx, ls, aD (FP.ddiv a b) :: st) h := RUN_gi hcd rfl ⟨ok, trivial⟩
theorem k_fdiv {a b : UInt32} (hcd : am_cd y pc = i_fdiv nx) (ok : vf_n32 (FP.fdiv a b)) : RUN d y (pc, ls, aF b :: aF a :: st) h = RUN d y (nx, ls, aF (FP.fdiv a b) :: st) h := RUN_gi hcd rfl ⟨ok, trivial⟩
theorem k_dret {x : UInt64} (hcd : am_cd y pc = i_dret) : RUN d y (pc, ls, [aD x]) h = rD x h := RUN_ei hcd rfl trivial
theorem k_fret {x : UInt32} (hcd : am_cd y pc = i_fret) : RUN d y (pc, ls, [aF x]) h = rF x h := RUN_ei hcd rfl trivial
end
section
variable {d : Nat} {q : QQ} {V U : VV}
theorem eyes_b {V : VV} (rk : rowok V) : ∀ j, 0 ≤ j → j < V 2 0 8 → 0 ≤ eyeV (V 3 0) (V 4 0) (V 5 0) j ∧ eyeV (V 3 0) (V 4 0) (V 5 0) j ≤ 18 := fun j h1 h2 => by
  have := eyeV_b rk (t := j) (by have := rk_n rk; omega)
  omega
theorem s_153 (rk : rowok V) : RUN (d + 1) 153 (am_en 153 [aR 1 0]) (HM q V) = cif (V 2 0 8 = 0) (rX 5 (HM (thr q) V)) (rD (meanD (sumI (eyeV (V 3 0) (V 4 0) (V 5 0)) (V 2 0 8)) (V 2 0 8)) (HM q V)) := by
  have hn := rk_n rk
  refine (show RUN (d + 1) 153 (0, [sR 1 0, none, none], []) (HM q V) = _ from Eq.trans (k_aload rfl rfl) (Eq.trans (k_getfr rfl rfl rfl) (Eq.trans (k_getfi 8 rfl rfl rfl rfl) (Eq.trans (k_ifcN (V 2 0 8 = 0) rfl (iI_ne0 (by constructor <;> omega))) (k_cifs (fun c => k_throw rfl rfl) (fun c => ?_))))))
  refine Eq.trans (k_pushi 0 rfl rfl) (Eq.trans (k_store rfl) (Eq.trans (k_pushi 0 rfl rfl) (Eq.trans (k_store rfl) ?_)))
  obtain ⟨_, e⟩ := loop_to (fun i s (_ : Unit) => RUN (d + 1) 153 (25, [sR 1 0, sI s, sI i], []) (HM q V)) (fun i => sumI (eyeV (V 3 0) (V 4 0) (V 5 0)) i) 0 (V 2 0 8) (by
    intro i l h1 h2
    refine ⟨(), ?_⟩
    try dsimp only
    rw [sumI_succ _ h1]
    exact Eq.trans (k_iload rfl rfl) (Eq.trans (k_aload rfl rfl) (Eq.trans (k_getfr rfl rfl rfl) (Eq.trans (k_getfi 8 rfl rfl rfl rfl) (Eq.trans (Eq.trans (k_icmpc (V 2 0 8 ≤ i) rfl (iI_le (by constructor <;> omega) (by constructor <;> omega))) (cif_neg (by omega))) (Eq.trans (k_iload rfl rfl) (Eq.trans (k_aload rfl rfl) (Eq.trans (k_getfr rfl rfl rfl) (Eq.trans (k_iload rfl rfl) (Eq.trans (RUN_ci rfl rfl rfl (s_18 rk (by omega)) (qle_refl _)) (Eq.trans (k_bin rfl (iI_add _ _)) (Eq.trans (k_store rfl) (Eq.trans (k_iinc 1 rfl rfl rfl) (k_goto rfl)))))))))))))) hn.1 ()
  refine Eq.trans e ?_
  have hs := sumI_b hn.1 (eyes_b rk)
  exact Eq.trans (k_iload rfl rfl) (Eq.trans (k_aload rfl rfl) (Eq.trans (k_getfr rfl rfl rfl) (Eq.trans (k_getfi 8 rfl rfl rfl rfl) (Eq.trans (Eq.trans (k_icmpc (V 2 0 8 ≤ V 2 0 8) rfl (iI_le (by constructor <;> omega) (by constructor <;> omega))) (cif_pos (by omega))) (Eq.trans (k_iload rfl rfl) (Eq.trans (k_i2d rfl) (Eq.trans (k_aload rfl rfl) (Eq.trans (k_getfr rfl rfl rfl) (Eq.trans (k_getfi 8 rfl rfl rfl rfl) (Eq.trans (k_i2d rfl) (Eq.trans (k_ddiv rfl (meanD_ok (by omega) (by omega))) (k_dret rfl))))))))))))
theorem s_155 (rk : rowok V) : RUN d 155 (am_en 155 [aR 1 0]) (HM q V) = cif (V 2 0 8 = 0) (rX 5 (HM (thr q) V)) (rF (meanF (cntI (fun t => V 6 0 t = 0) (V 2 0 8)) (V 2 0 8)) (HM q V)) := by
  have hn := rk_n rk
  refine (show RUN d 155 (0, [sR 1 0, none, none], []) (HM q V) = _ from Eq.trans (k_aload rfl rfl) (Eq.trans (k_getfr rfl rfl rfl) (Eq.trans (k_getfi 8 rfl rfl rfl rfl) (Eq.trans (k_ifcN (V 2 0 8 = 0) rfl (iI_ne0 (by constructor <;> omega))) (k_cifs (fun c => k_throw rfl rfl) (fun c => ?_))))))
  refine Eq.trans (k_pushi 0 rfl rfl) (Eq.trans (k_store rfl) (Eq.trans (k_pushi 0 rfl rfl) (Eq.trans (k_store rfl) ?_)))
  obtain ⟨_, e⟩ := loop_to (fun i s (_ : Unit) => RUN d 155 (25, [sR 1 0, sI s, sI i], []) (HM q V)) (fun i => cntI (fun t => V 6 0 t = 0) i) 0 (V 2 0 8) (by
    intro i l h1 h2
    refine ⟨(), ?_⟩
    try dsimp only
    rw [cntI_succ _ h1]
    have hm : 0 ≤ V 6 0 i ∧ V 6 0 i ≤ 3 := rk.2.2.2.2.2.1 i (by omega)
    refine Eq.trans (k_iload rfl rfl) (Eq.trans (k_aload rfl rfl) (Eq.trans (k_getfr rfl rfl rfl) (Eq.trans (k_getfi 8 rfl rfl rfl rfl) (Eq.trans (Eq.trans (k_icmpc (V 2 0 8 ≤ i) rfl (iI_le (by constructor <;> omega) (by constructor <;> omega))) (cif_neg (by omega))) (Eq.trans (k_aload rfl rfl) (Eq.trans (k_getfr rfl rfl rfl) (Eq.trans (k_getfr rfl rfl rfl) (Eq.trans (k_iload rfl rfl) (Eq.trans (k_iald rfl rfl rfl (by omega)) ?_)))))))))
    by_cases c2 : V 6 0 i = 0
    · rw [b2i_pos c2]
      exact Eq.trans (Eq.trans (k_ifcN (V 6 0 i = 0) rfl (iI_ne0 (by constructor <;> omega))) (cif_pos c2)) (Eq.trans (k_iinc 1 rfl rfl rfl) (Eq.trans (k_iinc 1 rfl rfl rfl) (k_goto rfl)))
    · rw [b2i_neg c2, Int.add_zero]
      exact Eq.trans (Eq.trans (k_ifcN (V 6 0 i = 0) rfl (iI_ne0 (by constructor <;> omega))) (cif_neg c2)) (Eq.trans (k_iinc 1 rfl rfl rfl) (k_goto rfl))) hn.1 ()
  refine Eq.trans e ?_
  have hs := cntI_b (fun t => V 6 0 t = 0) hn.1
  exact Eq.trans (k_iload rfl rfl) (Eq.trans (k_aload rfl rfl) (Eq.trans (k_getfr rfl rfl rfl) (Eq.trans (k_getfi 8 rfl rfl rfl rfl) (Eq.trans (Eq.trans (k_icmpc (V 2 0 8 ≤ V 2 0 8) rfl (iI_le (by constructor <;> omega) (by constructor <;> omega))) (cif_pos (by omega))) (Eq.trans (k_iload rfl rfl) (Eq.trans (k_i2f rfl) (Eq.trans (k_aload rfl rfl) (Eq.trans (k_getfr rfl rfl rfl) (Eq.trans (k_getfi 8 rfl rfl rfl rfl) (Eq.trans (k_i2f rfl) (Eq.trans (k_fdiv rfl (meanF_ok (by omega) (by omega)).1) (k_fret rfl))))))))))))
end
theorem cmp_d : ∀ a : Fin 145, ∀ b : Fin 8, Op.cmpValue (FP.dcmp (FP.ddiv (FP.i2d (iI (a.val : Int))) (FP.i2d (iI ((b.val : Int) + 1)))) (FP.ddiv (FP.i2d (iI (a.val : Int))) (FP.i2d (iI ((b.val : Int) + 1))))) .l = 0 := by decide +kernel
theorem cmp_f : ∀ a : Fin 9, ∀ b : Fin 8, Op.cmpValue (FP.fcmp (FP.fdiv (FP.i2f (iI (a.val : Int))) (FP.i2f (iI ((b.val : Int) + 1)))) (FP.fdiv (FP.i2f (iI (a.val : Int))) (FP.i2f (iI ((b.val : Int) + 1))))) .l = 0 := by decide +kernel
theorem meanD_cmp {s n : Int} (hs : 0 ≤ s ∧ s ≤ 144) (hn : 1 ≤ n ∧ n ≤ 8) : Op.cmpValue (FP.dcmp (meanD s n) (meanD s n)) .l = 0 := by
  have k := cmp_d ⟨s.toNat, by omega⟩ ⟨(n - 1).toNat, by omega⟩
  unfold meanD
  have e1 : ((s.toNat : Nat) : Int) = s := by omega
  have e2 : (((n - 1).toNat : Nat) : Int) + 1 = n := by omega
  dsimp only at k
  rw [e1, e2] at k
  exact k
theorem meanF_cmp {s n : Int} (hs : 0 ≤ s ∧ s ≤ 8) (hn : 1 ≤ n ∧ n ≤ 8) : Op.cmpValue (FP.fcmp (meanF s n) (meanF s n)) .l = 0 := by
  have k := cmp_f ⟨s.toNat, by omega⟩ ⟨(n - 1).toNat, by omega⟩
  unfold meanF
  have e1 : ((s.toNat : Nat) : Int) = s := by omega
  have e2 : (((n - 1).toNat : Nat) : Int) + 1 = n := by omega
  dsimp only at k
  rw [e1, e2] at k
  exact k
section
variable {d n0 a b mb : Nat} {q : QQ} {V : VV} {L : List Int}
theorem out_at (h : outIs V L) {i : Nat} (hi : i < L.length) : V 32 0 i = L.getD i 0 := by
  have := h.2.2 i hi
  rw [List.getD_eq_getElem?_getD, this]
  rfl
theorem s_388 (lw : LW V) (h : ST n0 q V a b mb L) (ho : outIs V L) : RUN (d + 4) 388 (am_en 388 [aR 1 0, aI (iI (L.length : Int)), aR a b]) (HM q V) = rI 1 (HM (thr q) V) := by
  have hlen : L.length ≤ 32 := ho.2.1
  have h31 : V 31 0 1 = L.length := ho.1
  have e389 := fun (q : QQ) (i : Int) (hi : 0 ≤ i ∧ i ≤ L.length) => e_389 (d := d + 2) (q := q) (V := V) (x1 := i) lw.1 (by omega) (by omega) (fun _ z => by omega) (fun _ z => by
    have t := out_at ho (i := i.toNat) (by omega)
    rw [show (i.toNat : Int) = i by omega] at t
    have := h.1.1 i.toNat
    omega)
  have loop : ∀ (r k : Nat), k + r = L.length → RUN (d + 4) 388 (17, [sR 1 0, sI (L.length : Int), sR a b, sI 1, sI (k : Int)], []) (HM q V) = RUN (d + 4) 388 (57, [sR 1 0, sI (L.length : Int), sR a b, sI 1, sI (L.length : Int)], []) (HM q V) := by
    intro r
    induction r with
    | zero =>
      intro k e0
      have ek : k = L.length := by omega
      subst ek
      refine Eq.trans (k_iload rfl rfl) ?_
      refine Eq.trans (k_aload rfl rfl) ?_
      refine Eq.trans (RUN_ci rfl (s0_or h rfl) rfl (c_181 (d := d + 2) h) (qle_refl _)) ?_
      exact Eq.trans (k_icmpc ((L.length : Int) ≤ (L.length : Int)) rfl (iI_le (by omega) (by omega))) (cif_pos (Int.le_refl _))
    | succ r ih =>
      intro k e0
      have e := e389 q (k : Int) (by omega)
      have t := out_at ho (i := k) (by omega)
      rw [cif_neg (by omega), cif_pos (by omega), t] at e
      have as := h.1.1 k
      have ec := c_175 (d := d) (i := (k : Int)) h (by omega)
      rw [show ((k : Int).toNat) = k by omega] at ec
      refine Eq.trans (k_iload rfl rfl) ?_
      refine Eq.trans (k_aload rfl rfl) ?_
      refine Eq.trans (RUN_ci rfl (s0_or h rfl) rfl (c_181 (d := d + 2) h) (qle_refl _)) ?_
      refine Eq.trans (Eq.trans (k_icmpc ((L.length : Int) ≤ (k : Int)) rfl (iI_le (by omega) (by omega))) (cif_neg (by omega))) ?_
      refine Eq.trans (k_iload rfl rfl) ?_
      refine Eq.trans (Eq.trans (k_ifc ((1 : Int) = 0) rfl (iI_eq0 ⟨by decide, by decide⟩)) (cif_neg (by decide))) ?_
      refine Eq.trans (k_aload rfl rfl) ?_
      refine Eq.trans (k_iload rfl rfl) ?_
      refine Eq.trans (RUN_ci rfl rfl rfl e (qle_refl _)) ?_
      refine Eq.trans (k_aload rfl rfl) ?_
      refine Eq.trans (k_iload rfl rfl) ?_
      refine Eq.trans (RUN_ci rfl (s1_or h rfl) rfl ec (qle_refl _)) ?_
      refine Eq.trans (Eq.trans (k_icmpcN (L.getD k 0 = L.getD k 0) rfl (iI_ne (by omega) (by omega))) (cif_pos rfl)) ?_
      refine Eq.trans (k_pushi (1) rfl rfl) ?_
      refine Eq.trans (k_goto rfl) ?_
      refine Eq.trans (k_store rfl) ?_
      refine Eq.trans (k_iinc 1 rfl rfl rfl) ?_
      refine Eq.trans (k_goto rfl) ?_
      have := ih (k + 1) (by omega)
      rw [show ((k + 1 : Nat) : Int) = (k : Int) + 1 by omega] at this
      exact this
  have ee := e389 q (L.length : Int) (by omega)
  rw [cif_neg (by omega), cif_neg (by omega)] at ee
  refine (show RUN (d + 4) 388 (0, [sR 1 0, sI (L.length : Int), sR a b, none, none], []) (HM q V) = _ from ?_)
  refine Eq.trans (k_iload rfl rfl) ?_
  refine Eq.trans (k_aload rfl rfl) ?_
  refine Eq.trans (RUN_ci rfl (s0_or h rfl) rfl (c_181 (d := d + 2) h) (qle_refl _)) ?_
  refine Eq.trans (Eq.trans (k_icmpcN ((L.length : Int) = (L.length : Int)) rfl (iI_ne (by omega) (by omega))) (cif_pos rfl)) ?_
  refine Eq.trans (k_pushi (1) rfl rfl) ?_
  refine Eq.trans (k_goto rfl) ?_
  refine Eq.trans (k_store rfl) ?_
  refine Eq.trans (k_pushi (0) rfl rfl) ?_
  refine Eq.trans (k_store rfl) ?_
  refine Eq.trans (loop L.length 0 (by omega)) ?_
  refine Eq.trans (k_iload rfl rfl) ?_
  refine Eq.trans (Eq.trans (k_ifc ((1 : Int) = 0) rfl (iI_eq0 ⟨by decide, by decide⟩)) (cif_neg (by decide))) ?_
  refine Eq.trans (k_aload rfl rfl) ?_
  refine Eq.trans (k_iload rfl rfl) ?_
  refine Eq.trans (RUN_ci rfl rfl rfl ee (qle_thr _)) ?_
  refine Eq.trans (k_pushi (-11) rfl rfl) ?_
  refine Eq.trans (Eq.trans (k_icmpcN ((-11 : Int) = -11) rfl (iI_ne ⟨by decide, by decide⟩ ⟨by decide, by decide⟩)) (cif_pos rfl)) ?_
  refine Eq.trans (k_pushi (1) rfl rfl) ?_
  refine Eq.trans (k_goto rfl) ?_
  exact k_iret rfl (iI_bool (z := 1) (by decide))
theorem kp_offO {W : VV} (lw : LW V) (o : offO V W) (h : outIs W L) : kp n0 V W := by
  refine ⟨fun a h1 h2 => funext fun b => o a b (by omega), funext fun b => o 23 b (by omega), fun x _ => o 46 x (by omega), relok_eq (fun a b z1 z2 => o a b (by omega)) lw.2.2.2.2.1, ?_, ?_⟩
  · unfold outok
    rw [h.1]
    have := h.2.1
    constructor <;> omega
  · unfold inok
    rw [o 27 0 (by omega), o 28 0 (by omega)]
    exact lw.2.2.2.2.2.2
theorem w_387 {t : Int} (lw : LW V) (ht : 0 ≤ t ∧ t < V 2 0 8) : ∃ W, RUN (d + 3) 387 (am_en 387 [aR 1 0, aI (iI t)]) (HM q V) = rI (twrL V t).length (HM q W) ∧ kp n0 V W ∧ outIs W (twrL V t) := by
  have hn := rk_n lw.1
  rcases s_157 (d := d) (q := q) lw.1 lw.2.2.2.2.2.1 (x1 := t) (by omega) with ⟨z, _⟩ | ⟨_, W, o, oi, e⟩
  · exact absurd ht z
  · refine ⟨W, ?_, kp_offO lw o oi, oi⟩
    refine (show RUN (d + 3) 387 (0, [sR 1 0, sI t, none], []) (HM q V) = _ from ?_)
    refine Eq.trans (k_aload rfl rfl) ?_
    refine Eq.trans (k_iload rfl rfl) ?_
    refine Eq.trans (RUN_ci rfl rfl rfl e (qle_refl _)) ?_
    exact k_iret rfl trivial
theorem o_387 {t : Int} (lw : LW V) (hR : R32 t) (ht : ¬ (0 ≤ t ∧ t < V 2 0 8)) : RUN (d + 3) 387 (am_en 387 [aR 1 0, aI (iI t)]) (HM q V) = rI (-11) (HM (thr q) V) := by
  rcases s_157 (d := d) (q := q) lw.1 lw.2.2.2.2.2.1 (x1 := t) hR with ⟨_, e⟩ | ⟨z, _⟩
  · refine (show RUN (d + 3) 387 (0, [sR 1 0, sI t, none], []) (HM q V) = _ from ?_)
    refine Eq.trans (k_aload rfl rfl) ?_
    refine Eq.trans (k_iload rfl rfl) ?_
    refine Eq.trans (RUN_ch rfl rfl rfl e (qle_thr _) rfl rfl rfl) ?_
    refine Eq.trans (k_pushi (-11) rfl rfl) ?_
    exact k_iret rfl trivial
  · exact absurd z ht
theorem w_390 {x1 x2 : Int} (lw : LW V) (p1 : 0 ≤ x1 ∧ x1 < V 2 0 8) (p2 : 0 ≤ x2 ∧ x2 < V 2 0 8) : (¬ pR V x1 x2 ∧ ∃ W, RUN (d + 6) 390 (am_en 390 [aR 1 0, aI (iI x1), aI (iI x2)]) (HM q V) = rI (-13) (HM (thr q) W) ∧ kp n0 V W) ∨ (pR V x1 x2 ∧ ∃ W, RUN (d + 6) 390 (am_en 390 [aR 1 0, aI (iI x1), aI (iI x2)]) (HM q V) = rI (relT V x1 x2).length (HM q W) ∧ kp n0 V W ∧ outIs W (relT V x1 x2)) := by
  have hn := rk_n lw.1
  rcases s_162 (d := d) (q := q) lw.1 lw.2.2.2.2.1 lw.2.2.2.2.2.1 (x1 := x1) (x2 := x2) (by omega) (by omega) with ⟨z, _⟩ | ⟨_, hR, e⟩ | ⟨_, hR, W, o, oi, e⟩
  · exact absurd ⟨p1.1, p1.2, p2.1, p2.2⟩ z
  · refine Or.inl ⟨hR, lostV V x2, ?_, kp_lost lw p2⟩
    refine (show RUN (d + 6) 390 (0, [sR 1 0, sI x1, sI x2, none], []) (HM q V) = _ from ?_)
    refine Eq.trans (k_aload rfl rfl) ?_
    refine Eq.trans (k_iload rfl rfl) ?_
    refine Eq.trans (k_iload rfl rfl) ?_
    refine Eq.trans (RUN_ch rfl rfl rfl e (qle_thr _) rfl rfl rfl) ?_
    refine Eq.trans (k_pushi (-13) rfl rfl) ?_
    exact k_iret rfl trivial
  · refine Or.inr ⟨hR, W, ?_, (kp_found lw p1 p2 hR).trans (kp_offO (lw.of_kp (kp_found (n0 := n0) lw p1 p2 hR)) o oi), oi⟩
    refine (show RUN (d + 6) 390 (0, [sR 1 0, sI x1, sI x2, none], []) (HM q V) = _ from ?_)
    refine Eq.trans (k_aload rfl rfl) ?_
    refine Eq.trans (k_iload rfl rfl) ?_
    refine Eq.trans (k_iload rfl rfl) ?_
    refine Eq.trans (RUN_ci rfl rfl rfl e (qle_refl _)) ?_
    exact k_iret rfl trivial
theorem o_390 {x1 x2 : Int} (lw : LW V) (h1 : R32 x1) (h2 : R32 x2) (hno : ¬ (0 ≤ x1 ∧ x1 < V 2 0 8 ∧ 0 ≤ x2 ∧ x2 < V 2 0 8)) : RUN (d + 6) 390 (am_en 390 [aR 1 0, aI (iI x1), aI (iI x2)]) (HM q V) = rI (-11) (HM (thr q) V) := by
  rcases s_162 (d := d) (q := q) lw.1 lw.2.2.2.2.1 lw.2.2.2.2.2.1 (x1 := x1) (x2 := x2) h1 h2 with ⟨_, e⟩ | ⟨z, _⟩ | ⟨z, _⟩
  · refine (show RUN (d + 6) 390 (0, [sR 1 0, sI x1, sI x2, none], []) (HM q V) = _ from ?_)
    refine Eq.trans (k_aload rfl rfl) ?_
    refine Eq.trans (k_iload rfl rfl) ?_
    refine Eq.trans (k_iload rfl rfl) ?_
    refine Eq.trans (RUN_ch rfl rfl rfl e (qle_thr _) rfl rfl rfl) ?_
    refine Eq.trans (k_pushi (-11) rfl rfl) ?_
    exact k_iret rfl trivial
  · exact absurd z hno
  · exact absurd z hno
end
