/-! an object is drawn from the numbers -/
section
variable {B : Int} {d n0 : Nat} {q : QQ} {V : VV} {a c k n : Int} {l3 l4 l5 l6 l7 : Option AV}
/-- one of two numbers, by the seed -/
theorem dr_two {y pc p1 p2 p3 p4 p5 p6 p7 : Nat} {m1 m2 g : Int} {ls : List (Option AV)} {st : List AV} (ha : 0 ≤ a ∧ a < 2147483648) (hg : 0 < g ∧ g < 100) (hl : ls[2]? = some (some (aI (iI a)))) (hm1 : 0 < m1 ∧ m1 < 17) (hm2 : 0 < m2 ∧ m2 < 17)
    (c1 : am_cd y pc = i_iload 2 p1) (c2 : am_cd y p1 = i_push (aI (iI g)) p2) (c3 : am_cd y p2 = i_div (fun a b => a - a / b * b) p3) (c4 : am_cd y p3 = i_if (fun a => a ≠ 0) (fun _ => inferInstance) p6 p4) (c5 : am_cd y p4 = i_push (aI (iI m1)) p5) (c6 : am_cd y p5 = i_goto p7) (c7 : am_cd y p6 = i_push (aI (iI m2)) p7) :
    ∃ m, (m = m1 ∨ m = m2) ∧ RUN d y (pc, ls, st) (HM q V) = RUN d y (p7, ls, aI (iI m) :: st) (HM q V) := by
  have hd : RUN d y (pc, ls, st) (HM q V) = cif (¬ a % g = 0) (RUN d y (p6, ls, st) (HM q V)) (RUN d y (p4, ls, st) (HM q V)) := by
    have z := Int.emod_nonneg a (show g ≠ 0 by omega)
    have z2 := Int.emod_lt_of_pos a hg.1
    refine Eq.trans (k_iload c1 hl) ?_
    refine Eq.trans (k_pushi g c2 rfl) ?_
    refine Eq.trans (k_div c3 (iI_rem (by omega) (by omega)) (by omega)) ?_
    exact k_ifc (¬ a % g = 0) c4 (iI_ne0 (by omega))
  by_cases c : a % g = 0
  · refine ⟨m1, Or.inl rfl, hd.trans ((cif_neg (fun z => z c)).trans ?_)⟩
    exact Eq.trans (k_pushi m1 c5 rfl) (k_goto c6)
  · exact ⟨m2, Or.inr rfl, hd.trans ((cif_pos c).trans (k_pushi m2 c7 rfl))⟩
/-- what is known while an object is drawn -/
def DR (B : Int) (n0 m : Nat) (q0 q : QQ) (V : VV) : Prop := LQ B V ∧ XQ V ∧ adv m (6 * m) n0 q0 q
theorem DR.step {C : Int} {m : Nat} {v : Int} {q0 q' : QQ} {W : VV} (h : DR B n0 m q0 q V) (o : OPd 1 C n0 q V v q' W) (x : XQ V → XQ W) : DR C n0 (m + 1) q0 q' W := ⟨o.2.2.1, x h.2.1, by
  have := h.2.2.trans o.1
  exact this.mono (Nat.le_refl _) (by omega) (Nat.le_refl _)⟩
theorem OPd_R {m : Nat} {C v : Int} {q' : QQ} {W : VV} (o : OPd m C n0 q V v q' W) : R32 v := by
  rcases o.2.2.2 with ⟨z, _⟩ | ⟨z, _⟩ <;> omega
/-- the grounds -/
theorem dr_1 (ha : 0 ≤ a ∧ a < 2147483648) (hB : B ≤ 999000) {q0 : QQ} (hL : q0.1.1 < 2147483648) : ∀ (r : Nat) (k : Int) (m : Nat) (q : QQ) (V : VV) (l4 : Option AV), DR B n0 m q0 q V → V 2 0 8 = 0 → V 2 0 9 = 0 → 0 ≤ k → k + r = 12 →
    ∃ q' W l4', RUN (d + 7) 308 (18, [sR 0 0, sR 1 0, sI a, sI k, l4, l5, l6, l7], []) (HM q V) = RUN (d + 7) 308 (72, [sR 0 0, sR 1 0, sI a, sI 12, l4', l5, l6, l7], []) (HM q' W) ∧ DR B n0 (m + r) q0 q' W ∧ W 2 0 8 = 0 ∧ W 2 0 9 = 0 := by
  intro r
  induction r with
  | zero =>
    intro k m q V l4 h h8 h9 hk e
    have ek : k = 12 := by omega
    subst ek
    refine ⟨q, V, l4, ?_, h, h8, h9⟩
    refine Eq.trans (k_iload rfl rfl) ?_
    refine Eq.trans (k_pushi (12) rfl rfl) ?_
    exact Eq.trans (k_icmpc ((12 : Int) ≤ 12) rfl (iI_le ⟨by decide, by decide⟩ ⟨by decide, by decide⟩)) (cif_pos (by decide))
  | succ r ih =>
    intro k m q V l4 h h8 h9 hk e
    obtain ⟨z, zR, ec⟩ := o_309 (d := d + 6) (q := q) (V := V) (k := 1 + k) (by rw [h.2.2.1.1]; exact hL) (by omega)
    have u1 := usr_nn z 1 (by decide) (by decide)
    generalize hc : bUsr z 1 = c at u1
    have u5 := usr_nn c 5 (by decide) (by decide)
    obtain ⟨m0, hm0, e2⟩ := dr_two (d := d + 7) (q := q) (V := V) (y := 308) (pc := 45) (g := 3) (m1 := 10) (m2 := 4) (a := a) (ls := [sR 0 0, sR 1 0, sI a, sI k, sI c, l5, l6, l7]) (st := [aI (iI (bUsr c 5)), aI (iI (c % 32)), aR 1 0]) ha (by decide) rfl (by decide) (by decide) rfl rfl rfl rfl rfl rfl rfl
    have hmb : 0 ≤ bUsr c 5 % m0 ∧ bUsr c 5 % m0 ≤ 9 := by rcases hm0 with z | z <;> (subst z; omega)
    obtain ⟨v, q', W, e3, o, hx⟩ := op_310 (d := d + 3) (n0 := n0) (q := q) (V := V) (x1 := c % 32) (x2 := bUsr c 5 % m0) h.1 (by omega) (by omega) (by omega)
    obtain ⟨v0, w8, w9, hxq⟩ := hx (by omega) (by omega)
    have vR := OPd_R o
    obtain ⟨q2, W2, m4, e4, D2, g8, g9⟩ := ih (k + 1) (m + 1) q' W (sI c) (h.step o hxq) (w8.trans h8) (w9.trans h9) (by omega) (by omega)
    refine ⟨q2, W2, m4, ?_, by rw [show m + (r + 1) = m + 1 + r by omega]; exact D2, g8, g9⟩
    refine Eq.trans (k_iload rfl rfl) ?_
    refine Eq.trans (k_pushi (12) rfl rfl) ?_
    refine Eq.trans (Eq.trans (k_icmpc ((12 : Int) ≤ k) rfl (iI_le (by omega) (by omega))) (cif_neg (by omega))) ?_
    refine Eq.trans (k_aload rfl rfl) ?_
    refine Eq.trans (k_pushi (1) rfl rfl) ?_
    refine Eq.trans (k_iload rfl rfl) ?_
    refine Eq.trans (k_bin rfl (iI_add _ _)) ?_
    refine Eq.trans (RUN_ci rfl rfl rfl ec (qle_refl _)) ?_
    refine Eq.trans (k_pushi (1) rfl rfl) ?_
    refine Eq.trans (k_bin rfl (usr_e _ _)) ?_
    refine Eq.trans (k_store rfl) ?_
    rw [hc]
    refine Eq.trans (k_aload rfl rfl) ?_
    refine Eq.trans (k_iload rfl rfl) ?_
    refine Eq.trans (k_pushi (32) rfl rfl) ?_
    refine Eq.trans (k_div rfl (iI_rem (a := c) (by omega) ⟨by decide, by decide⟩) ⟨by decide, by decide⟩) ?_
    refine Eq.trans (k_iload rfl rfl) ?_
    refine Eq.trans (k_pushi (5) rfl rfl) ?_
    refine Eq.trans (k_bin rfl (usr_e _ _)) ?_
    refine Eq.trans (e2) ?_
    refine Eq.trans (k_div rfl (iI_rem (a := bUsr c 5) (by omega) (by omega)) (by omega)) ?_
    refine Eq.trans (RUN_ci rfl rfl rfl e3 o.1.qle) ?_
    refine Eq.trans (Eq.trans (k_ifc ((0 : Int) ≤ v) rfl (iI_0le vR)) (cif_pos v0)) ?_
    refine Eq.trans (k_iinc 1 rfl rfl rfl) ?_
    refine Eq.trans (k_goto rfl) ?_
    exact e4
/-- the towers -/
theorem dr_2 (ha : 0 ≤ a ∧ a < 2147483648) (hB : B ≤ 999000) {q0 : QQ} (hL : q0.1.1 < 2147483648) (hn : n ≤ 8) : ∀ (r : Nat) (k : Int) (m : Nat) (q : QQ) (V : VV) (l5 : Option AV), DR B n0 m q0 q V → (1 ≤ k → 1 ≤ V 2 0 8) → V 2 0 9 = 0 → 0 ≤ k → k + r = n →
    ∃ q' W l5', RUN (d + 7) 308 (84, [sR 0 0, sR 1 0, sI a, sI n, sI k, l5, l6, l7], []) (HM q V) = RUN (d + 7) 308 (150, [sR 0 0, sR 1 0, sI a, sI n, sI n, l5', l6, l7], []) (HM q' W) ∧ DR B n0 (m + r) q0 q' W ∧ (1 ≤ n → 1 ≤ W 2 0 8) ∧ W 2 0 9 = 0 := by
  intro r
  induction r with
  | zero =>
    intro k m q V l5 h h8 h9 hk e
    have ek : k = n := by omega
    subst ek
    refine ⟨q, V, l5, ?_, h, h8, h9⟩
    refine Eq.trans (k_iload rfl rfl) ?_
    refine Eq.trans (k_iload rfl rfl) ?_
    exact Eq.trans (k_icmpc (k ≤ k) rfl (iI_le (by omega) (by omega))) (cif_pos (Int.le_refl _))
  | succ r ih =>
    intro k m q V l5 h h8 h9 hk e
    obtain ⟨z, zR, ec⟩ := o_309 (d := d + 6) (q := q) (V := V) (k := 13 + k) (by rw [h.2.2.1.1]; exact hL) (by omega)
    have u1 := usr_nn z 1 (by decide) (by decide)
    generalize hc : bUsr z 1 = c at u1
    have u5 := usr_nn c 5 (by decide) (by decide)
    have u9 := usr_nn c 9 (by decide) (by decide)
    obtain ⟨m0, hm0, e2⟩ := dr_two (d := d + 7) (q := q) (V := V) (y := 308) (pc := 114) (g := 5) (m1 := 9) (m2 := 4) (a := a) (ls := [sR 0 0, sR 1 0, sI a, sI n, sI k, sI c, l6, l7]) (st := [aI (iI (bUsr c 5)), aI (iI 1), aI (iI (c % 32)), aR 1 0]) ha (by decide) rfl (by decide) (by decide) rfl rfl rfl rfl rfl rfl rfl
    have hmb : 0 ≤ bUsr c 5 % m0 ∧ bUsr c 5 % m0 ≤ 8 := by rcases hm0 with z | z <;> (subst z; omega)
    obtain ⟨v, q', W, e3, o, hx⟩ := op_311 (d := d + 3) (n0 := n0) (q := q) (V := V) (x1 := c % 32) (x2 := 1 + bUsr c 5 % m0) (x3 := bUsr c 9 % 4) h.1 (by omega) (by omega) (by omega) (by omega)
    obtain ⟨v0, w8, w9, hxq⟩ := hx (by omega) (by omega) (by omega)
    have vR := OPd_R o
    obtain ⟨q2, W2, m4, e4, D2, g8, g9⟩ := ih (k + 1) (m + 1) q' W (sI c) (h.step o hxq) (fun _ => w8) (w9.trans h9) (by omega) (by omega)
    refine ⟨q2, W2, m4, ?_, by rw [show m + (r + 1) = m + 1 + r by omega]; exact D2, g8, g9⟩
    refine Eq.trans (k_iload rfl rfl) ?_
    refine Eq.trans (k_iload rfl rfl) ?_
    refine Eq.trans (Eq.trans (k_icmpc (n ≤ k) rfl (iI_le (by omega) (by omega))) (cif_neg (by omega))) ?_
    refine Eq.trans (k_aload rfl rfl) ?_
    refine Eq.trans (k_pushi (13) rfl rfl) ?_
    refine Eq.trans (k_iload rfl rfl) ?_
    refine Eq.trans (k_bin rfl (iI_add _ _)) ?_
    refine Eq.trans (RUN_ci rfl rfl rfl ec (qle_refl _)) ?_
    refine Eq.trans (k_pushi (1) rfl rfl) ?_
    refine Eq.trans (k_bin rfl (usr_e _ _)) ?_
    refine Eq.trans (k_store rfl) ?_
    rw [hc]
    refine Eq.trans (k_aload rfl rfl) ?_
    refine Eq.trans (k_iload rfl rfl) ?_
    refine Eq.trans (k_pushi (32) rfl rfl) ?_
    refine Eq.trans (k_div rfl (iI_rem (a := c) (by omega) ⟨by decide, by decide⟩) ⟨by decide, by decide⟩) ?_
    refine Eq.trans (k_pushi (1) rfl rfl) ?_
    refine Eq.trans (k_iload rfl rfl) ?_
    refine Eq.trans (k_pushi (5) rfl rfl) ?_
    refine Eq.trans (k_bin rfl (usr_e _ _)) ?_
    refine Eq.trans (e2) ?_
    refine Eq.trans (k_div rfl (iI_rem (a := bUsr c 5) (by omega) (by omega)) (by omega)) ?_
    refine Eq.trans (k_bin rfl (iI_add _ _)) ?_
    refine Eq.trans (k_iload rfl rfl) ?_
    refine Eq.trans (k_pushi (9) rfl rfl) ?_
    refine Eq.trans (k_bin rfl (usr_e _ _)) ?_
    refine Eq.trans (k_pushi (4) rfl rfl) ?_
    refine Eq.trans (k_div rfl (iI_rem (a := bUsr c 9) (by omega) ⟨by decide, by decide⟩) ⟨by decide, by decide⟩) ?_
    refine Eq.trans (RUN_ci rfl rfl rfl e3 o.1.qle) ?_
    refine Eq.trans (k_pushi (-1) rfl rfl) ?_
    refine Eq.trans (Eq.trans (k_icmpc (¬ v = -1) rfl (iI_ne vR ⟨by decide, by decide⟩)) (cif_pos v0)) ?_
    refine Eq.trans (k_iinc 1 rfl rfl rfl) ?_
    refine Eq.trans (k_goto rfl) ?_
    exact e4
/-- the smokes -/
theorem dr_3 (ha : 0 ≤ a ∧ a < 2147483648) {q0 : QQ} (hL : q0.1.1 < 2147483648) (hn : 1 ≤ n ∧ n ≤ 8) : ∀ (r : Nat) (k B : Int) (m : Nat) (q : QQ) (V : VV) (l6 l7 : Option AV), B + 10 * r ≤ 999000 → DR B n0 m q0 q V → V 2 0 8 = n → 0 ≤ k → k + r = 18 →
    ∃ q' W, RUN (d + 7) 308 (179, [sR 0 0, sR 1 0, sI a, l3, sI n, sI k, l6, l7], []) (HM q V) = some (Sum.inl (some (aR 1 0)), HM q' W) ∧ DR (B + 10 * r) n0 (m + r) q0 q' W ∧ W 2 0 8 = n := by
  intro r
  induction r with
  | zero =>
    intro k B m q V l6 l7 hB h h8 hk e
    have ek : k = 18 := by omega
    subst ek
    refine ⟨q, V, ?_, by rw [show B + 10 * ((0 : Nat) : Int) = B by omega]; exact h, h8⟩
    refine Eq.trans (k_iload rfl rfl) ?_
    refine Eq.trans (k_pushi (18) rfl rfl) ?_
    refine Eq.trans (Eq.trans (k_icmpc ((18 : Int) ≤ 18) rfl (iI_le ⟨by decide, by decide⟩ ⟨by decide, by decide⟩)) (cif_pos (by decide))) ?_
    refine Eq.trans (k_aload rfl rfl) ?_
    exact k_aretR rfl
  | succ r ih =>
    intro k B m q V l6 l7 hB h h8 hk e
    obtain ⟨z, zR, ec⟩ := o_309 (d := d + 6) (q := q) (V := V) (k := 21 + k) (by rw [h.2.2.1.1]; exact hL) (by omega)
    have u1 := usr_nn z 1 (by decide) (by decide)
    generalize hc : bUsr z 1 = c at u1
    have u4 := usr_nn c 4 (by decide) (by decide)
    have u8 := usr_nn c 8 (by decide) (by decide)
    have n1 := Int.emod_nonneg c (show n ≠ 0 by omega)
    have n2 := Int.emod_lt_of_pos c (show 0 < n by omega)
    have n3 := Int.emod_nonneg (bUsr c 4) (show n ≠ 0 by omega)
    have n4 := Int.emod_lt_of_pos (bUsr c 4) (show 0 < n by omega)
    obtain ⟨m0, hm0, e2⟩ := dr_two (d := d + 7) (q := q) (V := V) (y := 308) (pc := 219) (g := 2) (m1 := 16) (m2 := 4) (a := a) (ls := [sR 0 0, sR 1 0, sI a, l3, sI n, sI k, sI c, l7]) (st := [aI (iI (bUsr c 8)), aI (iI 97), aI (iI (bUsr c 4 % n)), aI (iI (c % n)), aR 1 0]) ha (by decide) rfl (by decide) (by decide) rfl rfl rfl rfl rfl rfl rfl
    have hmb : 0 ≤ bUsr c 8 % m0 ∧ bUsr c 8 % m0 ≤ 15 := by rcases hm0 with z | z <;> (subst z; omega)
    obtain ⟨v, q', W, e3, o, hx, w8, hxq⟩ := op_313 (d := d) (n0 := n0) (q := q) (V := V) (x1 := c % n) (x2 := bUsr c 4 % n) (x3 := (97 + bUsr c 8 % m0) % 65536) h.1 (by omega) (by omega) (by omega) (by omega)
    have v0 := hx (by omega) (by omega) (by omega)
    have vR := OPd_R o
    obtain ⟨q2, W2, e4, D2, g8⟩ := ih (k + 1) (B + 10) (m + 1) q' W (sI c) (sI v) (by omega) (h.step o hxq) (w8.trans h8) (by omega) (by omega)
    refine ⟨q2, W2, ?_, by rw [show m + (r + 1) = m + 1 + r by omega, show B + 10 * ((r + 1 : Nat) : Int) = B + 10 + 10 * (r : Int) by omega]; exact D2, g8⟩
    have tail : RUN (d + 7) 308 (253, [sR 0 0, sR 1 0, sI a, l3, sI n, sI k, sI c, sI v], []) (HM q' W) = some (Sum.inl (some (aR 1 0)), HM q2 W2) := by
      refine Eq.trans (k_iinc 1 rfl rfl rfl) ?_
      refine Eq.trans (k_goto rfl) ?_
      exact e4
    have tail2 : RUN (d + 7) 308 (239, [sR 0 0, sR 1 0, sI a, l3, sI n, sI k, sI c, sI v], []) (HM q' W) = some (Sum.inl (some (aR 1 0)), HM q2 W2) := by
      rcases v0 with z | z
      · refine Eq.trans (k_iload rfl rfl) ?_
        refine Eq.trans (Eq.trans (k_ifc ((0 : Int) ≤ v) rfl (iI_0le vR)) (cif_pos z)) ?_
        exact tail
      · refine Eq.trans (k_iload rfl rfl) ?_
        refine Eq.trans (Eq.trans (k_ifc ((0 : Int) ≤ v) rfl (iI_0le vR)) (cif_neg (by omega))) ?_
        refine Eq.trans (k_iload rfl rfl) ?_
        refine Eq.trans (k_pushi (-3) rfl rfl) ?_
        refine Eq.trans (Eq.trans (k_icmpc (v = -3) rfl (iI_eq vR ⟨by decide, by decide⟩)) (cif_pos z)) ?_
        exact tail
    refine Eq.trans (k_iload rfl rfl) ?_
    refine Eq.trans (k_pushi (18) rfl rfl) ?_
    refine Eq.trans (Eq.trans (k_icmpc ((18 : Int) ≤ k) rfl (iI_le (by omega) (by omega))) (cif_neg (by omega))) ?_
    refine Eq.trans (k_aload rfl rfl) ?_
    refine Eq.trans (k_pushi (21) rfl rfl) ?_
    refine Eq.trans (k_iload rfl rfl) ?_
    refine Eq.trans (k_bin rfl (iI_add _ _)) ?_
    refine Eq.trans (RUN_ci rfl rfl rfl ec (qle_refl _)) ?_
    refine Eq.trans (k_pushi (1) rfl rfl) ?_
    refine Eq.trans (k_bin rfl (usr_e _ _)) ?_
    refine Eq.trans (k_store rfl) ?_
    rw [hc]
    refine Eq.trans (k_aload rfl rfl) ?_
    refine Eq.trans (k_iload rfl rfl) ?_
    refine Eq.trans (k_iload rfl rfl) ?_
    refine Eq.trans (k_div rfl (iI_rem (a := c) (by omega) (by omega)) (by omega)) ?_
    refine Eq.trans (k_iload rfl rfl) ?_
    refine Eq.trans (k_pushi (4) rfl rfl) ?_
    refine Eq.trans (k_bin rfl (usr_e _ _)) ?_
    refine Eq.trans (k_iload rfl rfl) ?_
    refine Eq.trans (k_div rfl (iI_rem (a := bUsr c 4) (by omega) (by omega)) (by omega)) ?_
    refine Eq.trans (k_pushi (97) rfl rfl) ?_
    refine Eq.trans (k_iload rfl rfl) ?_
    refine Eq.trans (k_pushi (8) rfl rfl) ?_
    refine Eq.trans (k_bin rfl (usr_e _ _)) ?_
    refine Eq.trans (e2) ?_
    refine Eq.trans (k_div rfl (iI_rem (a := bUsr c 8) (by omega) (by omega)) (by omega)) ?_
    refine Eq.trans (k_bin rfl (iI_add _ _)) ?_
    refine Eq.trans (k_un rfl (iI_i2c _)) ?_
    refine Eq.trans (RUN_ci rfl rfl rfl e3 o.1.qle) ?_
    refine Eq.trans (k_store rfl) ?_
    exact tail2
/-- an object is drawn -/
theorem dr_all (h : LQ 100 V) (x : XQ V) (h8 : V 2 0 8 = 0) (h9 : V 2 0 9 = 0) (hL : q.1.1 < 2147483648) : ∃ q' W, RUN (d + 7) 308 (8, [sR 0 0, sR 1 0, none, none, none, none, none, none], []) (HM q V) = some (Sum.inl (some (aR 1 0)), HM q' W) ∧ adv 39 234 q.2.1.1 q q' ∧ LQ 280 W ∧ XQ W ∧ 1 ≤ W 2 0 8 := by
  obtain ⟨z, zR, ec⟩ := o_309 (d := d + 6) (q := q) (V := V) (k := 0) hL (by decide)
  have u1 := usr_nn z 1 (by decide) (by decide)
  generalize hc : bUsr z 1 = a at u1
  have u2 := usr_nn a 2 (by decide) (by decide)
  have u5 := usr_nn a 5 (by decide) (by decide)
  obtain ⟨q1, V1, m4, e1, D1, a8, a9⟩ := dr_1 (d := d) (n0 := q.2.1.1) (a := a) (B := 100) (l5 := none) (l6 := none) (l7 := none) (q0 := q) u1 (by decide) hL 12 0 0 q V none ⟨h, x, adv_refl q⟩ h8 h9 (by decide) (by decide)
  obtain ⟨n, hn⟩ : ∃ n, n = 1 + bUsr a 2 % 8 := ⟨_, rfl⟩
  obtain ⟨q2, V2, m5, e2, D2, b8, b9⟩ := dr_2 (d := d) (n0 := q.2.1.1) (a := a) (n := n) (B := 100) (l6 := none) (l7 := none) (q0 := q) u1 (by decide) hL (by omega) n.toNat 0 (0 + 12) q1 V1 none D1 (fun z => absurd z (by decide)) a9 (by decide) (by omega)
  have b8' := b8 (by omega)
  have hb2 := D2.1.1.1.1
  have rk2 := (D2.1.lw (by decide)).1
  obtain ⟨v, q3, V3, e3, o3, hx3⟩ := op_312 (d := d + 3) (n0 := q.2.1.1) (q := q2) (V := V2) (x1 := bUsr a 5 % 19 - 9) D2.1 (by decide) (by omega)
  obtain ⟨v3, w8, hxq⟩ := hx3 (by omega)
  have D3 := D2.step o3 hxq
  obtain ⟨q4, V4, e4, D4, g8⟩ := dr_3 (d := d) (n0 := q.2.1.1) (a := a) (n := V2 2 0 8) (l3 := sI n) (q0 := q) u1 hL (by omega) 18 0 100 (0 + 12 + n.toNat + 1) q3 V3 none none (by decide) D3 w8 (by decide) (by decide)
  have v100 : v = 100 := by omega
  refine ⟨q4, V4, ?_, D4.2.2.mono (by omega) (by omega) (Nat.le_refl _), D4.1.mono (by decide), D4.2.1, by omega⟩
  refine Eq.trans (k_aload rfl rfl) ?_
  refine Eq.trans (k_pushi (0) rfl rfl) ?_
  refine Eq.trans (RUN_ci rfl rfl rfl ec (qle_refl _)) ?_
  refine Eq.trans (k_pushi (1) rfl rfl) ?_
  refine Eq.trans (k_bin rfl (usr_e _ _)) ?_
  refine Eq.trans (k_store rfl) ?_
  rw [hc]
  refine Eq.trans (k_pushi (0) rfl rfl) ?_
  refine Eq.trans (k_store rfl) ?_
  refine Eq.trans (e1) ?_
  refine Eq.trans (k_pushi (1) rfl rfl) ?_
  refine Eq.trans (k_iload rfl rfl) ?_
  refine Eq.trans (k_pushi (2) rfl rfl) ?_
  refine Eq.trans (k_bin rfl (usr_e _ _)) ?_
  refine Eq.trans (k_pushi (8) rfl rfl) ?_
  refine Eq.trans (k_div rfl (iI_rem (a := bUsr a 2) (by omega) ⟨by decide, by decide⟩) ⟨by decide, by decide⟩) ?_
  refine Eq.trans (k_bin rfl (iI_add _ _)) ?_
  rw [← hn]
  refine Eq.trans (k_store rfl) ?_
  refine Eq.trans (k_pushi (0) rfl rfl) ?_
  refine Eq.trans (k_store rfl) ?_
  refine Eq.trans (e2) ?_
  refine Eq.trans (k_aload rfl rfl) ?_
  refine Eq.trans (RUN_ci rfl rfl rfl (e_12 (d := d + 6) rk2) (qle_refl _)) ?_
  refine Eq.trans (k_store rfl) ?_
  refine Eq.trans (k_aload rfl rfl) ?_
  refine Eq.trans (k_iload rfl rfl) ?_
  refine Eq.trans (k_pushi (5) rfl rfl) ?_
  refine Eq.trans (k_bin rfl (usr_e _ _)) ?_
  refine Eq.trans (k_pushi (19) rfl rfl) ?_
  refine Eq.trans (k_div rfl (iI_rem (a := bUsr a 5) (by omega) ⟨by decide, by decide⟩) ⟨by decide, by decide⟩) ?_
  refine Eq.trans (k_pushi (9) rfl rfl) ?_
  refine Eq.trans (k_bin rfl (iI_sub _ _)) ?_
  refine Eq.trans (RUN_ci rfl rfl rfl e3 o3.1.qle) ?_
  refine Eq.trans (k_pushi (100) rfl rfl) ?_
  refine Eq.trans (Eq.trans (k_icmpc (v = 100) rfl (iI_eq (OPd_R o3) ⟨by decide, by decide⟩)) (cif_pos v100)) ?_
  refine Eq.trans (k_pushi (0) rfl rfl) ?_
  refine Eq.trans (k_store rfl) ?_
  exact e4
end
