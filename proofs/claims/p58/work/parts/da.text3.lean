/-! the law's texts: one tower, all towers, the end -/
section
variable {d n0 : Nat} {q : QQ} {V : VV}
/-- the relay of a tower, told or refused -/
theorem tx_tail {t ey ca n : Int} {l5 l6 l7 l8 l9 l10 : Option AV} (lw : LW V) (h0 : (0 : Int) ≤ 0 ∧ 0 < V 2 0 8) (ht : 0 ≤ t ∧ t < V 2 0 8) (hn0 : 136 ≤ n0) (hq : n0 ≤ q.2.1.1) :
    ∃ q' V' l8' l9' l10', RUN (d + 7) 350 (251, [sR 1 0, sI n, sI ey, sI ca, sI t, l5, l6, l7, l8, l9, l10], []) (HM q V) = RUN (d + 7) 350 (12, [sR 1 0, sI n, sI ey, sI ca, sI (t + 1), l5, l6, l7, l8', l9', l10'], []) (HM q' V') ∧ adv 90 10000 n0 q q' ∧ kp n0 V V' := by
  have hn := rk_n lw.1
  obtain ⟨q1, V1, e332, a1, k1⟩ := x_332 (d := d) (n0 := n0) (q := q) (V := V) lw h0 ht
  have lw1 := lw.of_kp k1
  have sm1 : same V V1 := k1.1
  have n1 := sm1.n
  have c1 : q.2.1.1 ≤ q1.2.1.1 := a1.2.2.1.1
  have fin : ∀ (q : QQ) (V : VV) (l8 l9 l10 : Option AV), RUN (d + 7) 350 (383, [sR 1 0, sI n, sI ey, sI ca, sI t, l5, l6, l7, l8, l9, l10], []) (HM q V) = RUN (d + 7) 350 (12, [sR 1 0, sI n, sI ey, sI ca, sI (t + 1), l5, l6, l7, l8, l9, l10], []) (HM q V) := by
    intro q V l8 l9 l10
    refine Eq.trans (k_iinc 1 rfl rfl rfl) ?_
    refine Eq.trans (k_goto rfl) ?_
    exact rfl
  have head : RUN (d + 7) 350 (251, [sR 1 0, sI n, sI ey, sI ca, sI t, l5, l6, l7, l8, l9, l10], []) (HM q V) = RUN (d + 7) 350 (268, [sR 1 0, sI n, sI ey, sI ca, sI t, l5, l6, l7, sI (vL V 0 t), sR 0 17, sI 1], []) (HM q1 V1) := by
    refine Eq.trans (k_aload rfl rfl) ?_
    refine Eq.trans (k_pushi (0) rfl rfl) ?_
    refine Eq.trans (k_iload rfl rfl) ?_
    refine Eq.trans (RUN_ci rfl rfl rfl e332 a1.qle) ?_
    refine Eq.trans (k_store rfl) ?_
    refine Eq.trans (k_push rfl) ?_
    refine Eq.trans (k_astore rfl) ?_
    refine Eq.trans (k_pushi (1) rfl rfl) ?_
    refine Eq.trans (k_store rfl) ?_
    exact rfl
  by_cases c : pR V 0 t
  · have bn := pN_b lw h0 ht c
    have bD := pD_c lw h0 ht c
    have vl : vL V 0 t = (pN V 0 t : Int) + 1 := cif_pos c
    have S1 : ST q1.2.1.1 q1 V1 0 17 34 (relL (pP V 0 t) 1) := by
      have e : relL (pP V 0 t) 1 = [48] := by
        show [] ++ (cif (0 = 0) [] [62] ++ numL 0) = [48]
        rw [cif_pos rfl]
        unfold numL
        rw [cif_pos (by decide), cif_pos (by decide)]
        rfl
      rw [e]
      exact st_17
    obtain ⟨q2, V2, a2, b2, m2, e2, S2, ad2, k2⟩ := tx_rel (d := d) (n0 := n0) (ey := ey) (ca := ca) (n := n) (l5 := l5) (l6 := l6) (l7 := l7) (len := vL V 0 t) lw h0 ht c vl hn0 (pN V 0 t) 1 q1 V1 0 17 34 sm1 lw1 (by omega) (Nat.le_refl _) (by omega) S1
    have lw2 := lw1.of_kp k2
    have sm2 : same V V2 := fun x z1 z2 => (k2.1 x z1 z2).trans (sm1 x z1 z2)
    have n2 := sm2.n
    have c2 : q1.2.1.1 ≤ q2.2.1.1 := ad2.2.2.1.1
    rcases w_390 (d := d) (n0 := q2.2.1.1) (q := q2) (V := V2) (x1 := 0) (x2 := t) lw2 (by omega) (by omega) with ⟨z, _⟩ | ⟨_, W, e390, kW, oW⟩
    · exact absurd (by rw [sm2.xpR]; exact c) z
    · have eRT : relT V2 0 t = relT V 0 t := by
        unfold relT
        rw [sm2.xpP, sm2.xpN, sm2.xpD]
      rw [eRT] at e390 oW
      have lwW := lw2.of_kp kW
      have smW : same V W := fun x z1 z2 => (kW.1 x z1 z2).trans (sm2 x z1 z2)
      have nW := smW.n
      generalize hls : ([sR 1 0, sI n, sI ey, sI ca, sI t, l5, l6, l7, sI (vL V 0 t), sR a2 b2, sI (vL V 0 t)] : List (Option AV)) = ls at e2
      have hL : (relL (pP V 0 t) (pN V 0 t + 1)).length ≤ 2 * (pN V 0 t + 1) := relL_len _ (fun i hi => by have := (found_p lw.1 lw.2.2.2.2.1 h0 ht c).2.2.2.2.2.1 i (by omega); omega)
      have nl : (numL (pD V 0 t)).length ≤ 3 := numL_len
      have SW : ST q2.2.1.1 q2 W a2 b2 m2 (relL (pP V 0 t) (pN V 0 t + 1)) := S2.keep2 (adv_refl (m := 0) (s := 0) q2) kW.k46
      generalize hlen : ((relT V 0 t).length : Int) = ln at e390
      obtain ⟨q3, V3, e3, B3, g3⟩ := k_newSB (d := d + 1) (y := 350) (pc := 344) (p1 := 347) (p2 := 348) (ls := ls) (st := [aI (iI ln), aR 1 0]) (q := q2) (V := W) rfl rfl rfl rfl (by omega)
      obtain ⟨q4, V4, e4, B4, g4⟩ := k_apS (d := d + 1) (y := 350) (pc := 353) (ls := ls) (st := [aI (iI ln), aR 1 0]) rfl rfl (SW.keep g3) B3 (by show 0 + _ ≤ 70; omega)
      obtain ⟨q5, V5, e5, B5, g5⟩ := k_apS (d := d + 1) (y := 350) (pc := 359) (ls := ls) (st := [aI (iI ln), aR 1 0]) rfl rfl st_19 B4 (by rw [List.length_append]; show 0 + _ + 1 ≤ 70; omega)
      have g35 := (g3.trans g4).trans g5
      have k5 := kp_FS lwW g35
      have lw5 := lwW.of_kp k5
      have sm5 : same V V5 := fun x z1 z2 => (k5.1 x z1 z2).trans (smW x z1 z2)
      have n5 := sm5.n
      have e103 := e_103 (d := d + 1) (q := q5) (V := V5) (x1 := 0) (x2 := t) lw5.1 lw5.2.2.2.2.1 (by omega) (by omega)
      have c5 : pR V5 0 t := by rw [sm5.xpR]; exact c
      rw [cif_pos (by omega), cif_pos (by omega), cif_pos (show spR (V5 2 0 8) (cE V5) (cW V5) t 0 from c5), (found_p (V := V5) lw5.1 lw5.2.2.2.2.1 (by omega) (by omega) c5).2.2.2.1, sm5.xpD] at e103
      have kf : ∀ m0, kp m0 V5 (foundV V5 0 t) := fun m0 => kp_found lw5 (by omega) (by omega) c5
      have B5f : BT q2.2.1.1 q5 (foundV V5 0 t) q2.2.1.1 (([] ++ relL (pP V 0 t) (pN V 0 t + 1)) ++ [61]) := B5.keep (adv_refl (m := 0) (s := 0) q5) (kf q5.2.1.1).k46
      obtain ⟨q6, V6, e6, B6, g6⟩ := k_apN (d := d + 1) (y := 350) (pc := 369) (ls := ls) (st := [aI (iI ln), aR 1 0]) (x := pD V 0 t) rfl rfl B5f (by omega) (by rw [List.length_append, List.length_append]; show 0 + _ + 1 < 60; omega)
      have eL : (([] ++ relL (pP V 0 t) (pN V 0 t + 1)) ++ [61]) ++ numL (pD V 0 t) = relT V 0 t := by
        rw [List.nil_append]
        rfl
      rw [eL] at B6
      have ascR : asc (relT V 0 t) := by
        unfold relT
        exact asc_app (asc_app (asc_rel _ (fun i hi => by have := (found_p lw.1 lw.2.2.2.2.1 h0 ht c).2.2.2.2.2.1 i (by omega); omega)) (asc_one (by decide))) (numL_asc (by omega))
      obtain ⟨q7, V7, s7, m7, e7, S7, g7, -⟩ := k_ts (d := d + 1) (y := 350) (pc := 372) (ls := ls) (st := [aI (iI ln), aR 1 0]) rfl rfl B6 ascR
      have c35 : q2.2.1.1 ≤ q5.2.1.1 := g35.1.2.2.1.1
      have c56 : q5.2.1.1 ≤ q6.2.1.1 := g6.1.2.2.1.1
      have lwf := lw5.of_kp (kf n0)
      have g67 : FS n0 3 404 q5 (foundV V5 0 t) q7 V7 := (g6.mono (Nat.le_refl _) (Nat.le_refl _) (by omega)).trans (g7.mono (Nat.le_refl _) (Nat.le_refl _) (show n0 ≤ q6.2.1.1 by omega))
      have k67 := kp_FS lwf g67
      have kW7 : kp n0 W V7 := (k5.mono (by omega)).trans ((kf n0).trans k67)
      have lw7 := lwW.of_kp kW7
      have f5 : ∀ x, ¬ x = 46 → V5 x 0 = W x 0 := fun x z => g35.2 x 0 (Or.inl z)
      have o7 : outIs V7 (relT V 0 t) := outIs_of oW (by rw [g67.2 31 0 (Or.inl (by decide))]; exact f5 31 (by decide)) (by rw [g67.2 32 0 (Or.inl (by decide))]; exact f5 32 (by decide))
      have e388 := s_388 (d := d + 2) lw7 S7 o7
      refine ⟨thr q7, V7, sI (vL V 0 t), sR a2 b2, sI (vL V 0 t), ?_, ((a1.trans (ad2.trans (((g35.1.mono (Nat.le_refl _) (Nat.le_refl _) (by omega)).trans g67.1).trans (adv_thr (n0 := n0) q7)))).mono (by omega) (by omega) (Nat.le_refl _)), k1.trans (k2.trans ((kW.mono (by omega)).trans kW7))⟩
      refine head.trans (e2.trans ?_)
      have h1 : RUN (d + 7) 350 (316, ls, []) (HM q2 V2) = RUN (d + 7) 350 (344, ls, [aI (iI ln), aR 1 0]) (HM q2 W) := by
        rw [← hls]
        refine Eq.trans (k_iload rfl rfl) ?_
        refine Eq.trans (Eq.trans (k_ifc ((0 : Int) ≤ vL V 0 t) rfl (iI_0le (by omega))) (cif_pos (by omega))) ?_
        refine Eq.trans (k_aload rfl rfl) ?_
        refine Eq.trans (k_aload rfl rfl) ?_
        refine Eq.trans (k_pushi (0) rfl rfl) ?_
        refine Eq.trans (k_iload rfl rfl) ?_
        refine Eq.trans (RUN_ci rfl rfl rfl e390 (qle_refl _)) ?_
        exact rfl
      have h2 : RUN (d + 7) 350 (348 + 3, ls, [aR 46 q2.2.1.1, aI (iI ln), aR 1 0]) (HM q3 V3) = RUN (d + 7) 350 (353, ls, [aR a2 b2, aR 46 q2.2.1.1, aI (iI ln), aR 1 0]) (HM q3 V3) := by
        rw [← hls]
        exact k_aload rfl rfl
      have h3 : RUN (d + 7) 350 (359 + 3, ls, [aR 46 q2.2.1.1, aI (iI ln), aR 1 0]) (HM q5 V5) = RUN (d + 7) 350 (369, ls, [aI (iI (pD V 0 t)), aR 46 q2.2.1.1, aI (iI ln), aR 1 0]) (HM q5 (foundV V5 0 t)) := by
        rw [← hls]
        refine Eq.trans (k_aload rfl rfl) ?_
        refine Eq.trans (k_pushi (0) rfl rfl) ?_
        refine Eq.trans (k_iload rfl rfl) ?_
        refine Eq.trans (RUN_ci rfl rfl rfl e103 (qle_refl _)) ?_
        exact rfl
      refine h1.trans (e3.trans (h2.trans (e4.trans (Eq.trans (k_push rfl) (e5.trans (h3.trans (e6.trans (e7.trans ?_))))))))
      rw [← hlen, ← hls]
      refine Eq.trans (RUN_ci rfl rfl rfl e388 (qle_thr _)) ?_
      refine Eq.trans (Eq.trans (k_ifcN ((1 : Int) = 0) rfl (iI_ne0 ⟨by decide, by decide⟩)) (cif_neg (by decide))) ?_
      exact fin _ _ _ _ _
  · have vl : vL V 0 t = -13 := cif_neg c
    rcases w_390 (d := d) (n0 := n0) (q := q1) (V := V1) (x1 := 0) (x2 := t) lw1 (by omega) (by omega) with ⟨_, W, e390, kW⟩ | ⟨z, _⟩
    · refine ⟨thr q1, W, sI (-13), sR 0 17, sI 1, ?_, ((a1.trans (adv_thr (n0 := n0) q1)).mono (by decide) (by decide) (Nat.le_refl _)), k1.trans kW⟩
      refine head.trans ?_
      rw [vl]
      refine Eq.trans (k_iload rfl rfl) ?_
      refine Eq.trans (k_iload rfl rfl) ?_
      refine Eq.trans (Eq.trans (k_icmpc ((-13 : Int) ≤ 1) rfl (iI_le ⟨by decide, by decide⟩ ⟨by decide, by decide⟩)) (cif_pos (by decide))) ?_
      refine Eq.trans (k_iload rfl rfl) ?_
      refine Eq.trans (Eq.trans (k_ifc ((0 : Int) ≤ -13) rfl (iI_0le ⟨by decide, by decide⟩)) (cif_neg (by decide))) ?_
      refine Eq.trans (k_aload rfl rfl) ?_
      refine Eq.trans (k_pushi (0) rfl rfl) ?_
      refine Eq.trans (k_iload rfl rfl) ?_
      refine Eq.trans (RUN_ci rfl rfl rfl e390 (qle_thr _)) ?_
      refine Eq.trans (k_pushi (-13) rfl rfl) ?_
      refine Eq.trans (Eq.trans (k_icmpc ((-13 : Int) = -13) rfl (iI_eq ⟨by decide, by decide⟩ ⟨by decide, by decide⟩)) (cif_pos rfl)) ?_
      exact fin _ _ _ _ _
    · exact absurd (by rw [← sm1.xpR]; exact z) c
theorem tx_one {t ey ca n : Int} {l5 l6 l7 l8 l9 l10 : Option AV} (lw : LW V) (xq : XQ V) (ht : 0 ≤ t ∧ t < V 2 0 8) (hnn : n = V 2 0 8) (hR : R32 ey) (hn0 : 136 ≤ n0) (hq : n0 ≤ q.2.1.1) :
    ∃ q' V' l5' l6' l7' l8' l9' l10', RUN (d + 7) 350 (12, [sR 1 0, sI n, sI ey, sI ca, sI t, l5, l6, l7, l8, l9, l10], []) (HM q V) = RUN (d + 7) 350 (12, [sR 1 0, sI n, sI (ey + eyeV (V 3 0) (V 4 0) (V 5 0) t), sI (ca + b2i (V 6 0 t = 0)), sI (t + 1), l5', l6', l7', l8', l9', l10'], []) (HM q' V') ∧ adv 170 20000 n0 q q' ∧ kp n0 V V' := by
  have hn := rk_n lw.1
  have b8 := rk_8 lw.1 (j := t) (by omega)
  have S0 : ST q.2.1.1 q V 0 13 30 (sg (V 9 0) (t * 8 + (V 8 0 t - ((0 : Nat) : Int))) 0) := st_13
  obtain ⟨q1, V1, a1, b1, m1, e1, S1, f1⟩ := tx_log (d := d + 1) (n0 := q.2.1.1) (t := t) (ey := ey) (ca := ca) (n := n) (l7 := l7) (l8 := l8) (l9 := l9) (l10 := l10) (by omega) (V 8 0 t).toNat 0 q V 0 13 30 lw xq.1 ht (by omega) (Nat.le_refl _) S0
  have k1 := kp_FS lw f1
  have lw1 := lw.of_kp k1
  have sm1 : same V V1 := k1.1
  have r1 : ∀ x, ¬ x = 46 → V1 x 0 = V x 0 := fun x z => f1.2 x 0 (Or.inl z)
  have xq1 := xq.of_same sm1
  have c1 : q.2.1.1 ≤ q1.2.1.1 := f1.1.2.2.1.1
  have ht1 : 0 ≤ t ∧ t < V1 2 0 8 := by rw [r1 2 (by decide)]; exact ht
  have S1' : ST q1.2.1.1 q1 V1 a1 b1 m1 (sg (V1 9 0) (t * 8 + 0) (V1 8 0 t).toNat) := by
    rw [r1 9 (by decide), r1 8 (by decide)]
    exact S1
  obtain ⟨q2, V2, s2, m2, e2, S2, f2⟩ := tx_tow (d := d + 1) (t := t) (ey := ey) (ca := ca) (n := n) (l6 := sI (V 8 0 t)) (l7 := l7) (l8 := l8) (l9 := l9) (l10 := l10) lw1 xq1 ht1 (by omega) S1'
  have k2 := kp_FS lw1 f2
  have lw2 := lw1.of_kp k2
  have sm2 : same V V2 := fun x z1 z2 => (k2.1 x z1 z2).trans (sm1 x z1 z2)
  have r2 : ∀ x, 2 ≤ x → x ≤ 12 → V2 x 0 = V x 0 := fun x z1 z2 => by rw [sm2 x z1 z2]
  have c2 : q1.2.1.1 ≤ q2.2.1.1 := f2.1.2.2.1.1
  have ht2 : 0 ≤ t ∧ t < V2 2 0 8 := by rw [r2 2 (by decide) (by decide)]; exact ht
  have eT : twrL V1 t = twrL V2 t := by
    unfold twrL
    rw [r2 4 (by decide) (by decide), r2 5 (by decide) (by decide), r2 6 (by decide) (by decide), r2 8 (by decide) (by decide), r2 9 (by decide) (by decide), r1 4 (by decide), r1 5 (by decide), r1 6 (by decide), r1 8 (by decide), r1 9 (by decide)]
  rw [eT] at S2
  have S1'' : ST q2.2.1.1 q2 V2 a1 b1 m1 (sg (V2 9 0) (t * 8 + 0) (V2 8 0 t).toNat) := by
    rw [r2 9 (by decide) (by decide), r2 8 (by decide) (by decide)]
    exact (S1.keep f2).mono c2
  obtain ⟨V3, e3, k3⟩ := tx_mid (d := d) (q := q2) (V := V2) (t := t) (ey := ey) (ca := ca) (n := n) (l8 := l8) (l9 := l9) (l10 := l10) lw2 (xq.of_same sm2) ht2 S1'' S2 hR
  rw [r2 3 (by decide) (by decide), r2 4 (by decide) (by decide), r2 5 (by decide) (by decide), r2 6 (by decide) (by decide)] at e3
  rw [show V1 5 0 t = V 5 0 t by rw [r1 5 (by decide)]] at e2
  have lw3 := lw2.of_kp k3
  have sm3 : same V V3 := fun x z1 z2 => (k3.1 x z1 z2).trans (sm2 x z1 z2)
  have n3 := sm3.n
  have a3 : adv 2 12 n0 q2 (thr (thr q2)) := (adv_thr (n0 := n0) q2).trans (adv_thr (n0 := n0) (thr q2))
  obtain ⟨q4, V4, k8, k9, k10, e4, a4, k4⟩ := tx_tail (d := d) (n0 := n0) (q := thr (thr q2)) (V := V3) (t := t) (ey := ey + eyeV (V 3 0) (V 4 0) (V 5 0) t) (ca := ca + b2i (V 6 0 t = 0)) (n := n) (l5 := sR a1 b1) (l6 := sI (V 5 0 t)) (l7 := sR 46 s2) (l8 := l8) (l9 := l9) (l10 := l10) lw3 (by omega) (by omega) hn0 (by
    show n0 ≤ q2.2.1.1 + 1 + 1
    omega)
  refine ⟨q4, V4, sR a1 b1, sI (V 5 0 t), sR 46 s2, k8, k9, k10, ?_, ((f1.1.mono (Nat.le_refl _) (Nat.le_refl _) hq).trans ((f2.1.mono (Nat.le_refl _) (Nat.le_refl _) (show n0 ≤ q1.2.1.1 by omega)).trans (a3.trans a4))).mono (by omega) (by omega) (Nat.le_refl _), (k1.mono hq).trans ((k2.mono (by omega)).trans ((k3.mono (by omega)).trans k4))⟩
  refine Eq.trans (k_iload rfl rfl) ?_
  refine Eq.trans (k_iload rfl rfl) ?_
  refine Eq.trans (Eq.trans (k_icmpc (n ≤ t) rfl (iI_le (by omega) (by omega))) (cif_neg (by omega))) ?_
  refine Eq.trans (k_push rfl) ?_
  refine Eq.trans (k_astore rfl) ?_
  refine Eq.trans (k_pushi (0) rfl rfl) ?_
  refine Eq.trans (k_store rfl) ?_
  exact e1.trans (e2.trans (e3.trans e4))
theorem tx_all {V : VV} (lw : LW V) (xq : XQ V) (hn0 : 136 ≤ n0) : ∀ (r : Nat) (t : Int) (q : QQ) (W : VV) (l5 l6 l7 l8 l9 l10 : Option AV), t + r = V 2 0 8 → 0 ≤ t → n0 ≤ q.2.1.1 → same V W → LW W →
    ∃ q' W' l5' l6' l7' l8' l9' l10', RUN (d + 7) 350 (12, [sR 1 0, sI (V 2 0 8), sI (sumI (eyeV (V 3 0) (V 4 0) (V 5 0)) t), sI (cntI (fun t => V 6 0 t = 0) t), sI t, l5, l6, l7, l8, l9, l10], []) (HM q W) = RUN (d + 7) 350 (12, [sR 1 0, sI (V 2 0 8), sI (sumI (eyeV (V 3 0) (V 4 0) (V 5 0)) (V 2 0 8)), sI (cntI (fun t => V 6 0 t = 0) (V 2 0 8)), sI (V 2 0 8), l5', l6', l7', l8', l9', l10'], []) (HM q' W') ∧ adv (170 * r) (20000 * r) n0 q q' ∧ kp n0 W W' := by
  have hn := rk_n lw.1
  intro r
  induction r with
  | zero =>
    intro t q W l5 l6 l7 l8 l9 l10 e0 ht hq sm lwW
    have et : t = V 2 0 8 := by omega
    subst et
    exact ⟨q, W, l5, l6, l7, l8, l9, l10, rfl, adv_refl q, kp_refl lwW⟩
  | succ r ih =>
    intro t q W l5 l6 l7 l8 l9 l10 e0 ht hq sm lwW
    have hnW := sm.n
    have hsum := sumI_b (f := eyeV (V 3 0) (V 4 0) (V 5 0)) (n := t) (c := 18) ht (fun j j1 j2 => eyeV_b lw.1 (by omega))
    obtain ⟨q1, W1, k5, k6, k7, k8, k9, k10, e1, a1, k1⟩ := tx_one (d := d) (n0 := n0) (q := q) (V := W) (t := t) (ey := sumI (eyeV (V 3 0) (V 4 0) (V 5 0)) t) (ca := cntI (fun t => V 6 0 t = 0) t) (n := V 2 0 8) (l5 := l5) (l6 := l6) (l7 := l7) (l8 := l8) (l9 := l9) (l10 := l10) lwW (xq.of_same sm) (by omega) hnW.symm (by omega) hn0 hq
    rw [sm.r (by decide) (by decide), sm.r (a := 4) (by decide) (by decide), sm.r (a := 5) (by decide) (by decide), sm.r (a := 6) (by decide) (by decide), ← sumI_succ (eyeV (V 3 0) (V 4 0) (V 5 0)) ht, ← cntI_succ (fun t => V 6 0 t = 0) ht] at e1
    have sm1 : same V W1 := fun x z1 z2 => (k1.1 x z1 z2).trans (sm x z1 z2)
    obtain ⟨q2, W2, m5, m6, m7, m8, m9, m10, e2, a2, k2⟩ := ih (t + 1) q1 W1 k5 k6 k7 k8 k9 k10 (by omega) (by omega) (by have := a1.2.2.1.1; omega) sm1 (lwW.of_kp k1)
    exact ⟨q2, W2, m5, m6, m7, m8, m9, m10, e1.trans e2, (a1.trans a2).mono (by omega) (by omega) (Nat.le_refl _), k1.trans k2⟩
theorem k_dcmp0 {y pc nx : Nat} {ls : List (Option AV)} {st : List AV} {x : UInt64} {h : AH} (hcd : am_cd y pc = i_dcmp .l nx) (hx : Op.cmpValue (FP.dcmp x x) .l = 0) : RUN d y (pc, ls, aD x :: aD x :: st) h = RUN d y (nx, ls, aI (iI 0) :: st) h := by
  refine RUN_gi hcd (cs := []) ?_ trivial
  show go nx ls (aI (Op.cmpValue (FP.dcmp x x) .l) :: st) h = _
  rw [hx]
  rfl
theorem k_fcmp0 {y pc nx : Nat} {ls : List (Option AV)} {st : List AV} {x : UInt32} {h : AH} (hcd : am_cd y pc = i_fcmp .l nx) (hx : Op.cmpValue (FP.fcmp x x) .l = 0) : RUN d y (pc, ls, aF x :: aF x :: st) h = RUN d y (nx, ls, aI (iI 0) :: st) h := by
  refine RUN_gi hcd (cs := []) ?_ trivial
  show go nx ls (aI (Op.cmpValue (FP.fcmp x x) .l) :: st) h = _
  rw [hx]
  rfl
theorem s_350 (lw : LW V) (xq : XQ V) (h0 : 0 < V 2 0 8) (hq : 136 ≤ q.2.1.1) : ∃ q' W, RUN (d + 7) 350 (am_en 350 [aR 1 0]) (HM q V) = rI 1 (HM q' W) ∧ adv 1400 160100 q.2.1.1 q q' ∧ kp q.2.1.1 V W := by
  have hn := rk_n lw.1
  obtain ⟨q1, V1, m5, m6, m7, m8, m9, m10, e1, a1, k1⟩ := tx_all (d := d) (n0 := q.2.1.1) lw xq hq (V 2 0 8).toNat 0 q V none none none none none none (by omega) (by decide) (Nat.le_refl _) (fun _ _ _ => rfl) lw
  have lw1 := lw.of_kp k1
  have sm1 : same V V1 := k1.1
  have n1 := sm1.n
  have hsum := sumI_b (f := eyeV (V 3 0) (V 4 0) (V 5 0)) (n := V 2 0 8) (c := 18) hn.1 (fun j j1 j2 => eyeV_b lw.1 (by omega))
  have hcnt := cntI_b (fun t => V 6 0 t = 0) hn.1
  have e153 := s_153 (d := d + 5) (q := q1) (V := V1) lw1.1
  rw [n1, sm1.r (a := 3) (by decide) (by decide), sm1.r (a := 4) (by decide) (by decide), sm1.r (a := 5) (by decide) (by decide), cif_neg (by omega)] at e153
  have e155 := s_155 (d := d + 6) (q := q1) (V := V1) lw1.1
  rw [n1, sm1.r (a := 6) (by decide) (by decide), cif_neg (by omega)] at e155
  have d1 := meanD_ok (s := sumI (eyeV (V 3 0) (V 4 0) (V 5 0)) (V 2 0 8)) (n := V 2 0 8) (by omega) (by omega)
  have d2 := meanD_cmp (s := sumI (eyeV (V 3 0) (V 4 0) (V 5 0)) (V 2 0 8)) (n := V 2 0 8) (by omega) (by omega)
  have f1 := (meanF_ok (s := cntI (fun t => V 6 0 t = 0) (V 2 0 8)) (n := V 2 0 8) (by omega) (by omega)).1
  have f2 := meanF_cmp (s := cntI (fun t => V 6 0 t = 0) (V 2 0 8)) (n := V 2 0 8) (by omega) (by omega)
  -- the pattern told
  have w391 : ∃ W, RUN (d + 6) 391 (am_en 391 [aR 1 0, aI (iI 149)]) (HM q1 V1) = rI 8 (HM q1 W) ∧ kp q.2.1.1 V1 W ∧ outIs W [42, 46, 42, 46, 42, 46, 46, 42] := by
    rcases s_164 (d := d + 4) (q := q1) lw1.2.2.2.2.2.1 (x1 := 149) ⟨by decide, by decide⟩ with ⟨z, _⟩ | ⟨_, W, o, oi, e⟩
    · exact absurd (⟨by decide, by decide⟩ : (0 : Int) ≤ 149 ∧ (149 : Int) < 256) z
    · have eP : sg (patC 149) 0 8 = [42, 46, 42, 46, 42, 46, 46, 42] := by
        have pc : ∀ i v, (bAnd (bShr 149 i) 1 = 1 ↔ v = 42) → (v = 42 ∨ v = 46) → patC 149 i = v := by
          intro i v h1 h2
          unfold patC
          by_cases z : v = 42
          · rw [cif_pos (h1.mpr z), z]
          · rw [cif_neg (fun y => z (h1.mp y))]
            omega
        show [patC 149 0, patC 149 1, patC 149 2, patC 149 3, patC 149 4, patC 149 5, patC 149 6, patC 149 7] = _
        rw [pc 0 42 (by decide) (by decide), pc 1 46 (by decide) (by decide), pc 2 42 (by decide) (by decide), pc 3 46 (by decide) (by decide), pc 4 42 (by decide) (by decide), pc 5 46 (by decide) (by decide), pc 6 46 (by decide) (by decide), pc 7 42 (by decide) (by decide)]
      rw [eP] at oi
      refine ⟨W, ?_, kp_offO lw1 o oi, oi⟩
      refine (show RUN (d + 6) 391 (0, [sR 1 0, sI 149, none], []) (HM q1 V1) = _ from ?_)
      refine Eq.trans (k_aload rfl rfl) ?_
      refine Eq.trans (k_iload rfl rfl) ?_
      refine Eq.trans (RUN_ci rfl rfl rfl e (qle_refl _)) ?_
      exact k_iret rfl trivial
  obtain ⟨W, e391, kW, oW⟩ := w391
  have lwW := lw1.of_kp kW
  have nW : W 2 0 8 = V 2 0 8 := by rw [← n1]; exact (show same V1 W from kW.1).n
  have e388 := s_388 (d := d + 2) (n0 := q.2.1.1) (q := q1) lwW st_20 oW
  have o391 : RUN (d + 6) 391 (am_en 391 [aR 1 0, aI (iI 256)]) (HM (thr q1) W) = rI (-12) (HM (thr (thr q1)) W) := by
    rcases s_164 (d := d + 4) (q := thr q1) lwW.2.2.2.2.2.1 (x1 := 256) ⟨by decide, by decide⟩ with ⟨_, e⟩ | ⟨z, _⟩
    · refine (show RUN (d + 6) 391 (0, [sR 1 0, sI 256, none], []) (HM (thr q1) W) = _ from ?_)
      refine Eq.trans (k_aload rfl rfl) ?_
      refine Eq.trans (k_iload rfl rfl) ?_
      refine Eq.trans (RUN_ch rfl rfl rfl e (qle_thr _) rfl rfl rfl) ?_
      refine Eq.trans (k_pushi (-12) rfl rfl) ?_
      exact k_iret rfl trivial
    · exact absurd z (by decide)
  have e387 := o_387 (d := d + 3) (q := thr (thr q1)) lwW (t := V 2 0 8) (by omega) (by omega)
  have e390 := o_390 (d := d) (q := thr (thr (thr q1))) lwW (x1 := 0) (x2 := V 2 0 8) (by omega) (by omega) (by omega)
  refine ⟨thr (thr (thr (thr q1))), W, ?_, (a1.trans ((adv_thr (n0 := q.2.1.1) q1).trans ((adv_thr (n0 := q.2.1.1) _).trans ((adv_thr (n0 := q.2.1.1) _).trans (adv_thr (n0 := q.2.1.1) _))))).mono (by omega) (by omega) (Nat.le_refl _), k1.trans kW⟩
  refine (show RUN (d + 7) 350 (0, [sR 1 0, none, none, none, none, none, none, none, none, none, none], []) (HM q V) = _ from ?_)
  refine Eq.trans (k_aload rfl rfl) ?_
  refine Eq.trans (RUN_ci rfl rfl rfl (e_12 (d := d + 6) lw.1) (qle_refl _)) ?_
  refine Eq.trans (k_store rfl) ?_
  refine Eq.trans (k_pushi (0) rfl rfl) ?_
  refine Eq.trans (k_store rfl) ?_
  refine Eq.trans (k_pushi (0) rfl rfl) ?_
  refine Eq.trans (k_store rfl) ?_
  refine Eq.trans (k_pushi (0) rfl rfl) ?_
  refine Eq.trans (k_store rfl) ?_
  refine Eq.trans (e1) ?_
  refine Eq.trans (k_iload rfl rfl) ?_
  refine Eq.trans (k_iload rfl rfl) ?_
  refine Eq.trans (Eq.trans (k_icmpc (V 2 0 8 ≤ V 2 0 8) rfl (iI_le (by omega) (by omega))) (cif_pos (Int.le_refl _))) ?_
  refine Eq.trans (k_aload rfl rfl) ?_
  refine Eq.trans (RUN_ci rfl rfl rfl e153 (qle_refl _)) ?_
  refine Eq.trans (k_iload rfl rfl) ?_
  refine Eq.trans (k_i2d rfl) ?_
  refine Eq.trans (k_iload rfl rfl) ?_
  refine Eq.trans (k_i2d rfl) ?_
  refine Eq.trans (k_ddiv rfl d1) ?_
  refine Eq.trans (k_dcmp0 rfl d2) ?_
  refine Eq.trans (Eq.trans (k_ifcN ((0 : Int) = 0) rfl (iI_ne0 ⟨by decide, by decide⟩)) (cif_pos rfl)) ?_
  refine Eq.trans (k_aload rfl rfl) ?_
  refine Eq.trans (RUN_ci rfl rfl rfl e155 (qle_refl _)) ?_
  refine Eq.trans (k_iload rfl rfl) ?_
  refine Eq.trans (k_i2f rfl) ?_
  refine Eq.trans (k_iload rfl rfl) ?_
  refine Eq.trans (k_i2f rfl) ?_
  refine Eq.trans (k_fdiv rfl f1) ?_
  refine Eq.trans (k_fcmp0 rfl f2) ?_
  refine Eq.trans (Eq.trans (k_ifcN ((0 : Int) = 0) rfl (iI_ne0 ⟨by decide, by decide⟩)) (cif_pos rfl)) ?_
  refine Eq.trans (k_pushi (1) rfl rfl) ?_
  refine Eq.trans (k_goto rfl) ?_
  refine Eq.trans (k_store rfl) ?_
  refine Eq.trans (k_iload rfl rfl) ?_
  refine Eq.trans (Eq.trans (k_ifc ((1 : Int) = 0) rfl (iI_eq0 ⟨by decide, by decide⟩)) (cif_neg (by decide))) ?_
  refine Eq.trans (k_aload rfl rfl) ?_
  refine Eq.trans (k_aload rfl rfl) ?_
  refine Eq.trans (k_pushi (149) rfl rfl) ?_
  refine Eq.trans (RUN_ci rfl rfl rfl e391 (qle_refl _)) ?_
  refine Eq.trans (k_push rfl) ?_
  refine Eq.trans (RUN_ci rfl rfl rfl e388 (qle_thr _)) ?_
  refine Eq.trans (Eq.trans (k_ifc ((1 : Int) = 0) rfl (iI_eq0 ⟨by decide, by decide⟩)) (cif_neg (by decide))) ?_
  refine Eq.trans (k_aload rfl rfl) ?_
  refine Eq.trans (k_pushi (256) rfl rfl) ?_
  refine Eq.trans (RUN_ci rfl rfl rfl o391 (qle_thr _)) ?_
  refine Eq.trans (k_pushi (-12) rfl rfl) ?_
  refine Eq.trans (Eq.trans (k_icmpcN ((-12 : Int) = -12) rfl (iI_ne ⟨by decide, by decide⟩ ⟨by decide, by decide⟩)) (cif_pos rfl)) ?_
  refine Eq.trans (k_aload rfl rfl) ?_
  refine Eq.trans (k_iload rfl rfl) ?_
  refine Eq.trans (RUN_ci rfl rfl rfl e387 (qle_thr _)) ?_
  refine Eq.trans (k_pushi (-11) rfl rfl) ?_
  refine Eq.trans (Eq.trans (k_icmpcN ((-11 : Int) = -11) rfl (iI_ne ⟨by decide, by decide⟩ ⟨by decide, by decide⟩)) (cif_pos rfl)) ?_
  refine Eq.trans (k_aload rfl rfl) ?_
  refine Eq.trans (k_pushi (0) rfl rfl) ?_
  refine Eq.trans (k_iload rfl rfl) ?_
  refine Eq.trans (RUN_ci rfl rfl rfl e390 (qle_thr _)) ?_
  refine Eq.trans (k_pushi (-11) rfl rfl) ?_
  refine Eq.trans (Eq.trans (k_icmpcN ((-11 : Int) = -11) rfl (iI_ne ⟨by decide, by decide⟩ ⟨by decide, by decide⟩)) (cif_pos rfl)) ?_
  refine Eq.trans (k_pushi (1) rfl rfl) ?_
  refine Eq.trans (k_goto rfl) ?_
  exact k_iret rfl (iI_bool (z := 1) (by decide))
end
