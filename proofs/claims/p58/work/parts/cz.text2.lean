/-! the law's texts: a tower, its relay, all towers, the means and the end -/
section
variable {d n0 : Nat} {q : QQ} {V : VV}
theorem outIs_of {V W : VV} {L : List Int} (h : outIs V L) (h1 : W 31 0 = V 31 0) (h2 : W 32 0 = V 32 0) : outIs W L := by
  obtain ⟨a, b, c⟩ := h
  exact ⟨by rw [h1]; exact a, b, fun i hi => by rw [h2]; exact c i hi⟩
theorem w_346 {t : Int} (lw : LW V) (ht : 0 ≤ t ∧ t < V 2 0 8) : RUN (d + 3) 346 (am_en 346 [aR 1 0, aI (iI t), aI (iI (V 8 0 t))]) (HM q V) = rI (-13) (HM (thr q) V) := by
  have hn := rk_n lw.1
  have b8 := rk_8 lw.1 (j := t) (by omega)
  have e := e_346 (d := d) (q := q) (V := V) (x1 := t) (x2 := V 8 0 t) lw.1 (by omega) (by omega) (fun _ _ z => absurd z (by omega))
  rw [cif_pos ht, cif_neg (by omega), cif_neg (by omega)] at e
  exact e
/-- the tower's text is told, and is as it was built -/
theorem tx_mid {t ey ca n : Int} {a b mb s ms : Nat} {l8 l9 l10 : Option AV} (lw : LW V) (xq : XQ V) (ht : 0 ≤ t ∧ t < V 2 0 8) (hst : ST q.2.1.1 q V a b mb (sg (V 9 0) (t * 8 + 0) (V 8 0 t).toNat)) (hs : ST q.2.1.1 q V 46 s ms (twrL V t)) (hR : R32 ey) :
    ∃ V', RUN (d + 7) 350 (176, [sR 1 0, sI n, sI ey, sI ca, sI t, sR a b, sI (V 5 0 t), sR 46 s, l8, l9, l10], []) (HM q V) = RUN (d + 7) 350 (251, [sR 1 0, sI n, sI (ey + eyeV (V 3 0) (V 4 0) (V 5 0) t), sI (ca + b2i (V 6 0 t = 0)), sI t, sR a b, sI (V 5 0 t), sR 46 s, l8, l9, l10], []) (HM (thr (thr q)) V') ∧ kp q.2.1.1 V V' := by
  have hn := rk_n lw.1
  have b5 := rk_5 lw.1 (j := t) (by omega)
  have b6 := rk_6 lw.1 (j := t) (by omega)
  have b8 := rk_8 lw.1 (j := t) (by omega)
  have h1 := xq.2 t ht
  have llen : (sg (V 9 0) (t * 8 + 0) (V 8 0 t).toNat).length = (V 8 0 t).toNat := sg_len
  have e181 : ∀ d, RUN (d + 1) 181 (am_en 181 [aR a b]) (HM q V) = rI (V 8 0 t) (HM q V) := fun d => by
    have := c_181 (d := d) hst
    rw [llen, show ((V 8 0 t).toNat : Int) = V 8 0 t by omega] at this
    exact this
  obtain ⟨W, e387, kW, oW⟩ := w_387 (d := d + 3) (n0 := q.2.1.1) (q := thr q) lw ht
  have sW : ST q.2.1.1 (thr q) W 46 s ms (twrL V t) := hs.keep2 (adv_thr (n0 := q.2.1.1) q) kW.k46
  have e388 := s_388 (d := d + 2) (lw.of_kp kW) sW oW
  refine ⟨W, ?_, kW⟩
  refine Eq.trans (k_iload rfl rfl) ?_
  refine Eq.trans (k_aload rfl rfl) ?_
  refine Eq.trans (k_iload rfl rfl) ?_
  refine Eq.trans (RUN_ci rfl rfl rfl (wi_77 (d := d + 4) lw.1 ht) (qle_refl _)) ?_
  refine Eq.trans (k_bin rfl (iI_add _ _)) ?_
  refine Eq.trans (k_store rfl) ?_
  refine Eq.trans (k_iload rfl rfl) ?_
  refine Eq.trans (k_aload rfl rfl) ?_
  refine Eq.trans (k_iload rfl rfl) ?_
  refine Eq.trans (RUN_ci rfl rfl rfl (wi_79 (d := d + 4) lw.1 ht) (qle_refl _)) ?_
  have calm : RUN (d + 7) 350 (192, [sR 1 0, sI n, sI (ey + eyeV (V 3 0) (V 4 0) (V 5 0) t), sI ca, sI t, sR a b, sI (V 5 0 t), sR 46 s, l8, l9, l10], [aI (iI (V 6 0 t)), aI (iI ca)]) (HM q V) = RUN (d + 7) 350 (202, [sR 1 0, sI n, sI (ey + eyeV (V 3 0) (V 4 0) (V 5 0) t), sI (ca + b2i (V 6 0 t = 0)), sI t, sR a b, sI (V 5 0 t), sR 46 s, l8, l9, l10], []) (HM q V) := by
    refine Eq.trans (k_ifcN (V 6 0 t = 0) rfl (iI_ne0 (by omega))) ?_
    by_cases c : V 6 0 t = 0
    · rw [cif_pos c, b2i_pos c]
      refine Eq.trans (k_pushi (1) rfl rfl) ?_
      refine Eq.trans (k_goto rfl) ?_
      refine Eq.trans (k_bin rfl (iI_add _ _)) ?_
      refine Eq.trans (k_store rfl) ?_
      exact rfl
    · rw [cif_neg c, b2i_neg c]
      refine Eq.trans (k_pushi (0) rfl rfl) ?_
      refine Eq.trans (k_bin rfl (iI_add _ _)) ?_
      refine Eq.trans (k_store rfl) ?_
      exact rfl
  refine Eq.trans calm ?_
  refine Eq.trans (k_iload rfl rfl) ?_
  refine Eq.trans (k_pushi (1) rfl rfl) ?_
  refine Eq.trans (Eq.trans (k_icmpc (V 5 0 t < 1) rfl (iI_lt (by omega) ⟨by decide, by decide⟩)) (cif_neg (by omega))) ?_
  refine Eq.trans (k_aload rfl rfl) ?_
  refine Eq.trans (RUN_ci rfl (s0_or hst rfl) rfl (e181 (d + 5)) (qle_refl _)) ?_
  refine Eq.trans (k_pushi (8) rfl rfl) ?_
  refine Eq.trans (Eq.trans (k_icmpc ((8 : Int) < V 8 0 t) rfl (iI_lt ⟨by decide, by decide⟩ (by omega))) (cif_neg (by omega))) ?_
  refine Eq.trans (k_aload rfl rfl) ?_
  refine Eq.trans (k_iload rfl rfl) ?_
  refine Eq.trans (k_aload rfl rfl) ?_
  refine Eq.trans (RUN_ci rfl (s0_or hst rfl) rfl (e181 (d + 5)) (qle_refl _)) ?_
  refine Eq.trans (RUN_ci rfl rfl rfl (w_346 (d := d + 3) lw ht) (qle_thr _)) ?_
  refine Eq.trans (k_pushi (-13) rfl rfl) ?_
  refine Eq.trans (Eq.trans (k_icmpcN ((-13 : Int) = -13) rfl (iI_ne ⟨by decide, by decide⟩ ⟨by decide, by decide⟩)) (cif_pos rfl)) ?_
  refine Eq.trans (k_aload rfl rfl) ?_
  refine Eq.trans (k_aload rfl rfl) ?_
  refine Eq.trans (k_iload rfl rfl) ?_
  refine Eq.trans (RUN_ci rfl rfl rfl e387 (qle_refl _)) ?_
  refine Eq.trans (k_aload rfl rfl) ?_
  refine Eq.trans (RUN_ci rfl rfl rfl e388 (qle_thr _)) ?_
  exact Eq.trans (k_ifcN ((1 : Int) = 0) rfl (iI_ne0 ⟨by decide, by decide⟩)) (cif_neg (by decide))
theorem x_113 {x2 : Int} {k : Nat} (lw : LW V) (p1 : (0 : Int) ≤ 0 ∧ 0 < V 2 0 8) (p2 : 0 ≤ x2 ∧ x2 < V 2 0 8) (hR : pR V 0 x2) (hk : k ≤ pN V 0 x2) : RUN (d + 5) 113 (am_en 113 [aR 1 0, aI (iI 0), aI (iI x2), aI (iI (k : Int))]) (HM q V) = rI (pP V 0 x2 k) (HM q (foundV V 0 x2)) := by
  have hn := rk_n lw.1
  obtain ⟨f1, f2, f3, f4, f5, f6, f7⟩ := found_p lw.1 lw.2.2.2.2.1 p1 p2 hR
  have e := e2_113 (d := d) (q := q) lw.1 lw.2.2.2.2.1 (x1 := 0) (x2 := x2) (x3 := (k : Int)) (by omega) (by omega) (fun _ _ _ => by omega) (fun _ _ _ _ => by omega) (fun _ _ _ _ _ => by omega)
  rw [cif_pos p1, cif_pos p2, cif_pos (show spR (V 2 0 8) (cE V) (cW V) x2 0 from hR), cif_neg (by omega), f3, cif_pos (by omega), (f6 k hk).1] at e
  exact e
theorem asc_rel {P : Nat → Int} : ∀ k : Nat, (∀ i : Nat, i < k → 0 ≤ P i ∧ P i < 1000) → asc (relL P k) := by
  intro k
  induction k with
  | zero => intro _; exact asc_nil
  | succ k ih =>
    intro h
    show asc (relL P k ++ (cif (k = 0) [] [62] ++ numL (P k)))
    refine asc_app (ih (fun i hi => h i (by omega))) (asc_app ?_ (numL_asc (h k (by omega))))
    by_cases z : k = 0
    · rw [cif_pos z]; exact asc_nil
    · rw [cif_neg z]; exact asc_one (by decide)
/-- the relay's text is built, place by place -/
theorem tx_rel {V : VV} (lw : LW V) {t ey ca n len : Int} {l5 l6 l7 : Option AV} (h0 : (0 : Int) ≤ 0 ∧ 0 < V 2 0 8) (ht : 0 ≤ t ∧ t < V 2 0 8) (hR : pR V 0 t) (hlen : len = (pN V 0 t : Int) + 1) (hn0 : 136 ≤ n0) : ∀ (r k : Nat) (q : QQ) (W : VV) (a b mb : Nat), same V W → LW W → n0 ≤ q.2.1.1 → 1 ≤ k → k + r = pN V 0 t + 1 → ST q.2.1.1 q W a b mb (relL (pP V 0 t) k) →
    ∃ q' W' a' b' mb', RUN (d + 7) 350 (268, [sR 1 0, sI n, sI ey, sI ca, sI t, l5, l6, l7, sI len, sR a b, sI (k : Int)], []) (HM q W) = RUN (d + 7) 350 (316, [sR 1 0, sI n, sI ey, sI ca, sI t, l5, l6, l7, sI len, sR a' b', sI len], []) (HM q' W') ∧ ST q'.2.1.1 q' W' a' b' mb' (relL (pP V 0 t) (pN V 0 t + 1)) ∧ adv (8 * r) (1000 * r) n0 q q' ∧ kp n0 W W' := by
  have hn := rk_n lw.1
  obtain ⟨f1, f2, f3, f4, f5, f6, f7⟩ := found_p lw.1 lw.2.2.2.2.1 h0 ht hR
  intro r
  induction r with
  | zero =>
    intro k q W a b mb sm lwW hq hk e0 hst
    have ek : (k : Int) = len := by omega
    refine ⟨q, W, a, b, mb, ?_, by rw [← e0]; exact hst, adv_refl q, kp_refl lwW⟩
    rw [ek]
    refine Eq.trans (k_iload rfl rfl) ?_
    refine Eq.trans (k_iload rfl rfl) ?_
    exact Eq.trans (k_icmpc (len ≤ len) rfl (iI_le (by omega) (by omega))) (cif_pos (Int.le_refl _))
  | succ r ih =>
    intro k q W a b mb sm lwW hq hk e0 hst
    have hnW := sm.n
    generalize hls : ([sR 1 0, sI n, sI ey, sI ca, sI t, l5, l6, l7, sI len, sR a b, sI (k : Int)] : List (Option AV)) = ls
    have hL : (relL (pP V 0 t) k).length ≤ 2 * k := relL_len k (fun i hi => by have := f6 i (by omega); omega)
    have hA : asc (relL (pP V 0 t) k) := asc_rel k (fun i hi => by have := f6 i (by omega); omega)
    have hP := f6 k (by omega)
    have nl : (numL (pP V 0 t k)).length ≤ 3 := numL_len
    obtain ⟨q1, V1, e1, B1, g1⟩ := k_newSB (d := d + 1) (y := 350) (pc := 275) (p1 := 278) (p2 := 279) (ls := ls) (st := []) (q := q) (V := W) rfl rfl rfl rfl (by omega)
    obtain ⟨q2, V2, e2, B2, g2⟩ := k_apS (d := d + 1) (y := 350) (pc := 284) (ls := ls) (st := []) rfl rfl (hst.keep g1) B1 (by show 0 + _ ≤ 70; omega)
    obtain ⟨q3, V3, e3, B3, g3⟩ := k_apS (d := d + 1) (y := 350) (pc := 290) (ls := ls) (st := []) rfl rfl st_18 B2 (by rw [List.length_append]; show 0 + _ + 1 ≤ 70; omega)
    have g13 := (g1.trans g2).trans g3
    have k3 := kp_FS lwW g13
    have lw3 := lwW.of_kp k3
    have sm3 : same V V3 := fun x a1 a2 => (k3.1 x a1 a2).trans (sm x a1 a2)
    have n3 := sm3.n
    have e113 := x_113 (d := d + 1) (q := q3) (V := V3) (x2 := t) (k := k) lw3 (by omega) (by omega) (by rw [sm3.xpR]; exact hR) (by rw [sm3.xpN]; omega)
    rw [sm3.xpP] at e113
    have kf : ∀ m0, kp m0 V3 (foundV V3 0 t) := fun m0 => kp_found lw3 (by omega) (by omega) (by rw [sm3.xpR]; exact hR)
    have B3f : BT q.2.1.1 q3 (foundV V3 0 t) q.2.1.1 (([] ++ relL (pP V 0 t) k) ++ [62]) := B3.keep (adv_refl (m := 0) (s := 0) q3) (kf q3.2.1.1).k46
    obtain ⟨q4, V4, e4, B4, g4⟩ := k_apN (d := d + 1) (y := 350) (pc := 302) (ls := ls) (st := []) (x := pP V 0 t k) rfl rfl B3f (by omega) (by rw [List.length_append, List.length_append]; show 0 + _ + 1 < 60; omega)
    have eL : (([] ++ relL (pP V 0 t) k) ++ [62]) ++ numL (pP V 0 t k) = relL (pP V 0 t) (k + 1) := by
      show _ = relL (pP V 0 t) k ++ (cif (k = 0) [] [62] ++ numL (pP V 0 t k))
      rw [List.nil_append, cif_neg (by omega), List.append_assoc]
    rw [eL] at B4
    obtain ⟨q5, V5, s5, m5, e5, S5, g5, -⟩ := k_ts (d := d + 1) (y := 350) (pc := 305) (ls := ls) (st := []) rfl rfl B4 (asc_rel (k + 1) (fun i hi => by have := f6 i (by omega); omega))
    have c3 : q.2.1.1 ≤ q3.2.1.1 := g13.1.2.2.1.1
    have c4 : q3.2.1.1 ≤ q4.2.1.1 := g4.1.2.2.1.1
    have k3f := (k3.mono hq).trans (kf n0)
    have lwf := lw3.of_kp (kf n0)
    have k5 : kp n0 W V5 := k3f.trans (kp_FS lwf ((g4.mono (Nat.le_refl _) (Nat.le_refl _) hq).trans (g5.mono (Nat.le_refl _) (Nat.le_refl _) (show n0 ≤ q4.2.1.1 by omega))))
    have a5 : adv 8 1000 n0 q q5 := ((g13.1.mono (Nat.le_refl _) (Nat.le_refl _) hq).trans ((g4.1.mono (Nat.le_refl _) (Nat.le_refl _) hq).trans (g5.1.mono (Nat.le_refl _) (Nat.le_refl _) (show n0 ≤ q4.2.1.1 by omega)))).mono (by decide) (by decide) (Nat.le_refl _)
    have sm5 : same V V5 := fun x a1 a2 => (k5.1 x a1 a2).trans (sm x a1 a2)
    have ek : ((k + 1 : Nat) : Int) = (k : Int) + 1 := by omega
    obtain ⟨q6, V6, a6, b6, m6, e6, S6, adv6, k6⟩ := ih (k + 1) q5 V5 46 s5 m5 sm5 (lwW.of_kp k5) (by have := a5.2.2.1.1; omega) (by omega) (by omega) S5
    rw [ek] at e6
    refine ⟨q6, V6, a6, b6, m6, ?_, S6, (a5.trans adv6).mono (by omega) (by omega) (Nat.le_refl _), k5.trans k6⟩
    have h1 : RUN (d + 7) 350 (268, ls, []) (HM q W) = RUN (d + 7) 350 (275, ls, []) (HM q W) := by
      rw [← hls]
      refine Eq.trans (k_iload rfl rfl) ?_
      refine Eq.trans (k_iload rfl rfl) ?_
      exact Eq.trans (k_icmpc (len ≤ (k : Int)) rfl (iI_le (by omega) (by omega))) (cif_neg (by omega))
    have h2 : RUN (d + 7) 350 (279 + 3, ls, [aR 46 q.2.1.1]) (HM q1 V1) = RUN (d + 7) 350 (284, ls, [aR a b, aR 46 q.2.1.1]) (HM q1 V1) := by
      rw [← hls]
      exact k_aload rfl rfl
    have h3 : RUN (d + 7) 350 (290 + 3, ls, [aR 46 q.2.1.1]) (HM q3 V3) = RUN (d + 7) 350 (302, ls, [aI (iI (pP V 0 t k)), aR 46 q.2.1.1]) (HM q3 (foundV V3 0 t)) := by
      rw [← hls]
      refine Eq.trans (k_aload rfl rfl) ?_
      refine Eq.trans (k_pushi (0) rfl rfl) ?_
      refine Eq.trans (k_iload rfl rfl) ?_
      refine Eq.trans (k_iload rfl rfl) ?_
      refine Eq.trans (RUN_ci rfl rfl rfl e113 (qle_refl _)) ?_
      exact rfl
    refine h1.trans (e1.trans (h2.trans (e2.trans (Eq.trans (k_push rfl) (e3.trans (h3.trans (e4.trans (e5.trans ?_))))))))
    rw [← hls]
    refine Eq.trans (k_astore rfl) ?_
    refine Eq.trans (k_iinc 1 rfl rfl rfl) ?_
    refine Eq.trans (k_goto rfl) ?_
    exact e6
end
