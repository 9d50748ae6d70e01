/-! the law's texts: a tower's log and its text -/
theorem XQ.of_same {V W : VV} (h : XQ V) (s : same V W) : XQ W := by
  unfold XQ lgA
  rw [s 2 (by decide) (by decide), s 9 (by decide) (by decide), s 5 (by decide) (by decide)]
  exact h
section
variable {d n0 : Nat} {q : QQ} {V : VV}
theorem asc_sg {f : Int → Int} : ∀ (n : Nat) (a : Int), (∀ i, a ≤ i → i < a + n → 0 ≤ f i ∧ f i < 128) → asc (sg f a n) := by
  intro n
  induction n with
  | zero => intro a _; exact asc_nil
  | succ n ih =>
    intro a h
    exact BT.asc0 (ih (a + 1) (fun i h1 h2 => h i (by omega) (by omega))) (h a (by omega) (by omega))
theorem tx_log {t ey ca n : Int} {l7 l8 l9 l10 : Option AV} (hn0 : 136 ≤ n0) : ∀ (r k : Nat) (q : QQ) (V : VV) (a b mb : Nat), LW V → lgA V → 0 ≤ t ∧ t < V 2 0 8 → (k : Int) + r = V 8 0 t → n0 ≤ q.2.1.1 → ST q.2.1.1 q V a b mb (sg (V 9 0) (t * 8 + (V 8 0 t - k)) k) →
    ∃ q' V' a' b' mb', RUN (d + 6) 350 (26, [sR 1 0, sI n, sI ey, sI ca, sI t, sR a b, sI (k : Int), l7, l8, l9, l10], []) (HM q V) = RUN (d + 6) 350 (72, [sR 1 0, sI n, sI ey, sI ca, sI t, sR a' b', sI (V 8 0 t), l7, l8, l9, l10], []) (HM q' V') ∧ ST q'.2.1.1 q' V' a' b' mb' (sg (V 9 0) (t * 8 + 0) (V 8 0 t).toNat) ∧ FS n0 (6 * r) (824 * r) q V q' V' := by
  intro r
  induction r with
  | zero =>
    intro k q V a b mb lw la ht hk hq hst
    have hn := rk_n lw.1
    have b8 := rk_8 lw.1 (j := t) (by omega)
    refine ⟨q, V, a, b, mb, ?_, ?_, FS.refl⟩
    · have ek : (k : Int) = V 8 0 t := by omega
      rw [ek]
      refine Eq.trans (k_iload rfl rfl) ?_
      refine Eq.trans (k_aload rfl rfl) ?_
      refine Eq.trans (k_iload rfl rfl) ?_
      refine Eq.trans (RUN_ci rfl rfl rfl (wi_142 (d := d + 3) lw.1 ht) (qle_refl _)) ?_
      exact Eq.trans (k_icmpc (V 8 0 t ≤ V 8 0 t) rfl (iI_le (by omega) (by omega))) (cif_pos (Int.le_refl _))
    · rw [show (V 8 0 t).toNat = k by omega, show t * 8 + 0 = t * 8 + (V 8 0 t - k) by omega]
      exact hst
  | succ r ih =>
    intro k q V a b mb lw la ht hk hq hst
    have hn := rk_n lw.1
    have b8 := rk_8 lw.1 (j := t) (by omega)
    obtain ⟨q1, V1, e1, B1, f1⟩ := k_newSB (d := d) (y := 350) (pc := 37) (p1 := 40) (p2 := 41) (ls := [sR 1 0, sI n, sI ey, sI ca, sI t, sR a b, sI (k : Int), l7, l8, l9, l10]) (st := []) (q := q) (V := V) rfl rfl rfl rfl (by omega)
    have k1 := kp_FS lw f1
    have lw1 := lw.of_kp k1
    have r1 : ∀ x, ¬ x = 46 → V1 x 0 = V x 0 := fun x z => f1.2 x 0 (Or.inl z)
    have hc := la (t * 8 + (V 8 0 t - 1 - k)) (by omega)
    have e346 := e_346 (d := d + 2) (q := q1) (V := V1) (x1 := t) (x2 := (k : Int)) lw1.1 (by omega) (by omega) (fun _ _ _ => by rw [r1 8 (by decide)]; omega)
    rw [r1 2 (by decide), r1 8 (by decide), r1 9 (by decide), cif_pos ht, cif_neg (by omega), cif_pos (by omega)] at e346
    rw [show V 9 0 (t * 8 + (V 8 0 t - 1 - k)) % 65536 = V 9 0 (t * 8 + (V 8 0 t - 1 - k)) by omega] at e346
    obtain ⟨q2, V2, e2, B2, f2⟩ := k_apC (d := d) (y := 350) (pc := 53) (ls := [sR 1 0, sI n, sI ey, sI ca, sI t, sR a b, sI (k : Int), l7, l8, l9, l10]) (st := []) rfl rfl B1 hc (by decide)
    have st2 := (hst.keep f1).keep f2
    have len : (sg (V 9 0) (t * 8 + (V 8 0 t - k)) k).length = k := sg_len
    obtain ⟨q3, V3, e3, B3, f3⟩ := k_apS (d := d) (y := 350) (pc := 58) (ls := [sR 1 0, sI n, sI ey, sI ca, sI t, sR a b, sI (k : Int), l7, l8, l9, l10]) (st := []) rfl rfl st2 B2 (by rw [len]; show 1 + k ≤ 70; omega)
    have eL : ([] ++ [V 9 0 (t * 8 + (V 8 0 t - 1 - k))]) ++ sg (V 9 0) (t * 8 + (V 8 0 t - k)) k = sg (V 9 0) (t * 8 + (V 8 0 t - ((k + 1 : Nat) : Int))) (k + 1) := by
      show V 9 0 (t * 8 + (V 8 0 t - 1 - k)) :: sg (V 9 0) (t * 8 + (V 8 0 t - k)) k = V 9 0 (t * 8 + (V 8 0 t - ((k + 1 : Nat) : Int))) :: sg (V 9 0) (t * 8 + (V 8 0 t - ((k + 1 : Nat) : Int)) + 1) k
      rw [show t * 8 + (V 8 0 t - ((k + 1 : Nat) : Int)) + 1 = t * 8 + (V 8 0 t - k) by omega, show t * 8 + (V 8 0 t - 1 - k) = t * 8 + (V 8 0 t - ((k + 1 : Nat) : Int)) by omega]
    rw [eL] at B3
    obtain ⟨q4, V4, sb, mb4, e4, S4, f4, -⟩ := k_ts (d := d) (y := 350) (pc := 61) (ls := [sR 1 0, sI n, sI ey, sI ca, sI t, sR a b, sI (k : Int), l7, l8, l9, l10]) (st := []) rfl rfl B3 (asc_sg _ _ (fun i h1 h2 => la i (by omega)))
    have q13 : q.2.1.1 ≤ q3.2.1.1 := by
      have a1 := f1.1.2.2.1.1
      have a2 := f2.1.2.2.1.1
      have a3 := f3.1.2.2.1.1
      omega
    have q34 : q3.2.1.1 ≤ q4.2.1.1 := f4.1.2.2.1.1
    have f14 : FS n0 6 824 q V q4 V4 := ((((f1.trans f2).trans f3).mono (Nat.le_refl _) (Nat.le_refl _) hq).trans (f4.mono (Nat.le_refl _) (Nat.le_refl _) (show n0 ≤ q3.2.1.1 by omega))).mono (by decide) (by decide) (Nat.le_refl _)
    have lw4 := lw.of_kp (kp_FS lw f14)
    have r4 : ∀ x, ¬ x = 46 → V4 x 0 = V x 0 := fun x z => f14.2 x 0 (Or.inl z)
    have ek : ((k + 1 : Nat) : Int) = (k : Int) + 1 := by omega
    obtain ⟨q5, V5, a5, b5, mb5, e5, S5, f5⟩ := ih (k + 1) q4 V4 46 sb mb4 lw4 (by unfold lgA; rw [r4 9 (by decide)]; exact la) (by rw [r4 2 (by decide)]; exact ht) (by rw [r4 8 (by decide)]; omega) (by omega) (by rw [r4 9 (by decide), r4 8 (by decide)]; exact S4)
    rw [r4 8 (by decide), r4 9 (by decide)] at S5
    rw [r4 8 (by decide), ek] at e5
    refine ⟨q5, V5, a5, b5, mb5, ?_, S5, (f14.trans f5).mono (by omega) (by omega) (Nat.le_refl _)⟩
    refine Eq.trans (k_iload rfl rfl) ?_
    refine Eq.trans (k_aload rfl rfl) ?_
    refine Eq.trans (k_iload rfl rfl) ?_
    refine Eq.trans (RUN_ci rfl rfl rfl (wi_142 (d := d + 3) lw.1 ht) (qle_refl _)) ?_
    refine Eq.trans (Eq.trans (k_icmpc (V 8 0 t ≤ (k : Int)) rfl (iI_le (by omega) (by omega))) (cif_neg (by omega))) ?_
    refine Eq.trans (e1) ?_
    refine Eq.trans (k_aload rfl rfl) ?_
    refine Eq.trans (k_iload rfl rfl) ?_
    refine Eq.trans (k_iload rfl rfl) ?_
    refine Eq.trans (RUN_ci rfl rfl rfl e346 (qle_refl _)) ?_
    refine Eq.trans (k_un rfl (iI_i2c _)) ?_
    rw [show V 9 0 (t * 8 + (V 8 0 t - 1 - k)) % 65536 = V 9 0 (t * 8 + (V 8 0 t - 1 - k)) by omega]
    refine Eq.trans (e2) ?_
    refine Eq.trans (k_aload rfl rfl) ?_
    refine Eq.trans (e3) ?_
    refine Eq.trans (e4) ?_
    refine Eq.trans (k_astore rfl) ?_
    refine Eq.trans (k_iinc 1 rfl rfl rfl) ?_
    refine Eq.trans (k_goto rfl) ?_
    exact e5
/-- the text of a tower is built -/
theorem tx_tow {t ey ca n : Int} {a b mb : Nat} {l6 l7 l8 l9 l10 : Option AV} (lw : LW V) (xq : XQ V) (ht : 0 ≤ t ∧ t < V 2 0 8) (hq : 136 ≤ q.2.1.1) (hst : ST q.2.1.1 q V a b mb (sg (V 9 0) (t * 8 + 0) (V 8 0 t).toNat)) :
    ∃ q' V' s ms, RUN (d + 6) 350 (72, [sR 1 0, sI n, sI ey, sI ca, sI t, sR a b, l6, l7, l8, l9, l10], []) (HM q V) = RUN (d + 6) 350 (176, [sR 1 0, sI n, sI ey, sI ca, sI t, sR a b, sI (V 5 0 t), sR 46 s, l8, l9, l10], []) (HM q' V') ∧ ST q'.2.1.1 q' V' 46 s ms (twrL V t) ∧ FS q.2.1.1 20 2500 q V q' V' := by
  have hn := rk_n lw.1
  have b3 := fun j (hj : 0 ≤ j ∧ j < 32) => rk_3 lw.1 (j := j) hj
  have b4 := rk_4 lw.1 (j := t) (by omega)
  have b5 := rk_5 lw.1 (j := t) (by omega)
  have b6 := rk_6 lw.1 (j := t) (by omega)
  have b8 := rk_8 lw.1 (j := t) (by omega)
  have hh : eyeV (V 3 0) (V 4 0) (V 5 0) t - V 3 0 (V 4 0 t) = V 5 0 t := by
    unfold eyeV
    omega
  have nl4 : (numL (V 4 0 t)).length ≤ 3 := numL_len
  have nl5 : (numL (V 5 0 t)).length ≤ 3 := numL_len
  have nl6 : (numL (V 6 0 t)).length ≤ 3 := numL_len
  have llen : (sg (V 9 0) (t * 8 + 0) (V 8 0 t).toNat).length = (V 8 0 t).toNat := sg_len
  have lasc : asc (sg (V 9 0) (t * 8 + 0) (V 8 0 t).toNat) := hst.1.1
  generalize hls : ([sR 1 0, sI n, sI ey, sI ca, sI t, sR a b, sI (V 5 0 t), l7, l8, l9, l10] : List (Option AV)) = ls
  obtain ⟨q1, V1, e1, B1, f1⟩ := k_newSB (d := d) (y := 350) (pc := 91) (p1 := 94) (p2 := 95) (ls := ls) (st := []) (q := q) (V := V) rfl rfl rfl rfl hq
  have lw1 := lw.of_kp (kp_FS lw f1)
  have r1 : ∀ x, ¬ x = 46 → V1 x 0 = V x 0 := fun x z => f1.2 x 0 (Or.inl z)
  obtain ⟨q2, V2, e2, B2, f2⟩ := k_apN (d := d) (y := 350) (pc := 104) (ls := ls) (st := []) (x := V 4 0 t) rfl rfl B1 (by omega) (by decide)
  obtain ⟨q3, V3, e3, B3, f3⟩ := k_apS (d := d) (y := 350) (pc := 110) (ls := ls) (st := []) rfl rfl st_14 B2 (by rw [List.length_append]; show 0 + (numL (V 4 0 t)).length + 1 ≤ 70; omega)
  have L3 : (([] ++ numL (V 4 0 t)) ++ [43]).length ≤ 10 := by rw [List.length_append, List.length_append]; show 0 + (numL (V 4 0 t)).length + 1 ≤ 10; omega
  obtain ⟨q4, V4, e4, B4, f4⟩ := k_apN (d := d) (y := 350) (pc := 115) (ls := ls) (st := []) (x := V 5 0 t) rfl rfl B3 (by omega) (by omega)
  have L4 : ((([] ++ numL (V 4 0 t)) ++ [43]) ++ numL (V 5 0 t)).length ≤ 14 := by rw [List.length_append]; omega
  obtain ⟨q5, V5, e5, B5, f5⟩ := k_apS (d := d) (y := 350) (pc := 121) (ls := ls) (st := []) rfl rfl st_15 B4 (by show _ + 1 ≤ 70; omega)
  have L5 : (((([] ++ numL (V 4 0 t)) ++ [43]) ++ numL (V 5 0 t)) ++ [33]).length ≤ 16 := by rw [List.length_append]; show _ + 1 ≤ 16; omega
  have f15 := (((f1.trans f2).trans f3).trans f4).trans f5
  have lw5 := lw.of_kp (kp_FS lw f15)
  have r5 : ∀ x, ¬ x = 46 → V5 x 0 = V x 0 := fun x z => f15.2 x 0 (Or.inl z)
  obtain ⟨q6, V6, e6, B6, f6⟩ := k_apN (d := d) (y := 350) (pc := 130) (ls := ls) (st := []) (x := V 6 0 t) rfl rfl B5 (by omega) (by omega)
  have L6 : ((((([] ++ numL (V 4 0 t)) ++ [43]) ++ numL (V 5 0 t)) ++ [33]) ++ numL (V 6 0 t)).length ≤ 20 := by rw [List.length_append]; omega
  have f16 := f15.trans f6
  have st6 := hst.keep f16
  have c6 : q.2.1.1 ≤ q6.2.1.1 := f16.1.2.2.1.1
  have A6 : asc (((((([] ++ numL (V 4 0 t)) ++ [43]) ++ numL (V 5 0 t)) ++ [33]) ++ numL (V 6 0 t))) := asc_app (asc_app (asc_app (asc_app (asc_app asc_nil (numL_asc (by omega))) (asc_one (by decide))) (numL_asc (by omega))) (asc_one (by decide))) (numL_asc (by omega))
  -- the log behind it
  have tail : ∃ q8 V8 x8 m8, RUN (d + 6) 350 (133, ls, [aR 46 q.2.1.1]) (HM q6 V6) = RUN (d + 6) 350 (168, ls, [aR (if V 8 0 t ≤ 0 then 0 else 46) x8, aR 46 q.2.1.1]) (HM q8 V8) ∧ ST q8.2.1.1 q8 V8 (if V 8 0 t ≤ 0 then 0 else 46) x8 m8 (cif (V 8 0 t ≤ 0) [] [58] ++ sg (V 9 0) (t * 8 + 0) (V 8 0 t).toNat) ∧ FS q6.2.1.1 6 624 q6 V6 q8 V8 ∧ ((if V 8 0 t ≤ 0 then 0 else 46) = 46 → q6.2.1.1 ≤ x8 ∧ q6.2.1.1 ≤ m8) := by
    by_cases z : V 8 0 t ≤ 0
    · refine ⟨q6, V6, 13, 30, ?_, ?_, FS.refl, fun e => ?_⟩
      · rw [if_pos z, ← hls]
        refine Eq.trans (k_aload rfl rfl) ?_
        refine Eq.trans (RUN_ci rfl (s0_or st6 rfl) rfl (c_181 (d := d + 4) st6) (qle_refl _)) ?_
        rw [llen]
        refine Eq.trans (Eq.trans (k_ifc (((V 8 0 t).toNat : Int) ≤ 0) rfl (iI_le0 (by omega))) (cif_pos (by omega))) ?_
        exact k_push rfl
      · rw [if_pos z, cif_pos z, show (V 8 0 t).toNat = 0 by omega]
        exact st_13
      · rw [if_pos z] at e
        exact absurd e (by decide)
    · obtain ⟨q7, V7, e7, B7, f7⟩ := k_newSB (d := d) (y := 350) (pc := 141) (p1 := 144) (p2 := 145) (ls := ls) (st := [aR 46 q.2.1.1]) (q := q6) (V := V6) rfl rfl rfl rfl (by omega)
      obtain ⟨q8, V8, e8, B8, f8⟩ := k_apS (d := d) (y := 350) (pc := 151) (ls := ls) (st := [aR 46 q.2.1.1]) rfl rfl st_16 B7 (by decide)
      have st8 := ((st6.mono c6).keep f7).keep f8
      obtain ⟨q9, V9, e9, B9, f9⟩ := k_apS (d := d) (y := 350) (pc := 156) (ls := ls) (st := [aR 46 q.2.1.1]) rfl rfl st8 B8 (by rw [llen]; show 1 + _ ≤ 70; omega)
      obtain ⟨qa, Va, sa, ma, ea, Sa, fa, ga⟩ := k_ts (d := d) (y := 350) (pc := 159) (ls := ls) (st := [aR 46 q.2.1.1]) rfl rfl B9 (asc_app (asc_app asc_nil (asc_one (by decide))) lasc)
      have f79 := (f7.trans f8).trans f9
      have c9 : q6.2.1.1 ≤ q9.2.1.1 := f79.1.2.2.1.1
      refine ⟨qa, Va, sa, ma, ?_, ?_, (f79.trans (fa.mono (Nat.le_refl _) (Nat.le_refl _) c9)).mono (by decide) (by decide) (Nat.le_refl _), fun _ => by omega⟩
      · rw [if_neg z]
        have k0 : RUN (d + 6) 350 (133, ls, [aR 46 q.2.1.1]) (HM q6 V6) = RUN (d + 6) 350 (141, ls, [aR 46 q.2.1.1]) (HM q6 V6) := by
          rw [← hls]
          refine Eq.trans (k_aload rfl rfl) ?_
          refine Eq.trans (RUN_ci rfl (s0_or st6 rfl) rfl (c_181 (d := d + 4) st6) (qle_refl _)) ?_
          rw [llen]
          exact Eq.trans (k_ifc (((V 8 0 t).toNat : Int) ≤ 0) rfl (iI_le0 (by omega))) (cif_neg (by omega))
        refine Eq.trans k0 (Eq.trans e7 (Eq.trans (k_push rfl) (Eq.trans e8 ?_)))
        have k1 : RUN (d + 6) 350 (151 + 3, ls, [aR 46 q6.2.1.1, aR 46 q.2.1.1]) (HM q8 V8) = RUN (d + 6) 350 (156, ls, [aR a b, aR 46 q6.2.1.1, aR 46 q.2.1.1]) (HM q8 V8) := by
          rw [← hls]
          exact k_aload rfl rfl
        exact Eq.trans k1 (Eq.trans e9 (Eq.trans ea (k_goto rfl)))
      · rw [if_neg z, cif_neg z]
        exact Sa
  obtain ⟨q8, V8, x8, m8, e8, S8, f8, g8⟩ := tail
  have B8 := B6.keep f8.1 f8.k46
  have c1 : q.2.1.1 < q6.2.1.1 := by
    obtain ⟨mm, cc, hB6, _⟩ := B6
    exact hB6.2.2.1.2.2.2.1
  have lK : (cif (V 8 0 t ≤ 0) [] [58] ++ sg (V 9 0) (t * 8 + 0) (V 8 0 t).toNat).length ≤ 9 := by
    rw [List.length_append, llen]
    by_cases z : V 8 0 t ≤ 0
    · rw [cif_pos z]; show 0 + _ ≤ 9; omega
    · rw [cif_neg z]; show 1 + _ ≤ 9; omega
  have aK : asc (cif (V 8 0 t ≤ 0) [] [58] ++ sg (V 9 0) (t * 8 + 0) (V 8 0 t).toNat) := S8.1.1
  have c8 : q6.2.1.1 ≤ q8.2.1.1 := f8.1.2.2.1.1
  obtain ⟨q9, V9, e9, B9, f9⟩ := k_apS2 (d := d) (y := 350) (pc := 168) (ls := ls) (st := []) (n1 := q6.2.1.1) rfl rfl S8 B8 c1 g8 (by omega)
  obtain ⟨qa, Va, sa, ma, ea, Sa, fa, -⟩ := k_ts (d := d) (y := 350) (pc := 171) (ls := ls) (st := []) rfl rfl B9 (asc_app A6 aK)
  have eT : ((((([] ++ numL (V 4 0 t)) ++ [43]) ++ numL (V 5 0 t)) ++ [33]) ++ numL (V 6 0 t)) ++ (cif (V 8 0 t ≤ 0) [] [58] ++ sg (V 9 0) (t * 8 + 0) (V 8 0 t).toNat) = twrL V t := by
    unfold twrL
    rw [List.nil_append, ← List.append_assoc]
  rw [eT] at Sa
  have c9 : q8.2.1.1 ≤ q9.2.1.1 := f9.1.2.2.1.1
  refine ⟨qa, Va, sa, ma, ?_, Sa, ((f16.trans ((f8.mono (Nat.le_refl _) (Nat.le_refl _) (by omega)).trans (f9.trans (fa.mono (Nat.le_refl _) (Nat.le_refl _) (by omega))))).mono (by decide) (by decide) (Nat.le_refl _))⟩
  have head : RUN (d + 6) 350 (72, [sR 1 0, sI n, sI ey, sI ca, sI t, sR a b, l6, l7, l8, l9, l10], []) (HM q V) = RUN (d + 6) 350 (91, ls, []) (HM q V) := by
    rw [← hls]
    refine Eq.trans (k_aload rfl rfl) ?_
    refine Eq.trans (k_iload rfl rfl) ?_
    refine Eq.trans (RUN_ci rfl rfl rfl (wi_77 (d := d + 3) lw.1 ht) (qle_refl _)) ?_
    refine Eq.trans (k_aload rfl rfl) ?_
    refine Eq.trans (k_aload rfl rfl) ?_
    refine Eq.trans (k_iload rfl rfl) ?_
    refine Eq.trans (RUN_ci rfl rfl rfl (wi_75 (d := d + 3) lw.1 ht) (qle_refl _)) ?_
    refine Eq.trans (RUN_ci rfl rfl rfl (wi_72 (d := d + 3) (x1 := V 4 0 t) lw.1 (by omega)) (qle_refl _)) ?_
    refine Eq.trans (k_bin rfl (iI_sub _ _)) ?_
    rw [hh]
    refine Eq.trans (k_store rfl) ?_
    exact rfl
  have a98 : RUN (d + 6) 350 (95 + 3, ls, [aR 46 q.2.1.1]) (HM q1 V1) = RUN (d + 6) 350 (104, ls, [aI (iI (V 4 0 t)), aR 46 q.2.1.1]) (HM q1 V1) := by
    have w := wi_75 (d := d + 3) (q := q1) (V := V1) (x1 := t) lw1.1 (by rw [r1 2 (by decide)]; exact ht)
    rw [r1 4 (by decide)] at w
    rw [← hls]
    refine Eq.trans (k_aload rfl rfl) ?_
    refine Eq.trans (k_iload rfl rfl) ?_
    refine Eq.trans (RUN_ci rfl rfl rfl w (qle_refl _)) ?_
    exact rfl
  have a113 : RUN (d + 6) 350 (110 + 3, ls, [aR 46 q.2.1.1]) (HM q3 V3) = RUN (d + 6) 350 (115, ls, [aI (iI (V 5 0 t)), aR 46 q.2.1.1]) (HM q3 V3) := by
    rw [← hls]
    exact k_iload rfl rfl
  have a124 : RUN (d + 6) 350 (121 + 3, ls, [aR 46 q.2.1.1]) (HM q5 V5) = RUN (d + 6) 350 (130, ls, [aI (iI (V 6 0 t)), aR 46 q.2.1.1]) (HM q5 V5) := by
    have w := wi_79 (d := d + 3) (q := q5) (V := V5) (x1 := t) lw5.1 (by rw [r5 2 (by decide)]; exact ht)
    rw [r5 6 (by decide)] at w
    rw [← hls]
    refine Eq.trans (k_aload rfl rfl) ?_
    refine Eq.trans (k_iload rfl rfl) ?_
    refine Eq.trans (RUN_ci rfl rfl rfl w (qle_refl _)) ?_
    exact rfl
  refine head.trans (e1.trans (a98.trans (e2.trans (Eq.trans (k_push rfl) (e3.trans (a113.trans (e4.trans (Eq.trans (k_push rfl) (e5.trans (a124.trans (e6.trans (e8.trans (e9.trans (ea.trans ?_))))))))))))))
  rw [← hls]
  exact Eq.trans (k_astore rfl) rfl
end
