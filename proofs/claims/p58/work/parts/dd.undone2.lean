/-! what was done is undone: the loops -/
theorem jjl_at {q : QQ} {b : Nat} {i v : Int} : lI (jj (stJ q b i v) b i) = lI v := by
  show lI (if 46 = 46 ∧ b = b ∧ i.toNat = i.toNat then lI v else q.2.2.1 46 b i.toNat).toInt = _
  rw [if_pos ⟨rfl, rfl, rfl⟩, lI_of]
theorem jjl_off {q : QQ} {b : Nat} {i v m : Int} (h : 0 ≤ i ∧ 0 ≤ m ∧ ¬ m = i) : jj (stJ q b i v) b m = jj q b m := by
  show (if 46 = 46 ∧ b = b ∧ m.toNat = i.toNat then lI v else q.2.2.1 46 b m.toNat).toInt = _
  rw [if_neg (fun z => by have := z.2.2; omega)]
  rfl
theorem jj_adv {m s n0 b : Nat} {q q' : QQ} {i : Int} (h : adv m s n0 q q') : jj q' b i = jj q b i := by
  unfold jj
  rw [h.2.1]
/-- the place of the i-th row that was kept -/
def slO (p0 i : Int) : Nat := ((p0 + i) % 8).toNat + 3
/-- the array of the sums stands -/
def arrJ (q : QQ) (bs : Nat) : Prop := q.1.2.2 bs = some (Sum.inl (2, 9, fun _ => aN)) ∧ 136 ≤ bs ∧ bs < q.2.1.1 ∧ q.1.1 < 2147483648
theorem arrJ.keep {m s bs : Nat} {q q' : QQ} (h : arrJ q bs) (a : advJ m s (bs + 1) q q') : arrJ q' bs := by
  have := a.2.2.1.1
  exact ⟨by rw [a.1.2.2 bs (by omega)]; exact h.1, h.2.1, by have := h.2.2.1; omega, by rw [a.1.1]; exact h.2.2.2⟩
/-- the rows that were kept, with their sums -/
def keptR (p0 : Int) (bs : Nat) (q : QQ) (V : VV) (U : Int → VV) (j : Int) : Prop := V 11 0 1 = (p0 + j) % 8 ∧ j ≤ V 11 0 2 ∧ ∀ i, 0 ≤ i → i < j → lI (jj q bs i) = lI (sumR (U i) 0) ∧ rowB 1000000 0 (U i) ∧ rowEq V (slO p0 i) (U i) 0
section
variable {B : Int} {d : Nat} {q : QQ} {V : VV} {bs : Nat} {j k p0 : Int} {l5 l6 l7 : Option AV} {U : Int → VV}
theorem und_step (h : LQ B V) (hB : B ≤ 999700) (ha : arrJ q bs) (hj : 0 ≤ j ∧ j ≤ k) (hk : k < 7) :
    ∃ q' W t m5 m6 m7, RUN (d + 15) 392 (10, [sR 0 0, sR 1 0, sR 46 bs, sI j, sI k, l5, l6, l7], []) (HM q V) = RUN (d + 15) 392 (10, [sR 0 0, sR 1 0, sR 46 bs, sI (j + t), sI (k + 1), m5, m6, m7], []) (HM q' W) ∧ advJ 18 2700 bs q q' ∧ arrJ q' bs ∧ LQ (B + 100) W ∧ ((t = 0 ∧ stay V W) ∨ (t = 1 ∧ pushd V W)) ∧ lI (jj q' bs j) = lI (sumR V 0) ∧ ∀ i, 0 ≤ i → ¬ i = j → jj q' bs i = jj q bs i := by
  obtain ⟨z, zR, ec⟩ := o_309 (d := d + 14) (q := q) (V := V) (k := 39 + k) ha.2.2.2 (by omega)
  have u1 := usr_nn z 1 (by decide) (by decide)
  have u4 := usr_nn (bUsr z 1) 4 (by decide) (by decide)
  have es := s_393 (d := d + 11) (q := q) (V := V) (h.lw (by omega)).1
  have jo : JO bs q (stJ q bs j (sumR V 0)) := JO.st
  have jw := jjl_at (q := q) (b := bs) (i := j) (v := sumR V 0)
  have jf : ∀ i, 0 ≤ i → ¬ i = j → jj (stJ q bs j (sumR V 0)) bs i = jj q bs i := fun i z1 z2 => jjl_off ⟨hj.1, z1, z2⟩
  obtain ⟨h1, h2, h3, h4⟩ := id ha
  have ha1 : arrJ (stJ q bs j (sumR V 0)) bs := ⟨by rw [jo.1]; exact h1, h2, by rw [jo.2.1]; exact h3, by rw [jo.1]; exact h4⟩
  have a1 : advJ 0 0 bs q (stJ q bs j (sumR V 0)) := jo.adv (Nat.le_refl _)
  have q1e : (stJ q bs j (sumR V 0)).2.1.1 = q.2.1.1 := rfl
  have head : RUN (d + 15) 392 (10, [sR 0 0, sR 1 0, sR 46 bs, sI j, sI k, l5, l6, l7], []) (HM q V) = RUN (d + 15) 392 (43, [sR 0 0, sR 1 0, sR 46 bs, sI j, sI k, sI (bUsr z 1), sI (bUsr (bUsr z 1) 4), l7], []) (HM (stJ q bs j (sumR V 0)) V) := by
   refine Eq.trans (k_iload rfl rfl) ?_
   refine Eq.trans (k_pushi (7) rfl rfl) ?_
   refine Eq.trans (Eq.trans (k_icmpc ((7 : Int) ≤ k) rfl (iI_le (by omega) (by omega))) (cif_neg (by omega))) ?_
   refine Eq.trans (k_aload rfl rfl) ?_
   refine Eq.trans (k_pushi (39) rfl rfl) ?_
   refine Eq.trans (k_iload rfl rfl) ?_
   refine Eq.trans (k_bin rfl (iI_add _ _)) ?_
   refine Eq.trans (RUN_ci rfl rfl rfl ec (qle_refl _)) ?_
   refine Eq.trans (k_pushi (1) rfl rfl) ?_
   refine Eq.trans (k_bin rfl (usr_e _ _)) ?_
   refine Eq.trans (k_store rfl) ?_
   refine Eq.trans (k_iload rfl rfl) ?_
   refine Eq.trans (k_pushi (4) rfl rfl) ?_
   refine Eq.trans (k_bin rfl (usr_e _ _)) ?_
   refine Eq.trans (k_store rfl) ?_
   refine Eq.trans (k_aload rfl rfl) ?_
   refine Eq.trans (k_iload rfl rfl) ?_
   refine Eq.trans (k_aload rfl rfl) ?_
   refine Eq.trans (RUN_ci rfl rfl rfl es (qle_refl _)) ?_
   exact k_last rfl h1 rfl (by omega)
  generalize hq1 : stJ q bs j (sumR V 0) = q1 at jw jf ha1 a1 head q1e
  obtain ⟨v, q', W, e1, o⟩ := und_op (d := d) (q := q1) (V := V) (bs := bs) (j := j) (k := k) (c := bUsr z 1) (e := bUsr (bUsr z 1) 4) (l7 := l7) h hB (by omega) (by omega) (by have := ha.2.1; have := ha.2.2.1; omega)
  have vR := o.R
  obtain ⟨o1, o2, o3, o4⟩ := o
  have o1b : adv 18 2700 (bs + 1) q1 q' := o1.mono (Nat.le_refl _) (Nat.le_refl _) (by have := ha.2.2.1; omega)
  have ha2 := ha1.keep o1b.toJ
  have jw2 : lI (jj q' bs j) = lI (sumR V 0) := by rw [jj_adv o1b]; exact jw
  have jf2 : ∀ i, 0 ≤ i → ¬ i = j → jj q' bs i = jj q bs i := fun i z1 z2 => by rw [jj_adv o1b]; exact jf i z1 z2
  have a2 : advJ 18 2700 bs q q' := (a1.trans (o1b.toJ.mono (Nat.le_refl _) (Nat.le_refl _) (Nat.le_succ _))).mono (by decide) (by decide) (Nat.le_refl _)
  have rkW := (o3.lw (by omega)).1
  have es2 := s_393 (d := d + 11) (q := q') (V := W) rkW
  rcases o4 with ⟨vz, stt⟩ | ⟨vz, pp⟩
  · refine ⟨q', W, 0, sI (bUsr z 1), sI (bUsr (bUsr z 1) 4), sI v, ?_, a2, ha2, o3, Or.inl ⟨rfl, stt⟩, jw2, jf2⟩
    have eW : sumR W 0 = sumR V 0 := sumR_eq stt.1 h.1.1
    refine head.trans (e1.trans ?_)
    refine Eq.trans (k_iload rfl rfl) ?_
    refine Eq.trans (Eq.trans (k_ifc ((0 : Int) ≤ v) rfl (iI_0le vR)) (cif_neg (by omega))) ?_
    refine Eq.trans (k_aload rfl rfl) ?_
    refine Eq.trans (RUN_ci rfl rfl rfl es2 (qle_refl _)) ?_
    refine Eq.trans (k_aload rfl rfl) ?_
    refine Eq.trans (k_iload rfl rfl) ?_
    refine Eq.trans (k_lald rfl ha2.1 rfl (by omega)) ?_
    rw [jw2, eW]
    refine Eq.trans (k_lcmp rfl) ?_
    rw [lcF_self]
    refine Eq.trans (Eq.trans (k_ifc ((0 : Int) = 0) rfl (iI_eq0 ⟨by decide, by decide⟩)) (cif_pos rfl)) ?_
    refine Eq.trans (k_iload rfl rfl) ?_
    refine Eq.trans (k_iload rfl rfl) ?_
    refine Eq.trans (Eq.trans (k_ifc ((0 : Int) ≤ v) rfl (iI_0le vR)) (cif_neg (by omega))) ?_
    refine Eq.trans (k_pushi (0) rfl rfl) ?_
    refine Eq.trans (k_goto rfl) ?_
    refine Eq.trans (k_bin rfl (iI_add _ _)) ?_
    refine Eq.trans (k_store rfl) ?_
    refine Eq.trans (k_iinc 1 rfl rfl rfl) ?_
    exact k_goto rfl
  · refine ⟨q', W, 1, sI (bUsr z 1), sI (bUsr (bUsr z 1) 4), sI v, ?_, a2, ha2, o3, Or.inr ⟨rfl, pp⟩, jw2, jf2⟩
    refine head.trans (e1.trans ?_)
    refine Eq.trans (k_iload rfl rfl) ?_
    refine Eq.trans (Eq.trans (k_ifc ((0 : Int) ≤ v) rfl (iI_0le vR)) (cif_pos (by omega))) ?_
    refine Eq.trans (k_iload rfl rfl) ?_
    refine Eq.trans (k_iload rfl rfl) ?_
    refine Eq.trans (Eq.trans (k_ifc ((0 : Int) ≤ v) rfl (iI_0le vR)) (cif_pos (by omega))) ?_
    refine Eq.trans (k_pushi (1) rfl rfl) ?_
    refine Eq.trans (k_bin rfl (iI_add _ _)) ?_
    refine Eq.trans (k_store rfl) ?_
    refine Eq.trans (k_iinc 1 rfl rfl rfl) ?_
    exact k_goto rfl
theorem kept_stay {q' : QQ} {W : VV} (h : keptR p0 bs q V U j) (s : stay V W) (hf : ∀ i, 0 ≤ i → ¬ i = j → jj q' bs i = jj q bs i) : keptR p0 bs q' W U j := by
  obtain ⟨h1, h2, h3⟩ := h
  obtain ⟨s1, s2, s3⟩ := s
  refine ⟨by rw [s2]; exact h1, by rw [s2]; exact h2, fun i z1 z2 => ?_⟩
  obtain ⟨k1, k2, k3⟩ := h3 i z1 z2
  exact ⟨by rw [hf i z1 (by omega)]; exact k1, k2, (rowEq_of (fun a y1 y2 => s3 a _ y1 y2 (by unfold slO; omega))).trans k3⟩
theorem kept_push {q' : QQ} {W : VV} (h : keptR p0 bs q V U j) (hj : 0 ≤ j ∧ j < 7) (hb : rowB 1000000 0 V) (s : pushd V W) (hw : lI (jj q' bs j) = lI (sumR V 0)) (hf : ∀ i, 0 ≤ i → ¬ i = j → jj q' bs i = jj q bs i) : keptR p0 bs q' W (fun i => if i = j then V else U i) (j + 1) := by
  obtain ⟨h1, h2, h3⟩ := h
  obtain ⟨⟨s1, s2⟩, s3, s4⟩ := s
  have es : slot V = slO p0 j := by
    unfold slot slO
    rw [h1]
  rw [es] at s3 s4
  refine ⟨by rw [s1, h1]; omega, by rw [s2]; omega, fun i z1 z2 => ?_⟩
  by_cases c : i = j
  · subst c
    dsimp only
    rw [if_pos rfl]
    exact ⟨hw, hb, s3⟩
  · dsimp only
    rw [if_neg c]
    obtain ⟨k1, k2, k3⟩ := h3 i z1 (by omega)
    refine ⟨by rw [hf i z1 c]; exact k1, k2, (rowEq_of (fun a y1 y2 => s4 a _ y1 y2 (by unfold slO; omega) ?_)).trans k3⟩
    unfold slO
    omega
theorem und_loop : ∀ (r : Nat) (k j B : Int) (q : QQ) (V : VV) (U : Int → VV) (l5 l6 l7 : Option AV), LQ B V → B + 100 * r ≤ 999800 → arrJ q bs → 0 ≤ j ∧ j ≤ k → k + r = 7 → keptR p0 bs q V U j →
    ∃ q' W j' U' m5 m6 m7, RUN (d + 15) 392 (10, [sR 0 0, sR 1 0, sR 46 bs, sI j, sI k, l5, l6, l7], []) (HM q V) = RUN (d + 15) 392 (10, [sR 0 0, sR 1 0, sR 46 bs, sI j', sI 7, m5, m6, m7], []) (HM q' W) ∧ advJ (18 * r) (2700 * r) bs q q' ∧ arrJ q' bs ∧ LQ 999800 W ∧ (0 ≤ j' ∧ j' ≤ 7) ∧ keptR p0 bs q' W U' j' := by
  intro r
  induction r with
  | zero =>
    intro k j B q V U l5 l6 l7 h hB ha hj hk kt
    have ek : k = 7 := by omega
    subst ek
    exact ⟨q, V, j, U, l5, l6, l7, rfl, (adv_refl (m := 0) (s := 0) (n0 := bs) q).toJ, ha, h.mono (by omega), hj, kt⟩
  | succ r ih =>
    intro k j B q V U l5 l6 l7 h hB ha hj hk kt
    obtain ⟨q1, V1, t, m5, m6, m7, e1, a1, ha1, l1, ht, hw, hf⟩ := und_step (d := d) (l5 := l5) (l6 := l6) (l7 := l7) h (by omega) ha hj (by omega)
    rcases ht with ⟨t0, stt⟩ | ⟨t1, pp⟩
    · subst t0
      obtain ⟨q2, V2, j2, U2, n5, n6, n7, e2, a2, r2⟩ := ih (k + 1) (j + 0) (B + 100) q1 V1 U m5 m6 m7 l1 (by omega) ha1 (by omega) (by omega) (by rw [Int.add_zero]; exact kept_stay kt stt hf)
      exact ⟨q2, V2, j2, U2, n5, n6, n7, e1.trans e2, (a1.trans a2).mono (by omega) (by omega) (Nat.le_refl _), r2⟩
    · subst t1
      obtain ⟨q2, V2, j2, U2, n5, n6, n7, e2, a2, r2⟩ := ih (k + 1) (j + 1) (B + 100) q1 V1 _ m5 m6 m7 l1 (by omega) ha1 (by omega) (by omega) (kept_push kt (by omega) (rowB_mono h.1.1 (by omega)) pp hw hf)
      exact ⟨q2, V2, j2, U2, n5, n6, n7, e1.trans e2, (a1.trans a2).mono (by omega) (by omega) (Nat.le_refl _), r2⟩
/-- a row is given back -/
theorem back_0 : rowEq (backV V) 0 V (3 + (lastK V).toNat) := by
  refine (rowEq_of (fun a z1 z2 => ?_)).trans (rowEq_copy (V := V) (r := 0) (s := 3 + (lastK V).toNat) (by omega))
  unfold backV backW
  rw [upV_off2 (by omega), upV_off2 (by omega)]
theorem back_off {a b : Nat} (h : ¬ a = 11 ∧ ¬ b = 0) : backV V a b = V a b := by
  unfold backV backW
  rw [upV_off2 (by omega), upV_off2 (by omega), copyV_off (by omega)]
theorem back_1 : backV V 11 0 1 = lastK V := by
  unfold backV backW
  rw [upV_at, if_neg (by decide), upV_at, if_pos rfl]
theorem back_2 : backV V 11 0 2 = V 11 0 2 - 1 := by
  unfold backV backW
  rw [upV_at, if_pos rfl, upV_at, if_neg (by decide), copyV_off (by omega)]
theorem und_back {m : Int} (ha : arrJ q bs) : ∀ (n : Nat) (V : VV), n ≤ 7 → rowok V → hisok V → keptR p0 bs q V U n → ∃ W, RUN (d + 15) 392 (365, [sR 0 0, sR 1 0, sR 46 bs, sI m, sI ((n : Int) - 1), l5, l6, l7], []) (HM q V) = rI 1 (HM q W) := by
  intro n
  induction n with
  | zero =>
    intro V hn rk ho kt
    refine ⟨V, ?_⟩
    refine Eq.trans (k_iload rfl rfl) ?_
    refine Eq.trans (Eq.trans (k_ifc (((0 : Nat) : Int) - 1 < 0) rfl (iI_lt0 (by omega))) (cif_pos (by decide))) ?_
    refine Eq.trans (k_pushi (1) rfl rfl) ?_
    exact k_iret rfl (Or.inr rfl)
  | succ n ih =>
    intro V hn rk ho kt
    obtain ⟨k1, k2, k3⟩ := kt
    obtain ⟨⟨o1, o2⟩, o3, o4⟩ := id ho
    have eL : lastK V = (p0 + n) % 8 := by
      unfold lastK
      rw [k1]
      omega
    have eS : 3 + (lastK V).toNat = slO p0 n := by
      unfold slO
      rw [eL]
      omega
    have e398 := e_398 (d := d + 11) (q := q) rk ho
    rw [cif_neg (by omega), back_2] at e398
    obtain ⟨s1, s2, s3⟩ := k3 n (by omega) (by omega)
    have b0 : rowEq (backV V) 0 (U n) 0 := by
      have := back_0 (V := V)
      rw [eS] at this
      exact this.trans s3
    have rk2 : rowok (backV V) := rowB_eq b0 s2
    have es := s_393 (d := d + 11) (q := q) rk2
    have eW : sumR (backV V) 0 = sumR (U n) 0 := sumR_eq b0 s2
    have ho2 : hisok (backV V) := by
      unfold hisok
      rw [back_1, back_2, eL]
      omega
    have kt2 : keptR p0 bs q (backV V) U n := by
      refine ⟨by rw [back_1, eL], by rw [back_2]; omega, fun i z1 z2 => ?_⟩
      obtain ⟨t1, t2, t3⟩ := k3 i z1 (by omega)
      exact ⟨t1, t2, (rowEq_of (fun a y1 y2 => back_off (by unfold slO; omega))).trans t3⟩
    obtain ⟨W, e2⟩ := ih (backV V) (by omega) rk2 ho2 kt2
    refine ⟨W, ?_⟩
    rw [show ((n + 1 : Nat) : Int) - 1 = (n : Int) by omega]
    refine Eq.trans (k_iload rfl rfl) ?_
    refine Eq.trans (Eq.trans (k_ifc ((n : Int) < 0) rfl (iI_lt0 (by omega))) (cif_neg (by omega))) ?_
    refine Eq.trans (k_aload rfl rfl) ?_
    refine Eq.trans (RUN_ci rfl rfl rfl e398 (qle_refl _)) ?_
    refine Eq.trans (Eq.trans (k_ifc (V 11 0 2 - 1 < 0) rfl (iI_lt0 (by omega))) (cif_neg (by omega))) ?_
    refine Eq.trans (k_aload rfl rfl) ?_
    refine Eq.trans (RUN_ci rfl rfl rfl es (qle_refl _)) ?_
    refine Eq.trans (k_aload rfl rfl) ?_
    refine Eq.trans (k_iload rfl rfl) ?_
    refine Eq.trans (k_lald rfl ha.1 rfl (by omega)) ?_
    rw [s1, eW]
    refine Eq.trans (k_lcmp rfl) ?_
    rw [lcF_self]
    refine Eq.trans (Eq.trans (k_ifc ((0 : Int) = 0) rfl (iI_eq0 ⟨by decide, by decide⟩)) (cif_pos rfl)) ?_
    refine Eq.trans (k_iinc (-1) rfl rfl rfl) ?_
    refine Eq.trans (k_goto rfl) ?_
    exact e2
/-- undone (392) -/
theorem s_392 (h : LQ B V) (hB : B ≤ 999000) (hq : 136 ≤ q.2.1.1) (hL : q.1.1 < 2147483648) : ∃ q' W, RUN (d + 15) 392 (am_en 392 [aR 0 0, aR 1 0]) (HM q V) = rI 1 (HM q' W) ∧ advJ 127 18909 q.2.1.1 q q' := by
  generalize hb : q.2.1.1 = bs at hq
  generalize hq2 : newJ q 9 = q2
  have a1 : advJ 1 9 bs q q2 := by
    rw [← hq2, ← hb]
    exact newJ_adv
  have ha : arrJ q2 bs := by
    refine ⟨?_, hq, ?_, ?_⟩
    · rw [← hq2, ← hb]
      exact newJ_at
    · rw [← hq2, ← hb]
      exact Nat.lt_succ_self _
    · rw [a1.1.1]
      exact hL
  have e2 : RUN (d + 15) 392 (2, [sR 0 0, sR 1 0, none, none, none, none, none, none], [aI (iI 9)]) (HM q V) = RUN (d + 15) 392 (4, [sR 0 0, sR 1 0, none, none, none, none, none, none], [aR 46 bs]) (HM q2 V) := by
    rw [← hq2, ← hb]
    exact k_newJ46 (N := 9) rfl (by omega)
  have ho := h.2.2.1
  obtain ⟨q3, V3, j3, U3, m5, m6, m7, e3, a3, ha3, l3, hj3, kt3⟩ := und_loop (d := d) (bs := bs) (p0 := V 11 0 1) 7 0 0 B q2 V (fun _ => V) none none none h (by omega) ha ⟨by decide, by decide⟩ (by decide) ⟨by rw [Int.add_zero]; have := ho.1; omega, ho.2.1, fun i z1 z2 => absurd z2 (by omega)⟩
  obtain ⟨W, e4⟩ := und_back (d := d) (m := j3) (l5 := m5) (l6 := m6) (l7 := m7) (q := q3) (U := U3) ha3 j3.toNat V3 (by omega) (l3.lw (by omega)).1 l3.2.2.1 (by rw [show ((j3.toNat : Nat) : Int) = j3 by omega]; exact kt3)
  rw [show ((j3.toNat : Nat) : Int) = j3 by omega] at e4
  refine ⟨q3, W, ?_, (a1.trans a3).mono (by decide) (by decide) (Nat.le_refl _)⟩
  refine (show RUN (d + 15) 392 (0, [sR 0 0, sR 1 0, none, none, none, none, none, none], []) (HM q V) = _ from ?_)
  refine Eq.trans (k_pushi (9) rfl rfl) ?_
  refine Eq.trans (e2) ?_
  refine Eq.trans (k_astore rfl) ?_
  refine Eq.trans (k_pushi (0) rfl rfl) ?_
  refine Eq.trans (k_store rfl) ?_
  refine Eq.trans (k_pushi (0) rfl rfl) ?_
  refine Eq.trans (k_store rfl) ?_
  refine Eq.trans (e3) ?_
  refine Eq.trans (k_iload rfl rfl) ?_
  refine Eq.trans (k_pushi (7) rfl rfl) ?_
  refine Eq.trans (Eq.trans (k_icmpc ((7 : Int) ≤ 7) rfl (iI_le ⟨by decide, by decide⟩ ⟨by decide, by decide⟩)) (cif_pos (by decide))) ?_
  refine Eq.trans (k_iload rfl rfl) ?_
  refine Eq.trans (k_pushi (1) rfl rfl) ?_
  refine Eq.trans (k_bin rfl (iI_sub _ _)) ?_
  refine Eq.trans (k_store rfl) ?_
  exact e4
end
