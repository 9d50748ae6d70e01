/-! the law's cases -/
/-- the locals of the law at its loop -/
def LSa (i : Int) (a b c : Option AV) : List (Option AV) := [sR 0 0, sR 1 0, sR 33 0, sR 44 0, sR 45 0, sI i, a, b, c]
def qu2 (q q' : QQ) : Prop := qle q q' ∧ (q'.2.1.1 ≤ q.2.1.1 + 2 ∧ q'.2.1.2 ≤ q.2.1.2 + 64) ∧ q'.1 = q.1
def Nxt (B : Int) (D pc : Nat) (i : Int) (q : QQ) (H : VV) : Prop := ∀ a b c : Option AV, ∃ (q' : QQ) (V : VV) (a' b' c' : Option AV), qu2 q q' ∧ CR (B + 100) V V ∧ RUN D 307 (pc, LSa i a b c, []) (HM q H) = RUN D 307 (3145, LSa i a' b' c', []) (HM q' V)
theorem qu2_of {q q1 q2 : QQ} (h : qup q q1) (k : qst q1 q2) : qu2 q q2 := ⟨qle_trans h.1 k.1, ⟨by have := h.2.1.1; have := k.2.1.1; omega, by have := h.2.1.2; have := k.2.1.2; omega⟩, k.2.2.1.trans h.2.2⟩
theorem qu2_st {q q2 : QQ} (k : qst q q2) : qu2 q q2 := qu2_of (qup_refl q) k
theorem Oc_k {r : Option (Out × AH)} {cm : Nat → Int} {q : QQ} {k v : Int} {U : VV} (h : Oc r cm q k v U) : 0 ≤ k ∧ k ≤ 3 := by
  rcases h with ⟨rfl, -⟩ | ⟨h1, h2, -⟩
  · decide
  · omega
theorem Oc_nil {r : Option (Out × AH)} {q : QQ} {k v : Int} {U : VV} (h : Oc r (cmL []) q k v U) : k = 0 ∧ r = rI v (HM q U) := by
  rcases h with ⟨rfl, e⟩ | ⟨h1, h2, j, hj, hk, e⟩
  · exact ⟨rfl, e⟩
  · have hk : 0 = k := hk
    omega
/-- the script's entry j of the call at i -/
def ag (q : QQ) (i j : Int) : Int := (q.1.2 (i + j).toNat).toInt
theorem iI_toInt (x : Int32) : iI x.toInt = x := Int32.ofInt_toInt x
theorem ag_R {q : QQ} {i j : Int} : R32 (ag q i j) := ⟨Int32.le_toInt _, Int32.toInt_lt _⟩
section
variable {d y pc nx : Nat} {ls : List (Option AV)} {st : List AV} {q q0 : QQ} {V : VV}
theorem k_scr {i j : Int} (hcd : am_cd y pc = i_iald nx) (hq : q.1 = q0.1) (he : 0 ≤ i + j ∧ i + j < (q0.1.1 : Int)) (hn : q0.1.1 < 2147483648) : RUN d y (pc, ls, aI (iI (i + j)) :: aR 0 0 :: st) (HM q V) = RUN d y (nx, ls, aI (iI (ag q0 i j)) :: st) (HM q V) := by
  refine k_ialdK (b := 0) (n := q.1.1) (g := fun j => aI (q.1.2 j)) (v := q.1.2 (i + j).toNat) (ag q0 i j) hcd rfl (by rw [hq]; exact hn) (by rw [hq]; exact he) rfl ?_
  unfold ag
  rw [iI_toInt, hq]
theorem k_laldE {v : Int64} (hcd : am_cd y pc = i_lald nx) (h : q.2.2.1 44 0 0 = v) : RUN d y (pc, ls, aI (iI 0) :: aR 44 0 :: st) (HM q V) = RUN d y (nx, ls, aL v :: st) (HM q V) := by
  subst h
  exact k_lald hcd
end
theorem am_run1_deep {cd : Nat → Nat → Ins} : ∀ (f d y : Nat) (fr : Fr) (h : AH) (r : Out × AH), am_run1 cd f d y fr h = some r → am_run1 cd f (d + 1) y fr h = some r := by
  intro f
  induction f with
  | zero => intro d y fr h r e; cases e
  | succ f ih =>
    intro d y fr h r e
    rw [am_run1] at e ⊢
    by_cases hall : allP (cd y fr.1 fr h).1
    · rw [if_pos hall] at e ⊢
      rcases hq : (cd y fr.1 fr h).2 with q | q | q | q
      · rw [hq] at e
        exact ih _ _ _ _ _ e
      · rw [hq] at e
        dsimp only at e ⊢
        cases d with
        | zero => cases e
        | succ d =>
          cases hok : am_aok q.1 q.2.1 with
          | false => rw [hok] at e; cases e
          | true =>
            rw [hok] at e
            dsimp only at e ⊢
            cases hcal : am_run1 cd f d q.1 (am_en q.1 q.2.1) h with
            | none => rw [hcal] at e; cases e
            | some p =>
              obtain ⟨o', h'⟩ := p
              rw [hcal] at e
              rw [ih _ _ _ _ _ hcal]
              dsimp only at e ⊢
              cases hm : (Nat.ble (hN h) (hN h') && Nat.ble (hL h) (hL h')) with
              | false => rw [hm] at e; cases e
              | true =>
                rw [hm] at e
                dsimp only at e ⊢
                cases o' with
                | inl v => exact ih _ _ _ _ _ e
                | inr j =>
                  dsimp only at e ⊢
                  cases hj : Nat.blt j 6 with
                  | false => rw [hj] at e; cases e
                  | true =>
                    rw [hj] at e
                    cases hh : am_hd (am_hh y) q.2.2.1 j with
                    | none => rw [hh] at e; exact e
                    | some hp =>
                      rw [hh] at e
                      dsimp only at e ⊢
                      cases hf : am_cat y q.2.2 hp with
                      | none => rw [hf] at e; cases e
                      | some fr' => rw [hf] at e; exact ih _ _ _ _ _ e
      · rw [hq] at e; exact e
      · rw [hq] at e; cases e
    · rw [if_neg hall] at e; cases e
theorem RUN_deep {d y : Nat} {fr : Fr} {h : AH} {r : Out × AH} (e : RUN d y fr h = some r) : RUN (d + 1) y fr h = some r := by
  obtain ⟨f, hf⟩ := RUN_iff.mp e
  exact RUN_iff.mpr ⟨f, am_run1_deep _ _ _ _ _ _ hf⟩
theorem cse_0 {D : Nat} {B i : Int} {H : VV} {q : QQ} (h9 : 149 ≤ q.2.1.1) (hi : 0 ≤ i ∧ i + 3 < (q.1.1 : Int)) (hn : q.1.1 < 2147483648) (op : OP B D 56 [aR 1 0, aI (iI (ag q i 1)), aI (iI (ag q i 2))] (cmL [(0, 1)]) 210 [aR 33 0, aI (iI (ag q i 1)), aI (iI (ag q i 2))] H) : Nxt B (D + 2) 280 i q H := by
  intro a b c
  obtain ⟨k, v, U, oc, aft⟩ := op q
  have hk := Oc_k oc
  obtain ⟨q1, u1, u2, e⟩ := wrT_55 oc
  obtain ⟨q2, m, V, s1, s2, s3, s4, s5⟩ := aft q1 (Nat.le_trans h9 u1.1.1)
  have s2 := RUN_deep s2
  refine ⟨q2, V, sI k, sI m, c, qu2_of u1 s1, s5, Eq.trans (Eq.trans (k_aload rfl rfl) (Eq.trans (k_aload rfl rfl) (Eq.trans (k_iload rfl rfl) (Eq.trans (k_pushi 1 rfl rfl) (Eq.trans (k_bin rfl (iI_add _ _)) (Eq.trans (k_scr rfl rfl (by omega) hn) (Eq.trans (k_aload rfl rfl) (Eq.trans (k_iload rfl rfl) (Eq.trans (k_pushi 2 rfl rfl) (Eq.trans (k_bin rfl (iI_add _ _)) (Eq.trans (k_scr rfl rfl (by omega) hn) (Eq.trans (k_aload rfl rfl) (Eq.trans (RUN_ci rfl rfl rfl e u1.1) (k_store rfl)))))))))))))) (Eq.trans (Eq.trans (k_aload rfl rfl) (Eq.trans (k_aload rfl rfl) (Eq.trans (k_iload rfl rfl) (Eq.trans (k_pushi 1 rfl rfl) (Eq.trans (k_bin rfl (iI_add _ _)) (Eq.trans (k_scr rfl u1.2.2 (by omega) hn) (Eq.trans (k_aload rfl rfl) (Eq.trans (k_iload rfl rfl) (Eq.trans (k_pushi 2 rfl rfl) (Eq.trans (k_bin rfl (iI_add _ _)) (Eq.trans (k_scr rfl u1.2.2 (by omega) hn) (Eq.trans (RUN_ci rfl rfl rfl s2 s1.1) (Eq.trans (k_store rfl) (Eq.trans (k_aload rfl rfl) (Eq.trans (RUN_ci rfl rfl rfl e_209 (qle_refl _)) (Eq.trans (k_iload rfl rfl) (Eq.trans (Eq.trans (k_icmpc (V 33 0 6 = k) rfl (iI_eq (by rw [s3]; constructor <;> omega) (by constructor <;> omega))) (cif_pos s3)) (Eq.trans (k_iload rfl rfl) (k_ifcN (k = 0) rfl (iI_ne0 (by constructor <;> omega))))))))))))))))))))) (cif_eq (fun z => ?_) (fun z => ?_)))⟩
  · 
    have eo : q2.2.2.1 44 0 0 = i2L m := by rw [s1.2.2.2, u2 z, s4 z]
    exact (Eq.trans (k_aload rfl rfl) (Eq.trans (k_pushi 0 rfl rfl) (Eq.trans (k_laldE rfl eo) (Eq.trans (k_iload rfl rfl) (Eq.trans (k_i2l rfl) (Eq.trans (k_lcmpE rfl) (Eq.trans (Eq.trans (k_ifc ((0 : Int) = 0) rfl (iI_eq0 (show R32 (0 : Int) by decide))) (cif_pos rfl)) (k_goto rfl))))))))
  · exact k_goto rfl
theorem cse_1 {D : Nat} {B i : Int} {H : VV} {q : QQ} (h9 : 149 ≤ q.2.1.1) (hi : 0 ≤ i ∧ i + 3 < (q.1.1 : Int)) (hn : q.1.1 < 2147483648) (op : OP B D 61 [aR 1 0, aI (iI (ag q i 1)), aI (iI (ag q i 2)), aI (iI (ag q i 3))] (cmL [(0, 1), (1, 2)]) 217 [aR 33 0, aI (iI (ag q i 1)), aI (iI (ag q i 2)), aI (iI (ag q i 3))] H) : Nxt B (D + 2) 348 i q H := by
  intro a b c
  obtain ⟨k, v, U, oc, aft⟩ := op q
  have hk := Oc_k oc
  obtain ⟨q1, u1, u2, e⟩ := wrT_60 oc
  obtain ⟨q2, m, V, s1, s2, s3, s4, s5⟩ := aft q1 (Nat.le_trans h9 u1.1.1)
  have s2 := RUN_deep s2
  refine ⟨q2, V, sI k, sI m, c, qu2_of u1 s1, s5, Eq.trans (Eq.trans (k_aload rfl rfl) (Eq.trans (k_aload rfl rfl) (Eq.trans (k_iload rfl rfl) (Eq.trans (k_pushi 1 rfl rfl) (Eq.trans (k_bin rfl (iI_add _ _)) (Eq.trans (k_scr rfl rfl (by omega) hn) (Eq.trans (k_aload rfl rfl) (Eq.trans (k_iload rfl rfl) (Eq.trans (k_pushi 2 rfl rfl) (Eq.trans (k_bin rfl (iI_add _ _)) (Eq.trans (k_scr rfl rfl (by omega) hn) (Eq.trans (k_aload rfl rfl) (Eq.trans (k_iload rfl rfl) (Eq.trans (k_pushi 3 rfl rfl) (Eq.trans (k_bin rfl (iI_add _ _)) (Eq.trans (k_scr rfl rfl (by omega) hn) (Eq.trans (k_aload rfl rfl) (Eq.trans (RUN_ci rfl rfl rfl e u1.1) (k_store rfl))))))))))))))))))) (Eq.trans (Eq.trans (k_aload rfl rfl) (Eq.trans (k_aload rfl rfl) (Eq.trans (k_iload rfl rfl) (Eq.trans (k_pushi 1 rfl rfl) (Eq.trans (k_bin rfl (iI_add _ _)) (Eq.trans (k_scr rfl u1.2.2 (by omega) hn) (Eq.trans (k_aload rfl rfl) (Eq.trans (k_iload rfl rfl) (Eq.trans (k_pushi 2 rfl rfl) (Eq.trans (k_bin rfl (iI_add _ _)) (Eq.trans (k_scr rfl u1.2.2 (by omega) hn) (Eq.trans (k_aload rfl rfl) (Eq.trans (k_iload rfl rfl) (Eq.trans (k_pushi 3 rfl rfl) (Eq.trans (k_bin rfl (iI_add _ _)) (Eq.trans (k_scr rfl u1.2.2 (by omega) hn) (Eq.trans (RUN_ci rfl rfl rfl s2 s1.1) (Eq.trans (k_store rfl) (Eq.trans (k_aload rfl rfl) (Eq.trans (RUN_ci rfl rfl rfl e_209 (qle_refl _)) (Eq.trans (k_iload rfl rfl) (Eq.trans (Eq.trans (k_icmpc (V 33 0 6 = k) rfl (iI_eq (by rw [s3]; constructor <;> omega) (by constructor <;> omega))) (cif_pos s3)) (Eq.trans (k_iload rfl rfl) (k_ifcN (k = 0) rfl (iI_ne0 (by constructor <;> omega)))))))))))))))))))))))))) (cif_eq (fun z => ?_) (fun z => ?_)))⟩
  · 
    have eo : q2.2.2.1 44 0 0 = i2L m := by rw [s1.2.2.2, u2 z, s4 z]
    exact (Eq.trans (k_aload rfl rfl) (Eq.trans (k_pushi 0 rfl rfl) (Eq.trans (k_laldE rfl eo) (Eq.trans (k_iload rfl rfl) (Eq.trans (k_i2l rfl) (Eq.trans (k_lcmpE rfl) (Eq.trans (Eq.trans (k_ifc ((0 : Int) = 0) rfl (iI_eq0 (show R32 (0 : Int) by decide))) (cif_pos rfl)) (k_goto rfl))))))))
  · exact k_goto rfl
theorem cse_2 {D : Nat} {B i : Int} {H : VV} {q : QQ} (h9 : 149 ≤ q.2.1.1) (hi : 0 ≤ i ∧ i + 3 < (q.1.1 : Int)) (hn : q.1.1 < 2147483648) (op : OP B D 68 [aR 1 0, aI (iI (ag q i 1)), aI (iI (ag q i 2))] (cmL [(2, 1), (0, 2)]) 222 [aR 33 0, aI (iI (ag q i 1)), aI (iI (ag q i 2))] H) : Nxt B (D + 2) 428 i q H := by
  intro a b c
  obtain ⟨k, v, U, oc, aft⟩ := op q
  have hk := Oc_k oc
  obtain ⟨q1, u1, u2, e⟩ := wrT_67 oc
  obtain ⟨q2, m, V, s1, s2, s3, s4, s5⟩ := aft q1 (Nat.le_trans h9 u1.1.1)
  have s2 := RUN_deep s2
  refine ⟨q2, V, sI k, sI m, c, qu2_of u1 s1, s5, Eq.trans (Eq.trans (k_aload rfl rfl) (Eq.trans (k_aload rfl rfl) (Eq.trans (k_iload rfl rfl) (Eq.trans (k_pushi 1 rfl rfl) (Eq.trans (k_bin rfl (iI_add _ _)) (Eq.trans (k_scr rfl rfl (by omega) hn) (Eq.trans (k_aload rfl rfl) (Eq.trans (k_iload rfl rfl) (Eq.trans (k_pushi 2 rfl rfl) (Eq.trans (k_bin rfl (iI_add _ _)) (Eq.trans (k_scr rfl rfl (by omega) hn) (Eq.trans (k_aload rfl rfl) (Eq.trans (RUN_ci rfl rfl rfl e u1.1) (k_store rfl)))))))))))))) (Eq.trans (Eq.trans (k_aload rfl rfl) (Eq.trans (k_aload rfl rfl) (Eq.trans (k_iload rfl rfl) (Eq.trans (k_pushi 1 rfl rfl) (Eq.trans (k_bin rfl (iI_add _ _)) (Eq.trans (k_scr rfl u1.2.2 (by omega) hn) (Eq.trans (k_aload rfl rfl) (Eq.trans (k_iload rfl rfl) (Eq.trans (k_pushi 2 rfl rfl) (Eq.trans (k_bin rfl (iI_add _ _)) (Eq.trans (k_scr rfl u1.2.2 (by omega) hn) (Eq.trans (RUN_ci rfl rfl rfl s2 s1.1) (Eq.trans (k_store rfl) (Eq.trans (k_aload rfl rfl) (Eq.trans (RUN_ci rfl rfl rfl e_209 (qle_refl _)) (Eq.trans (k_iload rfl rfl) (Eq.trans (Eq.trans (k_icmpc (V 33 0 6 = k) rfl (iI_eq (by rw [s3]; constructor <;> omega) (by constructor <;> omega))) (cif_pos s3)) (Eq.trans (k_iload rfl rfl) (k_ifcN (k = 0) rfl (iI_ne0 (by constructor <;> omega))))))))))))))))))))) (cif_eq (fun z => ?_) (fun z => ?_)))⟩
  · 
    have eo : q2.2.2.1 44 0 0 = i2L m := by rw [s1.2.2.2, u2 z, s4 z]
    exact (Eq.trans (k_aload rfl rfl) (Eq.trans (k_pushi 0 rfl rfl) (Eq.trans (k_laldE rfl eo) (Eq.trans (k_iload rfl rfl) (Eq.trans (k_i2l rfl) (Eq.trans (k_lcmpE rfl) (Eq.trans (Eq.trans (k_ifc ((0 : Int) = 0) rfl (iI_eq0 (show R32 (0 : Int) by decide))) (cif_pos rfl)) (k_goto rfl))))))))
  · exact k_goto rfl
theorem cse_3 {D : Nat} {B i : Int} {H : VV} {q : QQ} (h9 : 149 ≤ q.2.1.1) (hi : 0 ≤ i ∧ i + 3 < (q.1.1 : Int)) (hn : q.1.1 < 2147483648) (op : OP B D 72 [aR 1 0, aI (iI (ag q i 1))] (cmL [(0, 1)]) 225 [aR 33 0, aI (iI (ag q i 1))] H) : Nxt B (D + 2) 496 i q H := by
  intro a b c
  obtain ⟨k, v, U, oc, aft⟩ := op q
  have hk := Oc_k oc
  obtain ⟨q1, u1, u2, e⟩ := wrT_71 oc
  obtain ⟨q2, m, V, s1, s2, s3, s4, s5⟩ := aft q1 (Nat.le_trans h9 u1.1.1)
  have s2 := RUN_deep s2
  refine ⟨q2, V, sI k, sI m, c, qu2_of u1 s1, s5, Eq.trans (Eq.trans (k_aload rfl rfl) (Eq.trans (k_aload rfl rfl) (Eq.trans (k_iload rfl rfl) (Eq.trans (k_pushi 1 rfl rfl) (Eq.trans (k_bin rfl (iI_add _ _)) (Eq.trans (k_scr rfl rfl (by omega) hn) (Eq.trans (k_aload rfl rfl) (Eq.trans (RUN_ci rfl rfl rfl e u1.1) (k_store rfl))))))))) (Eq.trans (Eq.trans (k_aload rfl rfl) (Eq.trans (k_aload rfl rfl) (Eq.trans (k_iload rfl rfl) (Eq.trans (k_pushi 1 rfl rfl) (Eq.trans (k_bin rfl (iI_add _ _)) (Eq.trans (k_scr rfl u1.2.2 (by omega) hn) (Eq.trans (RUN_ci rfl rfl rfl s2 s1.1) (Eq.trans (k_store rfl) (Eq.trans (k_aload rfl rfl) (Eq.trans (RUN_ci rfl rfl rfl e_209 (qle_refl _)) (Eq.trans (k_iload rfl rfl) (Eq.trans (Eq.trans (k_icmpc (V 33 0 6 = k) rfl (iI_eq (by rw [s3]; constructor <;> omega) (by constructor <;> omega))) (cif_pos s3)) (Eq.trans (k_iload rfl rfl) (k_ifcN (k = 0) rfl (iI_ne0 (by constructor <;> omega)))))))))))))))) (cif_eq (fun z => ?_) (fun z => ?_)))⟩
  · 
    have eo : q2.2.2.1 44 0 0 = i2L m := by rw [s1.2.2.2, u2 z, s4 z]
    exact (Eq.trans (k_aload rfl rfl) (Eq.trans (k_pushi 0 rfl rfl) (Eq.trans (k_laldE rfl eo) (Eq.trans (k_iload rfl rfl) (Eq.trans (k_i2l rfl) (Eq.trans (k_lcmpE rfl) (Eq.trans (Eq.trans (k_ifc ((0 : Int) = 0) rfl (iI_eq0 (show R32 (0 : Int) by decide))) (cif_pos rfl)) (k_goto rfl))))))))
  · exact k_goto rfl
theorem cse_4 {D : Nat} {B i : Int} {H : VV} {q : QQ} (h9 : 149 ≤ q.2.1.1) (op : OP B D 12 [aR 1 0] (cmL []) 227 [aR 33 0] H) : Nxt B (D + 1) 552 i q H := by
  intro a b c
  obtain ⟨k, v, U, oc, aft⟩ := op q
  obtain ⟨rfl, e⟩ := Oc_nil oc
  obtain ⟨q2, m, V, s1, s2, s3, s4, s5⟩ := aft q h9
  have s4 := s4 rfl
  subst s4
  refine ⟨q2, V, a, b, c, qu2_st s1, s5, (Eq.trans (k_aload rfl rfl) (Eq.trans (RUN_ci rfl rfl rfl e (qle_refl q)) (Eq.trans (k_aload rfl rfl) (Eq.trans (RUN_ci rfl rfl rfl s2 s1.1) ((k_icmpc (iI m = iI m) rfl Iff.rfl).trans (cif_pos rfl))))))⟩
theorem cse_5 {D : Nat} {B i : Int} {H : VV} {q : QQ} (h9 : 149 ≤ q.2.1.1) (hi : 0 ≤ i ∧ i + 3 < (q.1.1 : Int)) (hn : q.1.1 < 2147483648) (op : OP B D 75 [aR 1 0, aI (iI (ag q i 1))] (cmL [(2, 1)]) 228 [aR 33 0, aI (iI (ag q i 1))] H) : Nxt B (D + 2) 565 i q H := by
  intro a b c
  obtain ⟨k, v, U, oc, aft⟩ := op q
  have hk := Oc_k oc
  obtain ⟨q1, u1, u2, e⟩ := wrT_74 oc
  obtain ⟨q2, m, V, s1, s2, s3, s4, s5⟩ := aft q1 (Nat.le_trans h9 u1.1.1)
  have s2 := RUN_deep s2
  refine ⟨q2, V, sI k, sI m, c, qu2_of u1 s1, s5, Eq.trans (Eq.trans (k_aload rfl rfl) (Eq.trans (k_aload rfl rfl) (Eq.trans (k_iload rfl rfl) (Eq.trans (k_pushi 1 rfl rfl) (Eq.trans (k_bin rfl (iI_add _ _)) (Eq.trans (k_scr rfl rfl (by omega) hn) (Eq.trans (k_aload rfl rfl) (Eq.trans (RUN_ci rfl rfl rfl e u1.1) (k_store rfl))))))))) (Eq.trans (Eq.trans (k_aload rfl rfl) (Eq.trans (k_aload rfl rfl) (Eq.trans (k_iload rfl rfl) (Eq.trans (k_pushi 1 rfl rfl) (Eq.trans (k_bin rfl (iI_add _ _)) (Eq.trans (k_scr rfl u1.2.2 (by omega) hn) (Eq.trans (RUN_ci rfl rfl rfl s2 s1.1) (Eq.trans (k_store rfl) (Eq.trans (k_aload rfl rfl) (Eq.trans (RUN_ci rfl rfl rfl e_209 (qle_refl _)) (Eq.trans (k_iload rfl rfl) (Eq.trans (Eq.trans (k_icmpc (V 33 0 6 = k) rfl (iI_eq (by rw [s3]; constructor <;> omega) (by constructor <;> omega))) (cif_pos s3)) (Eq.trans (k_iload rfl rfl) (k_ifcN (k = 0) rfl (iI_ne0 (by constructor <;> omega)))))))))))))))) (cif_eq (fun z => ?_) (fun z => ?_)))⟩
  · 
    have eo : q2.2.2.1 44 0 0 = i2L m := by rw [s1.2.2.2, u2 z, s4 z]
    exact (Eq.trans (k_aload rfl rfl) (Eq.trans (k_pushi 0 rfl rfl) (Eq.trans (k_laldE rfl eo) (Eq.trans (k_iload rfl rfl) (Eq.trans (k_i2l rfl) (Eq.trans (k_lcmpE rfl) (Eq.trans (Eq.trans (k_ifc ((0 : Int) = 0) rfl (iI_eq0 (show R32 (0 : Int) by decide))) (cif_pos rfl)) (k_goto rfl))))))))
  · exact k_goto rfl
theorem cse_6 {D : Nat} {B i : Int} {H : VV} {q : QQ} (h9 : 149 ≤ q.2.1.1) (hi : 0 ≤ i ∧ i + 3 < (q.1.1 : Int)) (hn : q.1.1 < 2147483648) (op : OP B D 77 [aR 1 0, aI (iI (ag q i 1))] (cmL [(2, 1)]) 230 [aR 33 0, aI (iI (ag q i 1))] H) : Nxt B (D + 2) 621 i q H := by
  intro a b c
  obtain ⟨k, v, U, oc, aft⟩ := op q
  have hk := Oc_k oc
  obtain ⟨q1, u1, u2, e⟩ := wrT_76 oc
  obtain ⟨q2, m, V, s1, s2, s3, s4, s5⟩ := aft q1 (Nat.le_trans h9 u1.1.1)
  have s2 := RUN_deep s2
  refine ⟨q2, V, sI k, sI m, c, qu2_of u1 s1, s5, Eq.trans (Eq.trans (k_aload rfl rfl) (Eq.trans (k_aload rfl rfl) (Eq.trans (k_iload rfl rfl) (Eq.trans (k_pushi 1 rfl rfl) (Eq.trans (k_bin rfl (iI_add _ _)) (Eq.trans (k_scr rfl rfl (by omega) hn) (Eq.trans (k_aload rfl rfl) (Eq.trans (RUN_ci rfl rfl rfl e u1.1) (k_store rfl))))))))) (Eq.trans (Eq.trans (k_aload rfl rfl) (Eq.trans (k_aload rfl rfl) (Eq.trans (k_iload rfl rfl) (Eq.trans (k_pushi 1 rfl rfl) (Eq.trans (k_bin rfl (iI_add _ _)) (Eq.trans (k_scr rfl u1.2.2 (by omega) hn) (Eq.trans (RUN_ci rfl rfl rfl s2 s1.1) (Eq.trans (k_store rfl) (Eq.trans (k_aload rfl rfl) (Eq.trans (RUN_ci rfl rfl rfl e_209 (qle_refl _)) (Eq.trans (k_iload rfl rfl) (Eq.trans (Eq.trans (k_icmpc (V 33 0 6 = k) rfl (iI_eq (by rw [s3]; constructor <;> omega) (by constructor <;> omega))) (cif_pos s3)) (Eq.trans (k_iload rfl rfl) (k_ifcN (k = 0) rfl (iI_ne0 (by constructor <;> omega)))))))))))))))) (cif_eq (fun z => ?_) (fun z => ?_)))⟩
  · 
    have eo : q2.2.2.1 44 0 0 = i2L m := by rw [s1.2.2.2, u2 z, s4 z]
    exact (Eq.trans (k_aload rfl rfl) (Eq.trans (k_pushi 0 rfl rfl) (Eq.trans (k_laldE rfl eo) (Eq.trans (k_iload rfl rfl) (Eq.trans (k_i2l rfl) (Eq.trans (k_lcmpE rfl) (Eq.trans (Eq.trans (k_ifc ((0 : Int) = 0) rfl (iI_eq0 (show R32 (0 : Int) by decide))) (cif_pos rfl)) (k_goto rfl))))))))
  · exact k_goto rfl
theorem cse_7 {D : Nat} {B i : Int} {H : VV} {q : QQ} (h9 : 149 ≤ q.2.1.1) (hi : 0 ≤ i ∧ i + 3 < (q.1.1 : Int)) (hn : q.1.1 < 2147483648) (op : OP B D 79 [aR 1 0, aI (iI (ag q i 1))] (cmL [(2, 1)]) 232 [aR 33 0, aI (iI (ag q i 1))] H) : Nxt B (D + 2) 677 i q H := by
  intro a b c
  obtain ⟨k, v, U, oc, aft⟩ := op q
  have hk := Oc_k oc
  obtain ⟨q1, u1, u2, e⟩ := wrT_78 oc
  obtain ⟨q2, m, V, s1, s2, s3, s4, s5⟩ := aft q1 (Nat.le_trans h9 u1.1.1)
  have s2 := RUN_deep s2
  refine ⟨q2, V, sI k, sI m, c, qu2_of u1 s1, s5, Eq.trans (Eq.trans (k_aload rfl rfl) (Eq.trans (k_aload rfl rfl) (Eq.trans (k_iload rfl rfl) (Eq.trans (k_pushi 1 rfl rfl) (Eq.trans (k_bin rfl (iI_add _ _)) (Eq.trans (k_scr rfl rfl (by omega) hn) (Eq.trans (k_aload rfl rfl) (Eq.trans (RUN_ci rfl rfl rfl e u1.1) (k_store rfl))))))))) (Eq.trans (Eq.trans (k_aload rfl rfl) (Eq.trans (k_aload rfl rfl) (Eq.trans (k_iload rfl rfl) (Eq.trans (k_pushi 1 rfl rfl) (Eq.trans (k_bin rfl (iI_add _ _)) (Eq.trans (k_scr rfl u1.2.2 (by omega) hn) (Eq.trans (RUN_ci rfl rfl rfl s2 s1.1) (Eq.trans (k_store rfl) (Eq.trans (k_aload rfl rfl) (Eq.trans (RUN_ci rfl rfl rfl e_209 (qle_refl _)) (Eq.trans (k_iload rfl rfl) (Eq.trans (Eq.trans (k_icmpc (V 33 0 6 = k) rfl (iI_eq (by rw [s3]; constructor <;> omega) (by constructor <;> omega))) (cif_pos s3)) (Eq.trans (k_iload rfl rfl) (k_ifcN (k = 0) rfl (iI_ne0 (by constructor <;> omega)))))))))))))))) (cif_eq (fun z => ?_) (fun z => ?_)))⟩
  · 
    have eo : q2.2.2.1 44 0 0 = i2L m := by rw [s1.2.2.2, u2 z, s4 z]
    exact (Eq.trans (k_aload rfl rfl) (Eq.trans (k_pushi 0 rfl rfl) (Eq.trans (k_laldE rfl eo) (Eq.trans (k_iload rfl rfl) (Eq.trans (k_i2l rfl) (Eq.trans (k_lcmpE rfl) (Eq.trans (Eq.trans (k_ifc ((0 : Int) = 0) rfl (iI_eq0 (show R32 (0 : Int) by decide))) (cif_pos rfl)) (k_goto rfl))))))))
  · exact k_goto rfl
theorem cse_8 {D : Nat} {B i : Int} {H : VV} {q : QQ} (h9 : 149 ≤ q.2.1.1) (hi : 0 ≤ i ∧ i + 3 < (q.1.1 : Int)) (hn : q.1.1 < 2147483648) (op : OP B D 81 [aR 1 0, aI (iI (ag q i 1))] (cmL [(0, 1), (3, 2)]) 233 [aR 33 0, aI (iI (ag q i 1))] H) : Nxt B (D + 2) 733 i q H := by
  intro a b c
  obtain ⟨k, v, U, oc, aft⟩ := op q
  have hk := Oc_k oc
  obtain ⟨q1, u1, u2, e⟩ := wrT_80 oc
  obtain ⟨q2, m, V, s1, s2, s3, s4, s5⟩ := aft q1 (Nat.le_trans h9 u1.1.1)
  have s2 := RUN_deep s2
  refine ⟨q2, V, sI k, sI m, c, qu2_of u1 s1, s5, Eq.trans (Eq.trans (k_aload rfl rfl) (Eq.trans (k_aload rfl rfl) (Eq.trans (k_iload rfl rfl) (Eq.trans (k_pushi 1 rfl rfl) (Eq.trans (k_bin rfl (iI_add _ _)) (Eq.trans (k_scr rfl rfl (by omega) hn) (Eq.trans (k_aload rfl rfl) (Eq.trans (RUN_ci rfl rfl rfl e u1.1) (k_store rfl))))))))) (Eq.trans (Eq.trans (k_aload rfl rfl) (Eq.trans (k_aload rfl rfl) (Eq.trans (k_iload rfl rfl) (Eq.trans (k_pushi 1 rfl rfl) (Eq.trans (k_bin rfl (iI_add _ _)) (Eq.trans (k_scr rfl u1.2.2 (by omega) hn) (Eq.trans (RUN_ci rfl rfl rfl s2 s1.1) (Eq.trans (k_store rfl) (Eq.trans (k_aload rfl rfl) (Eq.trans (RUN_ci rfl rfl rfl e_209 (qle_refl _)) (Eq.trans (k_iload rfl rfl) (Eq.trans (Eq.trans (k_icmpc (V 33 0 6 = k) rfl (iI_eq (by rw [s3]; constructor <;> omega) (by constructor <;> omega))) (cif_pos s3)) (Eq.trans (k_iload rfl rfl) (k_ifcN (k = 0) rfl (iI_ne0 (by constructor <;> omega)))))))))))))))) (cif_eq (fun z => ?_) (fun z => ?_)))⟩
  · 
    have eo : q2.2.2.1 44 0 0 = i2L m := by rw [s1.2.2.2, u2 z, s4 z]
    exact (Eq.trans (k_aload rfl rfl) (Eq.trans (k_pushi 0 rfl rfl) (Eq.trans (k_laldE rfl eo) (Eq.trans (k_iload rfl rfl) (Eq.trans (k_i2l rfl) (Eq.trans (k_lcmpE rfl) (Eq.trans (Eq.trans (k_ifc ((0 : Int) = 0) rfl (iI_eq0 (show R32 (0 : Int) by decide))) (cif_pos rfl)) (k_goto rfl))))))))
  · exact k_goto rfl
theorem cse_9 {D : Nat} {B i : Int} {H : VV} {q : QQ} (h9 : 149 ≤ q.2.1.1) (hi : 0 ≤ i ∧ i + 3 < (q.1.1 : Int)) (hn : q.1.1 < 2147483648) (op : OP B D 83 [aR 1 0, aI (iI (ag q i 1))] (cmL [(3, 1)]) 234 [aR 33 0, aI (iI (ag q i 1))] H) : Nxt B (D + 2) 789 i q H := by
  intro a b c
  obtain ⟨k, v, U, oc, aft⟩ := op q
  have hk := Oc_k oc
  obtain ⟨q1, u1, u2, e⟩ := wrT_82 oc
  obtain ⟨q2, m, V, s1, s2, s3, s4, s5⟩ := aft q1 (Nat.le_trans h9 u1.1.1)
  have s2 := RUN_deep s2
  refine ⟨q2, V, sI k, sI m, c, qu2_of u1 s1, s5, Eq.trans (Eq.trans (k_aload rfl rfl) (Eq.trans (k_aload rfl rfl) (Eq.trans (k_iload rfl rfl) (Eq.trans (k_pushi 1 rfl rfl) (Eq.trans (k_bin rfl (iI_add _ _)) (Eq.trans (k_scr rfl rfl (by omega) hn) (Eq.trans (k_aload rfl rfl) (Eq.trans (RUN_ci rfl rfl rfl e u1.1) (k_store rfl))))))))) (Eq.trans (Eq.trans (k_aload rfl rfl) (Eq.trans (k_aload rfl rfl) (Eq.trans (k_iload rfl rfl) (Eq.trans (k_pushi 1 rfl rfl) (Eq.trans (k_bin rfl (iI_add _ _)) (Eq.trans (k_scr rfl u1.2.2 (by omega) hn) (Eq.trans (RUN_ci rfl rfl rfl s2 s1.1) (Eq.trans (k_store rfl) (Eq.trans (k_aload rfl rfl) (Eq.trans (RUN_ci rfl rfl rfl e_209 (qle_refl _)) (Eq.trans (k_iload rfl rfl) (Eq.trans (Eq.trans (k_icmpc (V 33 0 6 = k) rfl (iI_eq (by rw [s3]; constructor <;> omega) (by constructor <;> omega))) (cif_pos s3)) (Eq.trans (k_iload rfl rfl) (k_ifcN (k = 0) rfl (iI_ne0 (by constructor <;> omega)))))))))))))))) (cif_eq (fun z => ?_) (fun z => ?_)))⟩
  · 
    have eo : q2.2.2.1 44 0 0 = i2L m := by rw [s1.2.2.2, u2 z, s4 z]
    exact (Eq.trans (k_aload rfl rfl) (Eq.trans (k_pushi 0 rfl rfl) (Eq.trans (k_laldE rfl eo) (Eq.trans (k_iload rfl rfl) (Eq.trans (k_i2l rfl) (Eq.trans (k_lcmpE rfl) (Eq.trans (Eq.trans (k_ifc ((0 : Int) = 0) rfl (iI_eq0 (show R32 (0 : Int) by decide))) (cif_pos rfl)) (k_goto rfl))))))))
  · exact k_goto rfl
theorem cse_10 {D : Nat} {B i : Int} {H : VV} {q : QQ} (h9 : 149 ≤ q.2.1.1) (hi : 0 ≤ i ∧ i + 3 < (q.1.1 : Int)) (hn : q.1.1 < 2147483648) (op : OP B D 87 [aR 1 0, aI (iI (ag q i 1)), aI (iI (ag q i 2))] (cmL [(2, 1)]) 235 [aR 33 0, aI (iI (ag q i 1)), aI (iI (ag q i 2))] H) : Nxt B (D + 2) 845 i q H := by
  intro a b c
  obtain ⟨k, v, U, oc, aft⟩ := op q
  have hk := Oc_k oc
  obtain ⟨q1, u1, u2, e⟩ := wrT_86 oc
  obtain ⟨q2, m, V, s1, s2, s3, s4, s5⟩ := aft q1 (Nat.le_trans h9 u1.1.1)
  have s2 := RUN_deep s2
  refine ⟨q2, V, sI k, sI m, c, qu2_of u1 s1, s5, Eq.trans (Eq.trans (k_aload rfl rfl) (Eq.trans (k_aload rfl rfl) (Eq.trans (k_iload rfl rfl) (Eq.trans (k_pushi 1 rfl rfl) (Eq.trans (k_bin rfl (iI_add _ _)) (Eq.trans (k_scr rfl rfl (by omega) hn) (Eq.trans (k_aload rfl rfl) (Eq.trans (k_iload rfl rfl) (Eq.trans (k_pushi 2 rfl rfl) (Eq.trans (k_bin rfl (iI_add _ _)) (Eq.trans (k_scr rfl rfl (by omega) hn) (Eq.trans (k_aload rfl rfl) (Eq.trans (RUN_ci rfl rfl rfl e u1.1) (k_store rfl)))))))))))))) (Eq.trans (Eq.trans (k_aload rfl rfl) (Eq.trans (k_aload rfl rfl) (Eq.trans (k_iload rfl rfl) (Eq.trans (k_pushi 1 rfl rfl) (Eq.trans (k_bin rfl (iI_add _ _)) (Eq.trans (k_scr rfl u1.2.2 (by omega) hn) (Eq.trans (k_aload rfl rfl) (Eq.trans (k_iload rfl rfl) (Eq.trans (k_pushi 2 rfl rfl) (Eq.trans (k_bin rfl (iI_add _ _)) (Eq.trans (k_scr rfl u1.2.2 (by omega) hn) (Eq.trans (RUN_ci rfl rfl rfl s2 s1.1) (Eq.trans (k_store rfl) (Eq.trans (k_aload rfl rfl) (Eq.trans (RUN_ci rfl rfl rfl e_209 (qle_refl _)) (Eq.trans (k_iload rfl rfl) (Eq.trans (Eq.trans (k_icmpc (V 33 0 6 = k) rfl (iI_eq (by rw [s3]; constructor <;> omega) (by constructor <;> omega))) (cif_pos s3)) (Eq.trans (k_iload rfl rfl) (k_ifcN (k = 0) rfl (iI_ne0 (by constructor <;> omega))))))))))))))))))))) (cif_eq (fun z => ?_) (fun z => ?_)))⟩
  · 
    have eo : q2.2.2.1 44 0 0 = cif (iI m = 0) 0 1 := by rw [s1.2.2.2, u2 z, s4 z]
    by_cases y : iI m = 0
    · rw [cif_pos y] at eo
      exact (Eq.trans (k_aload rfl rfl) (Eq.trans (k_pushi 0 rfl rfl) (Eq.trans (k_laldE rfl eo) (Eq.trans (k_iload rfl rfl) (Eq.trans (Eq.trans (k_ifc (iI m = 0) rfl Iff.rfl) (cif_pos y)) (Eq.trans (k_push rfl) (Eq.trans (k_lcmpE rfl) (Eq.trans (Eq.trans (k_ifc ((0 : Int) = 0) rfl (iI_eq0 (show R32 (0 : Int) by decide))) (cif_pos rfl)) (k_goto rfl)))))))))
    · rw [cif_neg y] at eo
      exact (Eq.trans (k_aload rfl rfl) (Eq.trans (k_pushi 0 rfl rfl) (Eq.trans (k_laldE rfl eo) (Eq.trans (k_iload rfl rfl) (Eq.trans (Eq.trans (k_ifc (iI m = 0) rfl Iff.rfl) (cif_neg y)) (Eq.trans (k_push rfl) (Eq.trans (k_goto rfl) (Eq.trans (k_lcmpE rfl) (Eq.trans (Eq.trans (k_ifc ((0 : Int) = 0) rfl (iI_eq0 (show R32 (0 : Int) by decide))) (cif_pos rfl)) (k_goto rfl))))))))))
  · exact k_goto rfl
theorem cse_11 {D : Nat} {B i : Int} {H : VV} {q : QQ} (h9 : 149 ≤ q.2.1.1) (hi : 0 ≤ i ∧ i + 3 < (q.1.1 : Int)) (hn : q.1.1 < 2147483648) (op : OP B D 90 [aR 1 0, aI (iI (ag q i 1)), aI (iI (ag q i 2))] (cmL [(2, 1)]) 239 [aR 33 0, aI (iI (ag q i 1)), aI (iI (ag q i 2))] H) : Nxt B (D + 2) 920 i q H := by
  intro a b c
  obtain ⟨k, v, U, oc, aft⟩ := op q
  have hk := Oc_k oc
  obtain ⟨q1, u1, u2, e⟩ := wrT_89 oc
  obtain ⟨q2, m, V, s1, s2, s3, s4, s5⟩ := aft q1 (Nat.le_trans h9 u1.1.1)
  have s2 := RUN_deep s2
  refine ⟨q2, V, sI k, sI m, c, qu2_of u1 s1, s5, Eq.trans (Eq.trans (k_aload rfl rfl) (Eq.trans (k_aload rfl rfl) (Eq.trans (k_iload rfl rfl) (Eq.trans (k_pushi 1 rfl rfl) (Eq.trans (k_bin rfl (iI_add _ _)) (Eq.trans (k_scr rfl rfl (by omega) hn) (Eq.trans (k_aload rfl rfl) (Eq.trans (k_iload rfl rfl) (Eq.trans (k_pushi 2 rfl rfl) (Eq.trans (k_bin rfl (iI_add _ _)) (Eq.trans (k_scr rfl rfl (by omega) hn) (Eq.trans (k_aload rfl rfl) (Eq.trans (RUN_ci rfl rfl rfl e u1.1) (k_store rfl)))))))))))))) (Eq.trans (Eq.trans (k_aload rfl rfl) (Eq.trans (k_aload rfl rfl) (Eq.trans (k_iload rfl rfl) (Eq.trans (k_pushi 1 rfl rfl) (Eq.trans (k_bin rfl (iI_add _ _)) (Eq.trans (k_scr rfl u1.2.2 (by omega) hn) (Eq.trans (k_aload rfl rfl) (Eq.trans (k_iload rfl rfl) (Eq.trans (k_pushi 2 rfl rfl) (Eq.trans (k_bin rfl (iI_add _ _)) (Eq.trans (k_scr rfl u1.2.2 (by omega) hn) (Eq.trans (RUN_ci rfl rfl rfl s2 s1.1) (Eq.trans (k_store rfl) (Eq.trans (k_aload rfl rfl) (Eq.trans (RUN_ci rfl rfl rfl e_209 (qle_refl _)) (Eq.trans (k_iload rfl rfl) (Eq.trans (Eq.trans (k_icmpc (V 33 0 6 = k) rfl (iI_eq (by rw [s3]; constructor <;> omega) (by constructor <;> omega))) (cif_pos s3)) (Eq.trans (k_iload rfl rfl) (k_ifcN (k = 0) rfl (iI_ne0 (by constructor <;> omega))))))))))))))))))))) (cif_eq (fun z => ?_) (fun z => ?_)))⟩
  · 
    have eo : q2.2.2.1 44 0 0 = cif (iI m = 0) 0 1 := by rw [s1.2.2.2, u2 z, s4 z]
    by_cases y : iI m = 0
    · rw [cif_pos y] at eo
      exact (Eq.trans (k_aload rfl rfl) (Eq.trans (k_pushi 0 rfl rfl) (Eq.trans (k_laldE rfl eo) (Eq.trans (k_iload rfl rfl) (Eq.trans (Eq.trans (k_ifc (iI m = 0) rfl Iff.rfl) (cif_pos y)) (Eq.trans (k_push rfl) (Eq.trans (k_lcmpE rfl) (Eq.trans (Eq.trans (k_ifc ((0 : Int) = 0) rfl (iI_eq0 (show R32 (0 : Int) by decide))) (cif_pos rfl)) (k_goto rfl)))))))))
    · rw [cif_neg y] at eo
      exact (Eq.trans (k_aload rfl rfl) (Eq.trans (k_pushi 0 rfl rfl) (Eq.trans (k_laldE rfl eo) (Eq.trans (k_iload rfl rfl) (Eq.trans (Eq.trans (k_ifc (iI m = 0) rfl Iff.rfl) (cif_neg y)) (Eq.trans (k_push rfl) (Eq.trans (k_goto rfl) (Eq.trans (k_lcmpE rfl) (Eq.trans (Eq.trans (k_ifc ((0 : Int) = 0) rfl (iI_eq0 (show R32 (0 : Int) by decide))) (cif_pos rfl)) (k_goto rfl))))))))))
  · exact k_goto rfl
theorem cse_12 {D : Nat} {B i : Int} {H : VV} {q : QQ} (h9 : 149 ≤ q.2.1.1) (hi : 0 ≤ i ∧ i + 3 < (q.1.1 : Int)) (hn : q.1.1 < 2147483648) (op : OP B D 92 [aR 1 0, aI (iI (ag q i 1)), aI (iI (ag q i 2))] (cmL [(2, 1), (0, 2)]) 240 [aR 33 0, aI (iI (ag q i 1)), aI (iI (ag q i 2))] H) : Nxt B (D + 2) 995 i q H := by
  intro a b c
  obtain ⟨k, v, U, oc, aft⟩ := op q
  have hk := Oc_k oc
  obtain ⟨q1, u1, u2, e⟩ := wrT_91 oc
  obtain ⟨q2, m, V, s1, s2, s3, s4, s5⟩ := aft q1 (Nat.le_trans h9 u1.1.1)
  have s2 := RUN_deep s2
  refine ⟨q2, V, sI k, sI m, c, qu2_of u1 s1, s5, Eq.trans (Eq.trans (k_aload rfl rfl) (Eq.trans (k_aload rfl rfl) (Eq.trans (k_iload rfl rfl) (Eq.trans (k_pushi 1 rfl rfl) (Eq.trans (k_bin rfl (iI_add _ _)) (Eq.trans (k_scr rfl rfl (by omega) hn) (Eq.trans (k_aload rfl rfl) (Eq.trans (k_iload rfl rfl) (Eq.trans (k_pushi 2 rfl rfl) (Eq.trans (k_bin rfl (iI_add _ _)) (Eq.trans (k_scr rfl rfl (by omega) hn) (Eq.trans (k_aload rfl rfl) (Eq.trans (RUN_ci rfl rfl rfl e u1.1) (k_store rfl)))))))))))))) (Eq.trans (Eq.trans (k_aload rfl rfl) (Eq.trans (k_aload rfl rfl) (Eq.trans (k_iload rfl rfl) (Eq.trans (k_pushi 1 rfl rfl) (Eq.trans (k_bin rfl (iI_add _ _)) (Eq.trans (k_scr rfl u1.2.2 (by omega) hn) (Eq.trans (k_aload rfl rfl) (Eq.trans (k_iload rfl rfl) (Eq.trans (k_pushi 2 rfl rfl) (Eq.trans (k_bin rfl (iI_add _ _)) (Eq.trans (k_scr rfl u1.2.2 (by omega) hn) (Eq.trans (RUN_ci rfl rfl rfl s2 s1.1) (Eq.trans (k_store rfl) (Eq.trans (k_aload rfl rfl) (Eq.trans (RUN_ci rfl rfl rfl e_209 (qle_refl _)) (Eq.trans (k_iload rfl rfl) (Eq.trans (Eq.trans (k_icmpc (V 33 0 6 = k) rfl (iI_eq (by rw [s3]; constructor <;> omega) (by constructor <;> omega))) (cif_pos s3)) (Eq.trans (k_iload rfl rfl) (k_ifcN (k = 0) rfl (iI_ne0 (by constructor <;> omega))))))))))))))))))))) (cif_eq (fun z => ?_) (fun z => ?_)))⟩
  · 
    have eo : q2.2.2.1 44 0 0 = cif (iI m = 0) 0 1 := by rw [s1.2.2.2, u2 z, s4 z]
    by_cases y : iI m = 0
    · rw [cif_pos y] at eo
      exact (Eq.trans (k_aload rfl rfl) (Eq.trans (k_pushi 0 rfl rfl) (Eq.trans (k_laldE rfl eo) (Eq.trans (k_iload rfl rfl) (Eq.trans (Eq.trans (k_ifc (iI m = 0) rfl Iff.rfl) (cif_pos y)) (Eq.trans (k_push rfl) (Eq.trans (k_lcmpE rfl) (Eq.trans (Eq.trans (k_ifc ((0 : Int) = 0) rfl (iI_eq0 (show R32 (0 : Int) by decide))) (cif_pos rfl)) (k_goto rfl)))))))))
    · rw [cif_neg y] at eo
      exact (Eq.trans (k_aload rfl rfl) (Eq.trans (k_pushi 0 rfl rfl) (Eq.trans (k_laldE rfl eo) (Eq.trans (k_iload rfl rfl) (Eq.trans (Eq.trans (k_ifc (iI m = 0) rfl Iff.rfl) (cif_neg y)) (Eq.trans (k_push rfl) (Eq.trans (k_goto rfl) (Eq.trans (k_lcmpE rfl) (Eq.trans (Eq.trans (k_ifc ((0 : Int) = 0) rfl (iI_eq0 (show R32 (0 : Int) by decide))) (cif_pos rfl)) (k_goto rfl))))))))))
  · exact k_goto rfl
theorem cse_13 {D : Nat} {B i : Int} {H : VV} {q : QQ} (h9 : 149 ≤ q.2.1.1) (hi : 0 ≤ i ∧ i + 3 < (q.1.1 : Int)) (hn : q.1.1 < 2147483648) (op : OP B D 94 [aR 1 0, aI (iI (ag q i 1))] (cmL [(2, 1)]) 242 [aR 33 0, aI (iI (ag q i 1))] H) : Nxt B (D + 2) 1070 i q H := by
  intro a b c
  obtain ⟨k, v, U, oc, aft⟩ := op q
  have hk := Oc_k oc
  obtain ⟨q1, u1, u2, e⟩ := wrT_93 oc
  obtain ⟨q2, m, V, s1, s2, s3, s4, s5⟩ := aft q1 (Nat.le_trans h9 u1.1.1)
  have s2 := RUN_deep s2
  refine ⟨q2, V, sI k, sI m, c, qu2_of u1 s1, s5, Eq.trans (Eq.trans (k_aload rfl rfl) (Eq.trans (k_aload rfl rfl) (Eq.trans (k_iload rfl rfl) (Eq.trans (k_pushi 1 rfl rfl) (Eq.trans (k_bin rfl (iI_add _ _)) (Eq.trans (k_scr rfl rfl (by omega) hn) (Eq.trans (k_aload rfl rfl) (Eq.trans (RUN_ci rfl rfl rfl e u1.1) (k_store rfl))))))))) (Eq.trans (Eq.trans (k_aload rfl rfl) (Eq.trans (k_aload rfl rfl) (Eq.trans (k_iload rfl rfl) (Eq.trans (k_pushi 1 rfl rfl) (Eq.trans (k_bin rfl (iI_add _ _)) (Eq.trans (k_scr rfl u1.2.2 (by omega) hn) (Eq.trans (RUN_ci rfl rfl rfl s2 s1.1) (Eq.trans (k_store rfl) (Eq.trans (k_aload rfl rfl) (Eq.trans (RUN_ci rfl rfl rfl e_209 (qle_refl _)) (Eq.trans (k_iload rfl rfl) (Eq.trans (Eq.trans (k_icmpc (V 33 0 6 = k) rfl (iI_eq (by rw [s3]; constructor <;> omega) (by constructor <;> omega))) (cif_pos s3)) (Eq.trans (k_iload rfl rfl) (k_ifcN (k = 0) rfl (iI_ne0 (by constructor <;> omega)))))))))))))))) (cif_eq (fun z => ?_) (fun z => ?_)))⟩
  · 
    have eo : q2.2.2.1 44 0 0 = i2L m := by rw [s1.2.2.2, u2 z, s4 z]
    exact (Eq.trans (k_aload rfl rfl) (Eq.trans (k_pushi 0 rfl rfl) (Eq.trans (k_laldE rfl eo) (Eq.trans (k_iload rfl rfl) (Eq.trans (k_i2l rfl) (Eq.trans (k_lcmpE rfl) (Eq.trans (Eq.trans (k_ifc ((0 : Int) = 0) rfl (iI_eq0 (show R32 (0 : Int) by decide))) (cif_pos rfl)) (k_goto rfl))))))))
  · exact k_goto rfl
theorem cse_14 {D : Nat} {B i : Int} {H : VV} {q : QQ} (h9 : 149 ≤ q.2.1.1) (hi : 0 ≤ i ∧ i + 3 < (q.1.1 : Int)) (hn : q.1.1 < 2147483648) (op : OP B D 96 [aR 1 0, aI (iI (ag q i 1))] (cmL [(0, 1)]) 243 [aR 33 0, aI (iI (ag q i 1))] H) : Nxt B (D + 2) 1126 i q H := by
  intro a b c
  obtain ⟨k, v, U, oc, aft⟩ := op q
  have hk := Oc_k oc
  obtain ⟨q1, u1, u2, e⟩ := wrT_95 oc
  obtain ⟨q2, m, V, s1, s2, s3, s4, s5⟩ := aft q1 (Nat.le_trans h9 u1.1.1)
  have s2 := RUN_deep s2
  refine ⟨q2, V, sI k, sI m, c, qu2_of u1 s1, s5, Eq.trans (Eq.trans (k_aload rfl rfl) (Eq.trans (k_aload rfl rfl) (Eq.trans (k_iload rfl rfl) (Eq.trans (k_pushi 1 rfl rfl) (Eq.trans (k_bin rfl (iI_add _ _)) (Eq.trans (k_scr rfl rfl (by omega) hn) (Eq.trans (k_aload rfl rfl) (Eq.trans (RUN_ci rfl rfl rfl e u1.1) (k_store rfl))))))))) (Eq.trans (Eq.trans (k_aload rfl rfl) (Eq.trans (k_aload rfl rfl) (Eq.trans (k_iload rfl rfl) (Eq.trans (k_pushi 1 rfl rfl) (Eq.trans (k_bin rfl (iI_add _ _)) (Eq.trans (k_scr rfl u1.2.2 (by omega) hn) (Eq.trans (RUN_ci rfl rfl rfl s2 s1.1) (Eq.trans (k_store rfl) (Eq.trans (k_aload rfl rfl) (Eq.trans (RUN_ci rfl rfl rfl e_209 (qle_refl _)) (Eq.trans (k_iload rfl rfl) (Eq.trans (Eq.trans (k_icmpc (V 33 0 6 = k) rfl (iI_eq (by rw [s3]; constructor <;> omega) (by constructor <;> omega))) (cif_pos s3)) (Eq.trans (k_iload rfl rfl) (k_ifcN (k = 0) rfl (iI_ne0 (by constructor <;> omega)))))))))))))))) (cif_eq (fun z => ?_) (fun z => ?_)))⟩
  · 
    have eo : q2.2.2.1 44 0 0 = i2L m := by rw [s1.2.2.2, u2 z, s4 z]
    exact (Eq.trans (k_aload rfl rfl) (Eq.trans (k_pushi 0 rfl rfl) (Eq.trans (k_laldE rfl eo) (Eq.trans (k_iload rfl rfl) (Eq.trans (k_i2l rfl) (Eq.trans (k_lcmpE rfl) (Eq.trans (Eq.trans (k_ifc ((0 : Int) = 0) rfl (iI_eq0 (show R32 (0 : Int) by decide))) (cif_pos rfl)) (k_goto rfl))))))))
  · exact k_goto rfl
theorem cse_15 {D : Nat} {B i : Int} {H : VV} {q : QQ} (h9 : 149 ≤ q.2.1.1) (op : OP B D 13 [aR 1 0] (cmL []) 244 [aR 33 0] H) : Nxt B (D + 1) 1182 i q H := by
  intro a b c
  obtain ⟨k, v, U, oc, aft⟩ := op q
  obtain ⟨rfl, e⟩ := Oc_nil oc
  obtain ⟨q2, m, V, s1, s2, s3, s4, s5⟩ := aft q h9
  have s4 := s4 rfl
  subst s4
  refine ⟨q2, V, a, b, c, qu2_st s1, s5, (Eq.trans (k_aload rfl rfl) (Eq.trans (RUN_ci rfl rfl rfl e (qle_refl q)) (Eq.trans (k_aload rfl rfl) (Eq.trans (RUN_ci rfl rfl rfl s2 s1.1) ((k_icmpc (iI m = iI m) rfl Iff.rfl).trans (cif_pos rfl))))))⟩
theorem cse_16 {D : Nat} {B i : Int} {H : VV} {q : QQ} (h9 : 149 ≤ q.2.1.1) (op : OP B D 21 [aR 1 0] (cmL []) 246 [aR 33 0] H) : Nxt B (D + 1) 1195 i q H := by
  intro a b c
  obtain ⟨k, v, U, oc, aft⟩ := op q
  obtain ⟨rfl, e⟩ := Oc_nil oc
  obtain ⟨q2, m, V, s1, s2, s3, s4, s5⟩ := aft q h9
  have s4 := s4 rfl
  subst s4
  refine ⟨q2, V, a, b, c, qu2_st s1, s5, (Eq.trans (k_aload rfl rfl) (Eq.trans (RUN_ci rfl rfl rfl e (qle_refl q)) (Eq.trans (k_aload rfl rfl) (Eq.trans (RUN_ci rfl rfl rfl s2 s1.1) ((k_icmpc (iI m = iI m) rfl Iff.rfl).trans (cif_pos rfl))))))⟩
theorem cse_17 {D : Nat} {B i : Int} {H : VV} {q : QQ} (h9 : 149 ≤ q.2.1.1) (hi : 0 ≤ i ∧ i + 3 < (q.1.1 : Int)) (hn : q.1.1 < 2147483648) (op : OP B D 98 [aR 1 0, aI (iI (ag q i 1))] (cmL [(0, 1)]) 247 [aR 33 0, aI (iI (ag q i 1))] H) : Nxt B (D + 2) 1208 i q H := by
  intro a b c
  obtain ⟨k, v, U, oc, aft⟩ := op q
  have hk := Oc_k oc
  obtain ⟨q1, u1, u2, e⟩ := wrT_97 oc
  obtain ⟨q2, m, V, s1, s2, s3, s4, s5⟩ := aft q1 (Nat.le_trans h9 u1.1.1)
  have s2 := RUN_deep s2
  refine ⟨q2, V, sI k, sI m, c, qu2_of u1 s1, s5, Eq.trans (Eq.trans (k_aload rfl rfl) (Eq.trans (k_aload rfl rfl) (Eq.trans (k_iload rfl rfl) (Eq.trans (k_pushi 1 rfl rfl) (Eq.trans (k_bin rfl (iI_add _ _)) (Eq.trans (k_scr rfl rfl (by omega) hn) (Eq.trans (k_aload rfl rfl) (Eq.trans (RUN_ci rfl rfl rfl e u1.1) (k_store rfl))))))))) (Eq.trans (Eq.trans (k_aload rfl rfl) (Eq.trans (k_aload rfl rfl) (Eq.trans (k_iload rfl rfl) (Eq.trans (k_pushi 1 rfl rfl) (Eq.trans (k_bin rfl (iI_add _ _)) (Eq.trans (k_scr rfl u1.2.2 (by omega) hn) (Eq.trans (RUN_ci rfl rfl rfl s2 s1.1) (Eq.trans (k_store rfl) (Eq.trans (k_aload rfl rfl) (Eq.trans (RUN_ci rfl rfl rfl e_209 (qle_refl _)) (Eq.trans (k_iload rfl rfl) (Eq.trans (Eq.trans (k_icmpc (V 33 0 6 = k) rfl (iI_eq (by rw [s3]; constructor <;> omega) (by constructor <;> omega))) (cif_pos s3)) (Eq.trans (k_iload rfl rfl) (k_ifcN (k = 0) rfl (iI_ne0 (by constructor <;> omega)))))))))))))))) (cif_eq (fun z => ?_) (fun z => ?_)))⟩
  · 
    have eo : q2.2.2.1 44 0 0 = i2L m := by rw [s1.2.2.2, u2 z, s4 z]
    exact (Eq.trans (k_aload rfl rfl) (Eq.trans (k_pushi 0 rfl rfl) (Eq.trans (k_laldE rfl eo) (Eq.trans (k_iload rfl rfl) (Eq.trans (k_i2l rfl) (Eq.trans (k_lcmpE rfl) (Eq.trans (Eq.trans (k_ifc ((0 : Int) = 0) rfl (iI_eq0 (show R32 (0 : Int) by decide))) (cif_pos rfl)) (k_goto rfl))))))))
  · exact k_goto rfl
theorem cse_18 {D : Nat} {B i : Int} {H : VV} {q : QQ} (h9 : 149 ≤ q.2.1.1) (op : OP B D 24 [aR 1 0] (cmL []) 249 [aR 33 0] H) : Nxt B (D + 1) 1264 i q H := by
  intro a b c
  obtain ⟨k, v, U, oc, aft⟩ := op q
  obtain ⟨rfl, e⟩ := Oc_nil oc
  obtain ⟨q2, m, V, s1, s2, s3, s4, s5⟩ := aft q h9
  have s4 := s4 rfl
  subst s4
  refine ⟨q2, V, a, b, c, qu2_st s1, s5, (Eq.trans (k_aload rfl rfl) (Eq.trans (RUN_ci rfl rfl rfl e (qle_refl q)) (Eq.trans (k_aload rfl rfl) (Eq.trans (RUN_ci rfl rfl rfl s2 s1.1) ((k_icmpc (iI m = iI m) rfl Iff.rfl).trans (cif_pos rfl))))))⟩
theorem cse_19 {D : Nat} {B i : Int} {H : VV} {q : QQ} (h9 : 149 ≤ q.2.1.1) (hi : 0 ≤ i ∧ i + 3 < (q.1.1 : Int)) (hn : q.1.1 < 2147483648) (op : OP B D 101 [aR 1 0, aI (iI (ag q i 1)), aI (iI (ag q i 2))] (cmL [(2, 1), (3, 2)]) 250 [aR 33 0, aI (iI (ag q i 1)), aI (iI (ag q i 2))] H) : Nxt B (D + 2) 1277 i q H := by
  intro a b c
  obtain ⟨k, v, U, oc, aft⟩ := op q
  have hk := Oc_k oc
  obtain ⟨q1, u1, u2, e⟩ := wrT_100 oc
  obtain ⟨q2, m, V, s1, s2, s3, s4, s5⟩ := aft q1 (Nat.le_trans h9 u1.1.1)
  have s2 := RUN_deep s2
  refine ⟨q2, V, sI k, sI m, c, qu2_of u1 s1, s5, Eq.trans (Eq.trans (k_aload rfl rfl) (Eq.trans (k_aload rfl rfl) (Eq.trans (k_iload rfl rfl) (Eq.trans (k_pushi 1 rfl rfl) (Eq.trans (k_bin rfl (iI_add _ _)) (Eq.trans (k_scr rfl rfl (by omega) hn) (Eq.trans (k_aload rfl rfl) (Eq.trans (k_iload rfl rfl) (Eq.trans (k_pushi 2 rfl rfl) (Eq.trans (k_bin rfl (iI_add _ _)) (Eq.trans (k_scr rfl rfl (by omega) hn) (Eq.trans (k_aload rfl rfl) (Eq.trans (RUN_ci rfl rfl rfl e u1.1) (k_store rfl)))))))))))))) (Eq.trans (Eq.trans (k_aload rfl rfl) (Eq.trans (k_aload rfl rfl) (Eq.trans (k_iload rfl rfl) (Eq.trans (k_pushi 1 rfl rfl) (Eq.trans (k_bin rfl (iI_add _ _)) (Eq.trans (k_scr rfl u1.2.2 (by omega) hn) (Eq.trans (k_aload rfl rfl) (Eq.trans (k_iload rfl rfl) (Eq.trans (k_pushi 2 rfl rfl) (Eq.trans (k_bin rfl (iI_add _ _)) (Eq.trans (k_scr rfl u1.2.2 (by omega) hn) (Eq.trans (RUN_ci rfl rfl rfl s2 s1.1) (Eq.trans (k_store rfl) (Eq.trans (k_aload rfl rfl) (Eq.trans (RUN_ci rfl rfl rfl e_209 (qle_refl _)) (Eq.trans (k_iload rfl rfl) (Eq.trans (Eq.trans (k_icmpc (V 33 0 6 = k) rfl (iI_eq (by rw [s3]; constructor <;> omega) (by constructor <;> omega))) (cif_pos s3)) (Eq.trans (k_iload rfl rfl) (k_ifcN (k = 0) rfl (iI_ne0 (by constructor <;> omega))))))))))))))))))))) (cif_eq (fun z => ?_) (fun z => ?_)))⟩
  · 
    have eo : q2.2.2.1 44 0 0 = i2L m := by rw [s1.2.2.2, u2 z, s4 z]
    exact (Eq.trans (k_aload rfl rfl) (Eq.trans (k_pushi 0 rfl rfl) (Eq.trans (k_laldE rfl eo) (Eq.trans (k_iload rfl rfl) (Eq.trans (k_i2l rfl) (Eq.trans (k_lcmpE rfl) (Eq.trans (Eq.trans (k_ifc ((0 : Int) = 0) rfl (iI_eq0 (show R32 (0 : Int) by decide))) (cif_pos rfl)) (k_goto rfl))))))))
  · exact k_goto rfl
theorem cse_20 {D : Nat} {B i : Int} {H : VV} {q : QQ} (h9 : 149 ≤ q.2.1.1) (hi : 0 ≤ i ∧ i + 3 < (q.1.1 : Int)) (hn : q.1.1 < 2147483648) (op : OP B D 103 [aR 1 0, aI (iI (ag q i 1)), aI (iI (ag q i 2))] (cmL [(2, 1), (3, 2)]) 252 [aR 33 0, aI (iI (ag q i 1)), aI (iI (ag q i 2))] H) : Nxt B (D + 2) 1345 i q H := by
  intro a b c
  obtain ⟨k, v, U, oc, aft⟩ := op q
  have hk := Oc_k oc
  obtain ⟨q1, u1, u2, e⟩ := wrT_102 oc
  obtain ⟨q2, m, V, s1, s2, s3, s4, s5⟩ := aft q1 (Nat.le_trans h9 u1.1.1)
  have s2 := RUN_deep s2
  refine ⟨q2, V, sI k, sI m, c, qu2_of u1 s1, s5, Eq.trans (Eq.trans (k_aload rfl rfl) (Eq.trans (k_aload rfl rfl) (Eq.trans (k_iload rfl rfl) (Eq.trans (k_pushi 1 rfl rfl) (Eq.trans (k_bin rfl (iI_add _ _)) (Eq.trans (k_scr rfl rfl (by omega) hn) (Eq.trans (k_aload rfl rfl) (Eq.trans (k_iload rfl rfl) (Eq.trans (k_pushi 2 rfl rfl) (Eq.trans (k_bin rfl (iI_add _ _)) (Eq.trans (k_scr rfl rfl (by omega) hn) (Eq.trans (k_aload rfl rfl) (Eq.trans (RUN_ci rfl rfl rfl e u1.1) (k_store rfl)))))))))))))) (Eq.trans (Eq.trans (k_aload rfl rfl) (Eq.trans (k_aload rfl rfl) (Eq.trans (k_iload rfl rfl) (Eq.trans (k_pushi 1 rfl rfl) (Eq.trans (k_bin rfl (iI_add _ _)) (Eq.trans (k_scr rfl u1.2.2 (by omega) hn) (Eq.trans (k_aload rfl rfl) (Eq.trans (k_iload rfl rfl) (Eq.trans (k_pushi 2 rfl rfl) (Eq.trans (k_bin rfl (iI_add _ _)) (Eq.trans (k_scr rfl u1.2.2 (by omega) hn) (Eq.trans (RUN_ci rfl rfl rfl s2 s1.1) (Eq.trans (k_store rfl) (Eq.trans (k_aload rfl rfl) (Eq.trans (RUN_ci rfl rfl rfl e_209 (qle_refl _)) (Eq.trans (k_iload rfl rfl) (Eq.trans (Eq.trans (k_icmpc (V 33 0 6 = k) rfl (iI_eq (by rw [s3]; constructor <;> omega) (by constructor <;> omega))) (cif_pos s3)) (Eq.trans (k_iload rfl rfl) (k_ifcN (k = 0) rfl (iI_ne0 (by constructor <;> omega))))))))))))))))))))) (cif_eq (fun z => ?_) (fun z => ?_)))⟩
  · 
    have eo : q2.2.2.1 44 0 0 = i2L m := by rw [s1.2.2.2, u2 z, s4 z]
    exact (Eq.trans (k_aload rfl rfl) (Eq.trans (k_pushi 0 rfl rfl) (Eq.trans (k_laldE rfl eo) (Eq.trans (k_iload rfl rfl) (Eq.trans (k_i2l rfl) (Eq.trans (k_lcmpE rfl) (Eq.trans (Eq.trans (k_ifc ((0 : Int) = 0) rfl (iI_eq0 (show R32 (0 : Int) by decide))) (cif_pos rfl)) (k_goto rfl))))))))
  · exact k_goto rfl
theorem cse_21 {D : Nat} {B i : Int} {H : VV} {q : QQ} (h9 : 149 ≤ q.2.1.1) (hi : 0 ≤ i ∧ i + 3 < (q.1.1 : Int)) (hn : q.1.1 < 2147483648) (op : OP B D 108 [aR 1 0, aI (iI (ag q i 1)), aI (iI (ag q i 2))] (cmL [(2, 1), (3, 2)]) 255 [aR 33 0, aI (iI (ag q i 1)), aI (iI (ag q i 2))] H) : Nxt B (D + 2) 1413 i q H := by
  intro a b c
  obtain ⟨k, v, U, oc, aft⟩ := op q
  have hk := Oc_k oc
  obtain ⟨q1, u1, u2, e⟩ := wrT_107 oc
  obtain ⟨q2, m, V, s1, s2, s3, s4, s5⟩ := aft q1 (Nat.le_trans h9 u1.1.1)
  have s2 := RUN_deep s2
  refine ⟨q2, V, sI k, sI m, c, qu2_of u1 s1, s5, Eq.trans (Eq.trans (k_aload rfl rfl) (Eq.trans (k_aload rfl rfl) (Eq.trans (k_iload rfl rfl) (Eq.trans (k_pushi 1 rfl rfl) (Eq.trans (k_bin rfl (iI_add _ _)) (Eq.trans (k_scr rfl rfl (by omega) hn) (Eq.trans (k_aload rfl rfl) (Eq.trans (k_iload rfl rfl) (Eq.trans (k_pushi 2 rfl rfl) (Eq.trans (k_bin rfl (iI_add _ _)) (Eq.trans (k_scr rfl rfl (by omega) hn) (Eq.trans (k_aload rfl rfl) (Eq.trans (RUN_ci rfl rfl rfl e u1.1) (k_store rfl)))))))))))))) (Eq.trans (Eq.trans (k_aload rfl rfl) (Eq.trans (k_aload rfl rfl) (Eq.trans (k_iload rfl rfl) (Eq.trans (k_pushi 1 rfl rfl) (Eq.trans (k_bin rfl (iI_add _ _)) (Eq.trans (k_scr rfl u1.2.2 (by omega) hn) (Eq.trans (k_aload rfl rfl) (Eq.trans (k_iload rfl rfl) (Eq.trans (k_pushi 2 rfl rfl) (Eq.trans (k_bin rfl (iI_add _ _)) (Eq.trans (k_scr rfl u1.2.2 (by omega) hn) (Eq.trans (RUN_ci rfl rfl rfl s2 s1.1) (Eq.trans (k_store rfl) (Eq.trans (k_aload rfl rfl) (Eq.trans (RUN_ci rfl rfl rfl e_209 (qle_refl _)) (Eq.trans (k_iload rfl rfl) (Eq.trans (Eq.trans (k_icmpc (V 33 0 6 = k) rfl (iI_eq (by rw [s3]; constructor <;> omega) (by constructor <;> omega))) (cif_pos s3)) (Eq.trans (k_iload rfl rfl) (k_ifcN (k = 0) rfl (iI_ne0 (by constructor <;> omega))))))))))))))))))))) (cif_eq (fun z => ?_) (fun z => ?_)))⟩
  · 
    have eo : q2.2.2.1 44 0 0 = i2L m := by rw [s1.2.2.2, u2 z, s4 z]
    exact (Eq.trans (k_aload rfl rfl) (Eq.trans (k_pushi 0 rfl rfl) (Eq.trans (k_laldE rfl eo) (Eq.trans (k_iload rfl rfl) (Eq.trans (k_i2l rfl) (Eq.trans (k_lcmpE rfl) (Eq.trans (Eq.trans (k_ifc ((0 : Int) = 0) rfl (iI_eq0 (show R32 (0 : Int) by decide))) (cif_pos rfl)) (k_goto rfl))))))))
  · exact k_goto rfl
theorem cse_22 {D : Nat} {B i : Int} {H : VV} {q : QQ} (h9 : 149 ≤ q.2.1.1) (hi : 0 ≤ i ∧ i + 3 < (q.1.1 : Int)) (hn : q.1.1 < 2147483648) (op : OP B D 111 [aR 1 0, aI (iI (ag q i 1)), aI (iI (ag q i 2))] (cmL [(2, 1), (3, 2)]) 256 [aR 33 0, aI (iI (ag q i 1)), aI (iI (ag q i 2))] H) : Nxt B (D + 2) 1481 i q H := by
  intro a b c
  obtain ⟨k, v, U, oc, aft⟩ := op q
  have hk := Oc_k oc
  obtain ⟨q1, u1, u2, e⟩ := wrT_110 oc
  obtain ⟨q2, m, V, s1, s2, s3, s4, s5⟩ := aft q1 (Nat.le_trans h9 u1.1.1)
  have s2 := RUN_deep s2
  refine ⟨q2, V, sI k, sI m, c, qu2_of u1 s1, s5, Eq.trans (Eq.trans (k_aload rfl rfl) (Eq.trans (k_aload rfl rfl) (Eq.trans (k_iload rfl rfl) (Eq.trans (k_pushi 1 rfl rfl) (Eq.trans (k_bin rfl (iI_add _ _)) (Eq.trans (k_scr rfl rfl (by omega) hn) (Eq.trans (k_aload rfl rfl) (Eq.trans (k_iload rfl rfl) (Eq.trans (k_pushi 2 rfl rfl) (Eq.trans (k_bin rfl (iI_add _ _)) (Eq.trans (k_scr rfl rfl (by omega) hn) (Eq.trans (k_aload rfl rfl) (Eq.trans (RUN_ci rfl rfl rfl e u1.1) (k_store rfl)))))))))))))) (Eq.trans (Eq.trans (k_aload rfl rfl) (Eq.trans (k_aload rfl rfl) (Eq.trans (k_iload rfl rfl) (Eq.trans (k_pushi 1 rfl rfl) (Eq.trans (k_bin rfl (iI_add _ _)) (Eq.trans (k_scr rfl u1.2.2 (by omega) hn) (Eq.trans (k_aload rfl rfl) (Eq.trans (k_iload rfl rfl) (Eq.trans (k_pushi 2 rfl rfl) (Eq.trans (k_bin rfl (iI_add _ _)) (Eq.trans (k_scr rfl u1.2.2 (by omega) hn) (Eq.trans (RUN_ci rfl rfl rfl s2 s1.1) (Eq.trans (k_store rfl) (Eq.trans (k_aload rfl rfl) (Eq.trans (RUN_ci rfl rfl rfl e_209 (qle_refl _)) (Eq.trans (k_iload rfl rfl) (Eq.trans (Eq.trans (k_icmpc (V 33 0 6 = k) rfl (iI_eq (by rw [s3]; constructor <;> omega) (by constructor <;> omega))) (cif_pos s3)) (Eq.trans (k_iload rfl rfl) (k_ifcN (k = 0) rfl (iI_ne0 (by constructor <;> omega))))))))))))))))))))) (cif_eq (fun z => ?_) (fun z => ?_)))⟩
  · 
    have eo : q2.2.2.1 44 0 0 = i2L m := by rw [s1.2.2.2, u2 z, s4 z]
    exact (Eq.trans (k_aload rfl rfl) (Eq.trans (k_pushi 0 rfl rfl) (Eq.trans (k_laldE rfl eo) (Eq.trans (k_iload rfl rfl) (Eq.trans (k_i2l rfl) (Eq.trans (k_lcmpE rfl) (Eq.trans (Eq.trans (k_ifc ((0 : Int) = 0) rfl (iI_eq0 (show R32 (0 : Int) by decide))) (cif_pos rfl)) (k_goto rfl))))))))
  · exact k_goto rfl
theorem cse_23 {D : Nat} {B i : Int} {H : VV} {q : QQ} (h9 : 149 ≤ q.2.1.1) (hi : 0 ≤ i ∧ i + 3 < (q.1.1 : Int)) (hn : q.1.1 < 2147483648) (op : OP B D 113 [aR 1 0, aI (iI (ag q i 1)), aI (iI (ag q i 2)), aI (iI (ag q i 3))] (cmL [(2, 1), (3, 2)]) 257 [aR 33 0, aI (iI (ag q i 1)), aI (iI (ag q i 2)), aI (iI (ag q i 3))] H) : Nxt B (D + 2) 1549 i q H := by
  intro a b c
  obtain ⟨k, v, U, oc, aft⟩ := op q
  have hk := Oc_k oc
  obtain ⟨q1, u1, u2, e⟩ := wrT_112 oc
  obtain ⟨q2, m, V, s1, s2, s3, s4, s5⟩ := aft q1 (Nat.le_trans h9 u1.1.1)
  have s2 := RUN_deep s2
  refine ⟨q2, V, sI k, sI m, c, qu2_of u1 s1, s5, Eq.trans (Eq.trans (k_aload rfl rfl) (Eq.trans (k_aload rfl rfl) (Eq.trans (k_iload rfl rfl) (Eq.trans (k_pushi 1 rfl rfl) (Eq.trans (k_bin rfl (iI_add _ _)) (Eq.trans (k_scr rfl rfl (by omega) hn) (Eq.trans (k_aload rfl rfl) (Eq.trans (k_iload rfl rfl) (Eq.trans (k_pushi 2 rfl rfl) (Eq.trans (k_bin rfl (iI_add _ _)) (Eq.trans (k_scr rfl rfl (by omega) hn) (Eq.trans (k_aload rfl rfl) (Eq.trans (k_iload rfl rfl) (Eq.trans (k_pushi 3 rfl rfl) (Eq.trans (k_bin rfl (iI_add _ _)) (Eq.trans (k_scr rfl rfl (by omega) hn) (Eq.trans (k_aload rfl rfl) (Eq.trans (RUN_ci rfl rfl rfl e u1.1) (k_store rfl))))))))))))))))))) (Eq.trans (Eq.trans (k_aload rfl rfl) (Eq.trans (k_aload rfl rfl) (Eq.trans (k_iload rfl rfl) (Eq.trans (k_pushi 1 rfl rfl) (Eq.trans (k_bin rfl (iI_add _ _)) (Eq.trans (k_scr rfl u1.2.2 (by omega) hn) (Eq.trans (k_aload rfl rfl) (Eq.trans (k_iload rfl rfl) (Eq.trans (k_pushi 2 rfl rfl) (Eq.trans (k_bin rfl (iI_add _ _)) (Eq.trans (k_scr rfl u1.2.2 (by omega) hn) (Eq.trans (k_aload rfl rfl) (Eq.trans (k_iload rfl rfl) (Eq.trans (k_pushi 3 rfl rfl) (Eq.trans (k_bin rfl (iI_add _ _)) (Eq.trans (k_scr rfl u1.2.2 (by omega) hn) (Eq.trans (RUN_ci rfl rfl rfl s2 s1.1) (Eq.trans (k_store rfl) (Eq.trans (k_aload rfl rfl) (Eq.trans (RUN_ci rfl rfl rfl e_209 (qle_refl _)) (Eq.trans (k_iload rfl rfl) (Eq.trans (Eq.trans (k_icmpc (V 33 0 6 = k) rfl (iI_eq (by rw [s3]; constructor <;> omega) (by constructor <;> omega))) (cif_pos s3)) (Eq.trans (k_iload rfl rfl) (k_ifcN (k = 0) rfl (iI_ne0 (by constructor <;> omega)))))))))))))))))))))))))) (cif_eq (fun z => ?_) (fun z => ?_)))⟩
  · 
    have eo : q2.2.2.1 44 0 0 = i2L m := by rw [s1.2.2.2, u2 z, s4 z]
    exact (Eq.trans (k_aload rfl rfl) (Eq.trans (k_pushi 0 rfl rfl) (Eq.trans (k_laldE rfl eo) (Eq.trans (k_iload rfl rfl) (Eq.trans (k_i2l rfl) (Eq.trans (k_lcmpE rfl) (Eq.trans (Eq.trans (k_ifc ((0 : Int) = 0) rfl (iI_eq0 (show R32 (0 : Int) by decide))) (cif_pos rfl)) (k_goto rfl))))))))
  · exact k_goto rfl
theorem cse_24 {D : Nat} {B i : Int} {H : VV} {q : QQ} (h9 : 149 ≤ q.2.1.1) (op : OP B D 25 [aR 1 0] (cmL []) 259 [aR 33 0] H) : Nxt B (D + 1) 1629 i q H := by
  intro a b c
  obtain ⟨k, v, U, oc, aft⟩ := op q
  obtain ⟨rfl, e⟩ := Oc_nil oc
  obtain ⟨q2, m, V, s1, s2, s3, s4, s5⟩ := aft q h9
  have s4 := s4 rfl
  subst s4
  refine ⟨q2, V, a, b, c, qu2_st s1, s5, (Eq.trans (k_aload rfl rfl) (Eq.trans (RUN_ci rfl rfl rfl e (qle_refl q)) (Eq.trans (k_aload rfl rfl) (Eq.trans (RUN_ci rfl rfl rfl s2 s1.1) ((k_icmpc (iI m = iI m) rfl Iff.rfl).trans (cif_pos rfl))))))⟩
theorem cse_25 {D : Nat} {B i : Int} {H : VV} {q : QQ} (h9 : 149 ≤ q.2.1.1) (hi : 0 ≤ i ∧ i + 3 < (q.1.1 : Int)) (hn : q.1.1 < 2147483648) (op : OP B D 115 [aR 1 0, aI (iI ((ag q i 1 % 65536)))] (cmL [(0, 1)]) 260 [aR 33 0, aI (iI ((ag q i 1 % 65536)))] H) : Nxt B (D + 2) 1642 i q H := by
  intro a b c
  obtain ⟨k, v, U, oc, aft⟩ := op q
  have hk := Oc_k oc
  obtain ⟨q1, u1, u2, e⟩ := wrT_114 oc
  obtain ⟨q2, m, V, s1, s2, s3, s4, s5⟩ := aft q1 (Nat.le_trans h9 u1.1.1)
  have s2 := RUN_deep s2
  refine ⟨q2, V, sI k, sI m, c, qu2_of u1 s1, s5, Eq.trans (Eq.trans (k_aload rfl rfl) (Eq.trans (k_aload rfl rfl) (Eq.trans (k_iload rfl rfl) (Eq.trans (k_pushi 1 rfl rfl) (Eq.trans (k_bin rfl (iI_add _ _)) (Eq.trans (k_scr rfl rfl (by omega) hn) (Eq.trans (k_un rfl (iI_i2c _)) (Eq.trans (k_aload rfl rfl) (Eq.trans (RUN_ci rfl rfl rfl e u1.1) (k_store rfl)))))))))) (Eq.trans (Eq.trans (k_aload rfl rfl) (Eq.trans (k_aload rfl rfl) (Eq.trans (k_iload rfl rfl) (Eq.trans (k_pushi 1 rfl rfl) (Eq.trans (k_bin rfl (iI_add _ _)) (Eq.trans (k_scr rfl u1.2.2 (by omega) hn) (Eq.trans (k_un rfl (iI_i2c _)) (Eq.trans (RUN_ci rfl rfl rfl s2 s1.1) (Eq.trans (k_store rfl) (Eq.trans (k_aload rfl rfl) (Eq.trans (RUN_ci rfl rfl rfl e_209 (qle_refl _)) (Eq.trans (k_iload rfl rfl) (Eq.trans (Eq.trans (k_icmpc (V 33 0 6 = k) rfl (iI_eq (by rw [s3]; constructor <;> omega) (by constructor <;> omega))) (cif_pos s3)) (Eq.trans (k_iload rfl rfl) (k_ifcN (k = 0) rfl (iI_ne0 (by constructor <;> omega))))))))))))))))) (cif_eq (fun z => ?_) (fun z => ?_)))⟩
  · 
    have eo : q2.2.2.1 44 0 0 = i2L m := by rw [s1.2.2.2, u2 z, s4 z]
    exact (Eq.trans (k_aload rfl rfl) (Eq.trans (k_pushi 0 rfl rfl) (Eq.trans (k_laldE rfl eo) (Eq.trans (k_iload rfl rfl) (Eq.trans (k_i2l rfl) (Eq.trans (k_lcmpE rfl) (Eq.trans (Eq.trans (k_ifc ((0 : Int) = 0) rfl (iI_eq0 (show R32 (0 : Int) by decide))) (cif_pos rfl)) (k_goto rfl))))))))
  · exact k_goto rfl
theorem cse_26 {D : Nat} {B i : Int} {H : VV} {q : QQ} (h9 : 149 ≤ q.2.1.1) (hi : 0 ≤ i ∧ i + 3 < (q.1.1 : Int)) (hn : q.1.1 < 2147483648) (op : OP B D 119 [aR 1 0, aI (iI (ag q i 1))] (cmL [(0, 1), (3, 2)]) 263 [aR 33 0, aI (iI (ag q i 1))] H) : Nxt B (D + 2) 1700 i q H := by
  intro a b c
  obtain ⟨k, v, U, oc, aft⟩ := op q
  have hk := Oc_k oc
  obtain ⟨q1, u1, u2, e⟩ := wrT_118 oc
  obtain ⟨q2, m, V, s1, s2, s3, s4, s5⟩ := aft q1 (Nat.le_trans h9 u1.1.1)
  have s2 := RUN_deep s2
  refine ⟨q2, V, sI k, sI m, c, qu2_of u1 s1, s5, Eq.trans (Eq.trans (k_aload rfl rfl) (Eq.trans (k_aload rfl rfl) (Eq.trans (k_iload rfl rfl) (Eq.trans (k_pushi 1 rfl rfl) (Eq.trans (k_bin rfl (iI_add _ _)) (Eq.trans (k_scr rfl rfl (by omega) hn) (Eq.trans (k_aload rfl rfl) (Eq.trans (RUN_ci rfl rfl rfl e u1.1) (k_store rfl))))))))) (Eq.trans (Eq.trans (k_aload rfl rfl) (Eq.trans (k_aload rfl rfl) (Eq.trans (k_iload rfl rfl) (Eq.trans (k_pushi 1 rfl rfl) (Eq.trans (k_bin rfl (iI_add _ _)) (Eq.trans (k_scr rfl u1.2.2 (by omega) hn) (Eq.trans (RUN_ci rfl rfl rfl s2 s1.1) (Eq.trans (k_store rfl) (Eq.trans (k_aload rfl rfl) (Eq.trans (RUN_ci rfl rfl rfl e_209 (qle_refl _)) (Eq.trans (k_iload rfl rfl) (Eq.trans (Eq.trans (k_icmpc (V 33 0 6 = k) rfl (iI_eq (by rw [s3]; constructor <;> omega) (by constructor <;> omega))) (cif_pos s3)) (Eq.trans (k_iload rfl rfl) (k_ifcN (k = 0) rfl (iI_ne0 (by constructor <;> omega)))))))))))))))) (cif_eq (fun z => ?_) (fun z => ?_)))⟩
  · 
    have eo : q2.2.2.1 44 0 0 = i2L m := by rw [s1.2.2.2, u2 z, s4 z]
    exact (Eq.trans (k_aload rfl rfl) (Eq.trans (k_pushi 0 rfl rfl) (Eq.trans (k_laldE rfl eo) (Eq.trans (k_iload rfl rfl) (Eq.trans (k_i2l rfl) (Eq.trans (k_lcmpE rfl) (Eq.trans (Eq.trans (k_ifc ((0 : Int) = 0) rfl (iI_eq0 (show R32 (0 : Int) by decide))) (cif_pos rfl)) (k_goto rfl))))))))
  · exact k_goto rfl
theorem cse_27 {D : Nat} {B i : Int} {H : VV} {q : QQ} (h9 : 149 ≤ q.2.1.1) (hi : 0 ≤ i ∧ i + 3 < (q.1.1 : Int)) (hn : q.1.1 < 2147483648) (op : OP B D 122 [aR 1 0, aI (iI (ag q i 1))] (cmL [(0, 1), (3, 2)]) 266 [aR 33 0, aI (iI (ag q i 1))] H) : Nxt B (D + 2) 1756 i q H := by
  intro a b c
  obtain ⟨k, v, U, oc, aft⟩ := op q
  have hk := Oc_k oc
  obtain ⟨q1, u1, u2, e⟩ := wrT_121 oc
  obtain ⟨q2, m, V, s1, s2, s3, s4, s5⟩ := aft q1 (Nat.le_trans h9 u1.1.1)
  have s2 := RUN_deep s2
  refine ⟨q2, V, sI k, sI m, c, qu2_of u1 s1, s5, Eq.trans (Eq.trans (k_aload rfl rfl) (Eq.trans (k_aload rfl rfl) (Eq.trans (k_iload rfl rfl) (Eq.trans (k_pushi 1 rfl rfl) (Eq.trans (k_bin rfl (iI_add _ _)) (Eq.trans (k_scr rfl rfl (by omega) hn) (Eq.trans (k_aload rfl rfl) (Eq.trans (RUN_ci rfl rfl rfl e u1.1) (k_store rfl))))))))) (Eq.trans (Eq.trans (k_aload rfl rfl) (Eq.trans (k_aload rfl rfl) (Eq.trans (k_iload rfl rfl) (Eq.trans (k_pushi 1 rfl rfl) (Eq.trans (k_bin rfl (iI_add _ _)) (Eq.trans (k_scr rfl u1.2.2 (by omega) hn) (Eq.trans (RUN_ci rfl rfl rfl s2 s1.1) (Eq.trans (k_store rfl) (Eq.trans (k_aload rfl rfl) (Eq.trans (RUN_ci rfl rfl rfl e_209 (qle_refl _)) (Eq.trans (k_iload rfl rfl) (Eq.trans (Eq.trans (k_icmpc (V 33 0 6 = k) rfl (iI_eq (by rw [s3]; constructor <;> omega) (by constructor <;> omega))) (cif_pos s3)) (Eq.trans (k_iload rfl rfl) (k_ifcN (k = 0) rfl (iI_ne0 (by constructor <;> omega)))))))))))))))) (cif_eq (fun z => ?_) (fun z => ?_)))⟩
  · 
    have eo : q2.2.2.1 44 0 0 = i2L m := by rw [s1.2.2.2, u2 z, s4 z]
    exact (Eq.trans (k_aload rfl rfl) (Eq.trans (k_pushi 0 rfl rfl) (Eq.trans (k_laldE rfl eo) (Eq.trans (k_iload rfl rfl) (Eq.trans (k_i2l rfl) (Eq.trans (k_lcmpE rfl) (Eq.trans (Eq.trans (k_ifc ((0 : Int) = 0) rfl (iI_eq0 (show R32 (0 : Int) by decide))) (cif_pos rfl)) (k_goto rfl))))))))
  · exact k_goto rfl
theorem cse_28 {D : Nat} {B i : Int} {H : VV} {q : QQ} (h9 : 149 ≤ q.2.1.1) (hi : 0 ≤ i ∧ i + 3 < (q.1.1 : Int)) (hn : q.1.1 < 2147483648) (op : OP B D 124 [aR 1 0, aI (iI (ag q i 1))] (cmL [(0, 1)]) 267 [aR 33 0, aI (iI (ag q i 1))] H) : Nxt B (D + 2) 1812 i q H := by
  intro a b c
  obtain ⟨k, v, U, oc, aft⟩ := op q
  have hk := Oc_k oc
  obtain ⟨q1, u1, u2, e⟩ := wrT_123 oc
  obtain ⟨q2, m, V, s1, s2, s3, s4, s5⟩ := aft q1 (Nat.le_trans h9 u1.1.1)
  have s2 := RUN_deep s2
  refine ⟨q2, V, sI k, sI m, c, qu2_of u1 s1, s5, Eq.trans (Eq.trans (k_aload rfl rfl) (Eq.trans (k_aload rfl rfl) (Eq.trans (k_iload rfl rfl) (Eq.trans (k_pushi 1 rfl rfl) (Eq.trans (k_bin rfl (iI_add _ _)) (Eq.trans (k_scr rfl rfl (by omega) hn) (Eq.trans (k_aload rfl rfl) (Eq.trans (RUN_ci rfl rfl rfl e u1.1) (k_store rfl))))))))) (Eq.trans (Eq.trans (k_aload rfl rfl) (Eq.trans (k_aload rfl rfl) (Eq.trans (k_iload rfl rfl) (Eq.trans (k_pushi 1 rfl rfl) (Eq.trans (k_bin rfl (iI_add _ _)) (Eq.trans (k_scr rfl u1.2.2 (by omega) hn) (Eq.trans (RUN_ci rfl rfl rfl s2 s1.1) (Eq.trans (k_store rfl) (Eq.trans (k_aload rfl rfl) (Eq.trans (RUN_ci rfl rfl rfl e_209 (qle_refl _)) (Eq.trans (k_iload rfl rfl) (Eq.trans (Eq.trans (k_icmpc (V 33 0 6 = k) rfl (iI_eq (by rw [s3]; constructor <;> omega) (by constructor <;> omega))) (cif_pos s3)) (Eq.trans (k_iload rfl rfl) (k_ifcN (k = 0) rfl (iI_ne0 (by constructor <;> omega)))))))))))))))) (cif_eq (fun z => ?_) (fun z => ?_)))⟩
  · 
    have eo : q2.2.2.1 44 0 0 = i2L m := by rw [s1.2.2.2, u2 z, s4 z]
    exact (Eq.trans (k_aload rfl rfl) (Eq.trans (k_pushi 0 rfl rfl) (Eq.trans (k_laldE rfl eo) (Eq.trans (k_iload rfl rfl) (Eq.trans (k_i2l rfl) (Eq.trans (k_lcmpE rfl) (Eq.trans (Eq.trans (k_ifc ((0 : Int) = 0) rfl (iI_eq0 (show R32 (0 : Int) by decide))) (cif_pos rfl)) (k_goto rfl))))))))
  · exact k_goto rfl
theorem cse_29 {D : Nat} {B i : Int} {H : VV} {q : QQ} (h9 : 149 ≤ q.2.1.1) (hi : 0 ≤ i ∧ i + 3 < (q.1.1 : Int)) (hn : q.1.1 < 2147483648) (op : OP B D 127 [aR 1 0, aI (iI (ag q i 1)), aI (iI ((ag q i 2 % 65536)))] (cmL [(2, 1), (0, 2)]) 268 [aR 33 0, aI (iI (ag q i 1)), aI (iI ((ag q i 2 % 65536)))] H) : Nxt B (D + 2) 1868 i q H := by
  intro a b c
  obtain ⟨k, v, U, oc, aft⟩ := op q
  have hk := Oc_k oc
  obtain ⟨q1, u1, u2, e⟩ := wrT_126 oc
  obtain ⟨q2, m, V, s1, s2, s3, s4, s5⟩ := aft q1 (Nat.le_trans h9 u1.1.1)
  have s2 := RUN_deep s2
  refine ⟨q2, V, sI k, sI m, c, qu2_of u1 s1, s5, Eq.trans (Eq.trans (k_aload rfl rfl) (Eq.trans (k_aload rfl rfl) (Eq.trans (k_iload rfl rfl) (Eq.trans (k_pushi 1 rfl rfl) (Eq.trans (k_bin rfl (iI_add _ _)) (Eq.trans (k_scr rfl rfl (by omega) hn) (Eq.trans (k_aload rfl rfl) (Eq.trans (k_iload rfl rfl) (Eq.trans (k_pushi 2 rfl rfl) (Eq.trans (k_bin rfl (iI_add _ _)) (Eq.trans (k_scr rfl rfl (by omega) hn) (Eq.trans (k_un rfl (iI_i2c _)) (Eq.trans (k_aload rfl rfl) (Eq.trans (RUN_ci rfl rfl rfl e u1.1) (k_store rfl))))))))))))))) (Eq.trans (Eq.trans (k_aload rfl rfl) (Eq.trans (k_aload rfl rfl) (Eq.trans (k_iload rfl rfl) (Eq.trans (k_pushi 1 rfl rfl) (Eq.trans (k_bin rfl (iI_add _ _)) (Eq.trans (k_scr rfl u1.2.2 (by omega) hn) (Eq.trans (k_aload rfl rfl) (Eq.trans (k_iload rfl rfl) (Eq.trans (k_pushi 2 rfl rfl) (Eq.trans (k_bin rfl (iI_add _ _)) (Eq.trans (k_scr rfl u1.2.2 (by omega) hn) (Eq.trans (k_un rfl (iI_i2c _)) (Eq.trans (RUN_ci rfl rfl rfl s2 s1.1) (Eq.trans (k_store rfl) (Eq.trans (k_aload rfl rfl) (Eq.trans (RUN_ci rfl rfl rfl e_209 (qle_refl _)) (Eq.trans (k_iload rfl rfl) (Eq.trans (Eq.trans (k_icmpc (V 33 0 6 = k) rfl (iI_eq (by rw [s3]; constructor <;> omega) (by constructor <;> omega))) (cif_pos s3)) (Eq.trans (k_iload rfl rfl) (k_ifcN (k = 0) rfl (iI_ne0 (by constructor <;> omega)))))))))))))))))))))) (cif_eq (fun z => ?_) (fun z => ?_)))⟩
  · 
    have eo : q2.2.2.1 44 0 0 = i2L m := by rw [s1.2.2.2, u2 z, s4 z]
    exact (Eq.trans (k_aload rfl rfl) (Eq.trans (k_pushi 0 rfl rfl) (Eq.trans (k_laldE rfl eo) (Eq.trans (k_iload rfl rfl) (Eq.trans (k_i2l rfl) (Eq.trans (k_lcmpE rfl) (Eq.trans (Eq.trans (k_ifc ((0 : Int) = 0) rfl (iI_eq0 (show R32 (0 : Int) by decide))) (cif_pos rfl)) (k_goto rfl))))))))
  · exact k_goto rfl
theorem cse_30 {D : Nat} {B i : Int} {H : VV} {q : QQ} (h9 : 149 ≤ q.2.1.1) (hi : 0 ≤ i ∧ i + 3 < (q.1.1 : Int)) (hn : q.1.1 < 2147483648) (op : OP B D 131 [aR 1 0, aI (iI (ag q i 1)), aI (iI (ag q i 2)), aI (iI ((ag q i 3 % 65536)))] (cmL [(2, 1), (0, 2), (4, 3)]) 270 [aR 33 0, aI (iI (ag q i 1)), aI (iI (ag q i 2)), aI (iI ((ag q i 3 % 65536)))] H) : Nxt B (D + 2) 1938 i q H := by
  intro a b c
  obtain ⟨k, v, U, oc, aft⟩ := op q
  have hk := Oc_k oc
  obtain ⟨q1, u1, u2, e⟩ := wrT_130 oc
  obtain ⟨q2, m, V, s1, s2, s3, s4, s5⟩ := aft q1 (Nat.le_trans h9 u1.1.1)
  have s2 := RUN_deep s2
  refine ⟨q2, V, sI k, sI m, c, qu2_of u1 s1, s5, Eq.trans (Eq.trans (k_aload rfl rfl) (Eq.trans (k_aload rfl rfl) (Eq.trans (k_iload rfl rfl) (Eq.trans (k_pushi 1 rfl rfl) (Eq.trans (k_bin rfl (iI_add _ _)) (Eq.trans (k_scr rfl rfl (by omega) hn) (Eq.trans (k_aload rfl rfl) (Eq.trans (k_iload rfl rfl) (Eq.trans (k_pushi 2 rfl rfl) (Eq.trans (k_bin rfl (iI_add _ _)) (Eq.trans (k_scr rfl rfl (by omega) hn) (Eq.trans (k_aload rfl rfl) (Eq.trans (k_iload rfl rfl) (Eq.trans (k_pushi 3 rfl rfl) (Eq.trans (k_bin rfl (iI_add _ _)) (Eq.trans (k_scr rfl rfl (by omega) hn) (Eq.trans (k_un rfl (iI_i2c _)) (Eq.trans (k_aload rfl rfl) (Eq.trans (RUN_ci rfl rfl rfl e u1.1) (k_store rfl)))))))))))))))))))) (Eq.trans (Eq.trans (k_aload rfl rfl) (Eq.trans (k_aload rfl rfl) (Eq.trans (k_iload rfl rfl) (Eq.trans (k_pushi 1 rfl rfl) (Eq.trans (k_bin rfl (iI_add _ _)) (Eq.trans (k_scr rfl u1.2.2 (by omega) hn) (Eq.trans (k_aload rfl rfl) (Eq.trans (k_iload rfl rfl) (Eq.trans (k_pushi 2 rfl rfl) (Eq.trans (k_bin rfl (iI_add _ _)) (Eq.trans (k_scr rfl u1.2.2 (by omega) hn) (Eq.trans (k_aload rfl rfl) (Eq.trans (k_iload rfl rfl) (Eq.trans (k_pushi 3 rfl rfl) (Eq.trans (k_bin rfl (iI_add _ _)) (Eq.trans (k_scr rfl u1.2.2 (by omega) hn) (Eq.trans (k_un rfl (iI_i2c _)) (Eq.trans (RUN_ci rfl rfl rfl s2 s1.1) (Eq.trans (k_store rfl) (Eq.trans (k_aload rfl rfl) (Eq.trans (RUN_ci rfl rfl rfl e_209 (qle_refl _)) (Eq.trans (k_iload rfl rfl) (Eq.trans (Eq.trans (k_icmpc (V 33 0 6 = k) rfl (iI_eq (by rw [s3]; constructor <;> omega) (by constructor <;> omega))) (cif_pos s3)) (Eq.trans (k_iload rfl rfl) (k_ifcN (k = 0) rfl (iI_ne0 (by constructor <;> omega))))))))))))))))))))))))))) (cif_eq (fun z => ?_) (fun z => ?_)))⟩
  · 
    have eo : q2.2.2.1 44 0 0 = i2L m := by rw [s1.2.2.2, u2 z, s4 z]
    exact (Eq.trans (k_aload rfl rfl) (Eq.trans (k_pushi 0 rfl rfl) (Eq.trans (k_laldE rfl eo) (Eq.trans (k_iload rfl rfl) (Eq.trans (k_i2l rfl) (Eq.trans (k_lcmpE rfl) (Eq.trans (Eq.trans (k_ifc ((0 : Int) = 0) rfl (iI_eq0 (show R32 (0 : Int) by decide))) (cif_pos rfl)) (k_goto rfl))))))))
  · exact k_goto rfl
theorem cse_31 {D : Nat} {B i : Int} {H : VV} {q : QQ} (h9 : 149 ≤ q.2.1.1) (hi : 0 ≤ i ∧ i + 3 < (q.1.1 : Int)) (hn : q.1.1 < 2147483648) (op : OP B D 138 [aR 1 0, aI (iI (ag q i 1)), aI (iI (ag q i 2)), aI (iI ((ag q i 3 % 65536)))] (cmL [(2, 1), (0, 2)]) 273 [aR 33 0, aI (iI (ag q i 1)), aI (iI (ag q i 2)), aI (iI ((ag q i 3 % 65536)))] H) : Nxt B (D + 2) 2020 i q H := by
  intro a b c
  obtain ⟨k, v, U, oc, aft⟩ := op q
  have hk := Oc_k oc
  obtain ⟨q1, u1, u2, e⟩ := wrT_137 oc
  obtain ⟨q2, m, V, s1, s2, s3, s4, s5⟩ := aft q1 (Nat.le_trans h9 u1.1.1)
  have s2 := RUN_deep s2
  refine ⟨q2, V, sI k, sI m, c, qu2_of u1 s1, s5, Eq.trans (Eq.trans (k_aload rfl rfl) (Eq.trans (k_aload rfl rfl) (Eq.trans (k_iload rfl rfl) (Eq.trans (k_pushi 1 rfl rfl) (Eq.trans (k_bin rfl (iI_add _ _)) (Eq.trans (k_scr rfl rfl (by omega) hn) (Eq.trans (k_aload rfl rfl) (Eq.trans (k_iload rfl rfl) (Eq.trans (k_pushi 2 rfl rfl) (Eq.trans (k_bin rfl (iI_add _ _)) (Eq.trans (k_scr rfl rfl (by omega) hn) (Eq.trans (k_aload rfl rfl) (Eq.trans (k_iload rfl rfl) (Eq.trans (k_pushi 3 rfl rfl) (Eq.trans (k_bin rfl (iI_add _ _)) (Eq.trans (k_scr rfl rfl (by omega) hn) (Eq.trans (k_un rfl (iI_i2c _)) (Eq.trans (k_aload rfl rfl) (Eq.trans (RUN_ci rfl rfl rfl e u1.1) (k_store rfl)))))))))))))))))))) (Eq.trans (Eq.trans (k_aload rfl rfl) (Eq.trans (k_aload rfl rfl) (Eq.trans (k_iload rfl rfl) (Eq.trans (k_pushi 1 rfl rfl) (Eq.trans (k_bin rfl (iI_add _ _)) (Eq.trans (k_scr rfl u1.2.2 (by omega) hn) (Eq.trans (k_aload rfl rfl) (Eq.trans (k_iload rfl rfl) (Eq.trans (k_pushi 2 rfl rfl) (Eq.trans (k_bin rfl (iI_add _ _)) (Eq.trans (k_scr rfl u1.2.2 (by omega) hn) (Eq.trans (k_aload rfl rfl) (Eq.trans (k_iload rfl rfl) (Eq.trans (k_pushi 3 rfl rfl) (Eq.trans (k_bin rfl (iI_add _ _)) (Eq.trans (k_scr rfl u1.2.2 (by omega) hn) (Eq.trans (k_un rfl (iI_i2c _)) (Eq.trans (RUN_ci rfl rfl rfl s2 s1.1) (Eq.trans (k_store rfl) (Eq.trans (k_aload rfl rfl) (Eq.trans (RUN_ci rfl rfl rfl e_209 (qle_refl _)) (Eq.trans (k_iload rfl rfl) (Eq.trans (Eq.trans (k_icmpc (V 33 0 6 = k) rfl (iI_eq (by rw [s3]; constructor <;> omega) (by constructor <;> omega))) (cif_pos s3)) (Eq.trans (k_iload rfl rfl) (k_ifcN (k = 0) rfl (iI_ne0 (by constructor <;> omega))))))))))))))))))))))))))) (cif_eq (fun z => ?_) (fun z => ?_)))⟩
  · 
    have eo : q2.2.2.1 44 0 0 = cif (iI m = 0) 0 1 := by rw [s1.2.2.2, u2 z, s4 z]
    by_cases y : iI m = 0
    · rw [cif_pos y] at eo
      exact (Eq.trans (k_aload rfl rfl) (Eq.trans (k_pushi 0 rfl rfl) (Eq.trans (k_laldE rfl eo) (Eq.trans (k_iload rfl rfl) (Eq.trans (Eq.trans (k_ifc (iI m = 0) rfl Iff.rfl) (cif_pos y)) (Eq.trans (k_push rfl) (Eq.trans (k_lcmpE rfl) (Eq.trans (Eq.trans (k_ifc ((0 : Int) = 0) rfl (iI_eq0 (show R32 (0 : Int) by decide))) (cif_pos rfl)) (k_goto rfl)))))))))
    · rw [cif_neg y] at eo
      exact (Eq.trans (k_aload rfl rfl) (Eq.trans (k_pushi 0 rfl rfl) (Eq.trans (k_laldE rfl eo) (Eq.trans (k_iload rfl rfl) (Eq.trans (Eq.trans (k_ifc (iI m = 0) rfl Iff.rfl) (cif_neg y)) (Eq.trans (k_push rfl) (Eq.trans (k_goto rfl) (Eq.trans (k_lcmpE rfl) (Eq.trans (Eq.trans (k_ifc ((0 : Int) = 0) rfl (iI_eq0 (show R32 (0 : Int) by decide))) (cif_pos rfl)) (k_goto rfl))))))))))
  · exact k_goto rfl
theorem cse_32 {D : Nat} {B i : Int} {H : VV} {q : QQ} (h9 : 149 ≤ q.2.1.1) (hi : 0 ≤ i ∧ i + 3 < (q.1.1 : Int)) (hn : q.1.1 < 2147483648) (op : OP B D 140 [aR 1 0, aI (iI (ag q i 1))] (cmL [(2, 1)]) 274 [aR 33 0, aI (iI (ag q i 1))] H) : Nxt B (D + 2) 2109 i q H := by
  intro a b c
  obtain ⟨k, v, U, oc, aft⟩ := op q
  have hk := Oc_k oc
  obtain ⟨q1, u1, u2, e⟩ := wrT_139 oc
  obtain ⟨q2, m, V, s1, s2, s3, s4, s5⟩ := aft q1 (Nat.le_trans h9 u1.1.1)
  have s2 := RUN_deep s2
  refine ⟨q2, V, sI k, sI m, c, qu2_of u1 s1, s5, Eq.trans (Eq.trans (k_aload rfl rfl) (Eq.trans (k_aload rfl rfl) (Eq.trans (k_iload rfl rfl) (Eq.trans (k_pushi 1 rfl rfl) (Eq.trans (k_bin rfl (iI_add _ _)) (Eq.trans (k_scr rfl rfl (by omega) hn) (Eq.trans (k_aload rfl rfl) (Eq.trans (RUN_ci rfl rfl rfl e u1.1) (k_store rfl))))))))) (Eq.trans (Eq.trans (k_aload rfl rfl) (Eq.trans (k_aload rfl rfl) (Eq.trans (k_iload rfl rfl) (Eq.trans (k_pushi 1 rfl rfl) (Eq.trans (k_bin rfl (iI_add _ _)) (Eq.trans (k_scr rfl u1.2.2 (by omega) hn) (Eq.trans (RUN_ci rfl rfl rfl s2 s1.1) (Eq.trans (k_store rfl) (Eq.trans (k_aload rfl rfl) (Eq.trans (RUN_ci rfl rfl rfl e_209 (qle_refl _)) (Eq.trans (k_iload rfl rfl) (Eq.trans (Eq.trans (k_icmpc (V 33 0 6 = k) rfl (iI_eq (by rw [s3]; constructor <;> omega) (by constructor <;> omega))) (cif_pos s3)) (Eq.trans (k_iload rfl rfl) (k_ifcN (k = 0) rfl (iI_ne0 (by constructor <;> omega)))))))))))))))) (cif_eq (fun z => ?_) (fun z => ?_)))⟩
  · 
    have eo : q2.2.2.1 44 0 0 = i2L m := by rw [s1.2.2.2, u2 z, s4 z]
    exact (Eq.trans (k_aload rfl rfl) (Eq.trans (k_pushi 0 rfl rfl) (Eq.trans (k_laldE rfl eo) (Eq.trans (k_iload rfl rfl) (Eq.trans (k_i2l rfl) (Eq.trans (k_lcmpE rfl) (Eq.trans (Eq.trans (k_ifc ((0 : Int) = 0) rfl (iI_eq0 (show R32 (0 : Int) by decide))) (cif_pos rfl)) (k_goto rfl))))))))
  · exact k_goto rfl
theorem cse_33 {D : Nat} {B i : Int} {H : VV} {q : QQ} (h9 : 149 ≤ q.2.1.1) (hi : 0 ≤ i ∧ i + 3 < (q.1.1 : Int)) (hn : q.1.1 < 2147483648) (op : OP B D 142 [aR 1 0, aI (iI (ag q i 1))] (cmL [(2, 1)]) 275 [aR 33 0, aI (iI (ag q i 1))] H) : Nxt B (D + 2) 2165 i q H := by
  intro a b c
  obtain ⟨k, v, U, oc, aft⟩ := op q
  have hk := Oc_k oc
  obtain ⟨q1, u1, u2, e⟩ := wrT_141 oc
  obtain ⟨q2, m, V, s1, s2, s3, s4, s5⟩ := aft q1 (Nat.le_trans h9 u1.1.1)
  have s2 := RUN_deep s2
  refine ⟨q2, V, sI k, sI m, c, qu2_of u1 s1, s5, Eq.trans (Eq.trans (k_aload rfl rfl) (Eq.trans (k_aload rfl rfl) (Eq.trans (k_iload rfl rfl) (Eq.trans (k_pushi 1 rfl rfl) (Eq.trans (k_bin rfl (iI_add _ _)) (Eq.trans (k_scr rfl rfl (by omega) hn) (Eq.trans (k_aload rfl rfl) (Eq.trans (RUN_ci rfl rfl rfl e u1.1) (k_store rfl))))))))) (Eq.trans (Eq.trans (k_aload rfl rfl) (Eq.trans (k_aload rfl rfl) (Eq.trans (k_iload rfl rfl) (Eq.trans (k_pushi 1 rfl rfl) (Eq.trans (k_bin rfl (iI_add _ _)) (Eq.trans (k_scr rfl u1.2.2 (by omega) hn) (Eq.trans (RUN_ci rfl rfl rfl s2 s1.1) (Eq.trans (k_store rfl) (Eq.trans (k_aload rfl rfl) (Eq.trans (RUN_ci rfl rfl rfl e_209 (qle_refl _)) (Eq.trans (k_iload rfl rfl) (Eq.trans (Eq.trans (k_icmpc (V 33 0 6 = k) rfl (iI_eq (by rw [s3]; constructor <;> omega) (by constructor <;> omega))) (cif_pos s3)) (Eq.trans (k_iload rfl rfl) (k_ifcN (k = 0) rfl (iI_ne0 (by constructor <;> omega)))))))))))))))) (cif_eq (fun z => ?_) (fun z => ?_)))⟩
  · 
    have eo : q2.2.2.1 44 0 0 = i2L m := by rw [s1.2.2.2, u2 z, s4 z]
    exact (Eq.trans (k_aload rfl rfl) (Eq.trans (k_pushi 0 rfl rfl) (Eq.trans (k_laldE rfl eo) (Eq.trans (k_iload rfl rfl) (Eq.trans (k_i2l rfl) (Eq.trans (k_lcmpE rfl) (Eq.trans (Eq.trans (k_ifc ((0 : Int) = 0) rfl (iI_eq0 (show R32 (0 : Int) by decide))) (cif_pos rfl)) (k_goto rfl))))))))
  · exact k_goto rfl
theorem cse_34 {D : Nat} {B i : Int} {H : VV} {q : QQ} (h9 : 149 ≤ q.2.1.1) (hi : 0 ≤ i ∧ i + 3 < (q.1.1 : Int)) (hn : q.1.1 < 2147483648) (op : OP B D 144 [aR 1 0, aI (iI (ag q i 1)), aI (iI (ag q i 2))] (cmL [(2, 1), (3, 2)]) 276 [aR 33 0, aI (iI (ag q i 1)), aI (iI (ag q i 2))] H) : Nxt B (D + 2) 2221 i q H := by
  intro a b c
  obtain ⟨k, v, U, oc, aft⟩ := op q
  have hk := Oc_k oc
  obtain ⟨q1, u1, u2, e⟩ := wrT_143 oc
  obtain ⟨q2, m, V, s1, s2, s3, s4, s5⟩ := aft q1 (Nat.le_trans h9 u1.1.1)
  have s2 := RUN_deep s2
  refine ⟨q2, V, sI k, sI m, c, qu2_of u1 s1, s5, Eq.trans (Eq.trans (k_aload rfl rfl) (Eq.trans (k_aload rfl rfl) (Eq.trans (k_iload rfl rfl) (Eq.trans (k_pushi 1 rfl rfl) (Eq.trans (k_bin rfl (iI_add _ _)) (Eq.trans (k_scr rfl rfl (by omega) hn) (Eq.trans (k_aload rfl rfl) (Eq.trans (k_iload rfl rfl) (Eq.trans (k_pushi 2 rfl rfl) (Eq.trans (k_bin rfl (iI_add _ _)) (Eq.trans (k_scr rfl rfl (by omega) hn) (Eq.trans (k_aload rfl rfl) (Eq.trans (RUN_ci rfl rfl rfl e u1.1) (k_store rfl)))))))))))))) (Eq.trans (Eq.trans (k_aload rfl rfl) (Eq.trans (k_aload rfl rfl) (Eq.trans (k_iload rfl rfl) (Eq.trans (k_pushi 1 rfl rfl) (Eq.trans (k_bin rfl (iI_add _ _)) (Eq.trans (k_scr rfl u1.2.2 (by omega) hn) (Eq.trans (k_aload rfl rfl) (Eq.trans (k_iload rfl rfl) (Eq.trans (k_pushi 2 rfl rfl) (Eq.trans (k_bin rfl (iI_add _ _)) (Eq.trans (k_scr rfl u1.2.2 (by omega) hn) (Eq.trans (RUN_ci rfl rfl rfl s2 s1.1) (Eq.trans (k_store rfl) (Eq.trans (k_aload rfl rfl) (Eq.trans (RUN_ci rfl rfl rfl e_209 (qle_refl _)) (Eq.trans (k_iload rfl rfl) (Eq.trans (Eq.trans (k_icmpc (V 33 0 6 = k) rfl (iI_eq (by rw [s3]; constructor <;> omega) (by constructor <;> omega))) (cif_pos s3)) (Eq.trans (k_iload rfl rfl) (k_ifcN (k = 0) rfl (iI_ne0 (by constructor <;> omega))))))))))))))))))))) (cif_eq (fun z => ?_) (fun z => ?_)))⟩
  · 
    have eo : q2.2.2.1 44 0 0 = i2L m := by rw [s1.2.2.2, u2 z, s4 z]
    exact (Eq.trans (k_aload rfl rfl) (Eq.trans (k_pushi 0 rfl rfl) (Eq.trans (k_laldE rfl eo) (Eq.trans (k_iload rfl rfl) (Eq.trans (k_i2l rfl) (Eq.trans (k_lcmpE rfl) (Eq.trans (Eq.trans (k_ifc ((0 : Int) = 0) rfl (iI_eq0 (show R32 (0 : Int) by decide))) (cif_pos rfl)) (k_goto rfl))))))))
  · exact k_goto rfl
theorem cse_35 {D : Nat} {B i : Int} {H : VV} {q : QQ} (h9 : 149 ≤ q.2.1.1) (hi : 0 ≤ i ∧ i + 3 < (q.1.1 : Int)) (hn : q.1.1 < 2147483648) (op : OP B D 147 [aR 1 0, aI (iI ((ag q i 1 % 65536)))] (cmL [(0, 1)]) 277 [aR 33 0, aI (iI ((ag q i 1 % 65536)))] H) : Nxt B (D + 2) 2289 i q H := by
  intro a b c
  obtain ⟨k, v, U, oc, aft⟩ := op q
  have hk := Oc_k oc
  obtain ⟨q1, u1, u2, e⟩ := wrT_146 oc
  obtain ⟨q2, m, V, s1, s2, s3, s4, s5⟩ := aft q1 (Nat.le_trans h9 u1.1.1)
  have s2 := RUN_deep s2
  refine ⟨q2, V, sI k, sI m, c, qu2_of u1 s1, s5, Eq.trans (Eq.trans (k_aload rfl rfl) (Eq.trans (k_aload rfl rfl) (Eq.trans (k_iload rfl rfl) (Eq.trans (k_pushi 1 rfl rfl) (Eq.trans (k_bin rfl (iI_add _ _)) (Eq.trans (k_scr rfl rfl (by omega) hn) (Eq.trans (k_un rfl (iI_i2c _)) (Eq.trans (k_aload rfl rfl) (Eq.trans (RUN_ci rfl rfl rfl e u1.1) (k_store rfl)))))))))) (Eq.trans (Eq.trans (k_aload rfl rfl) (Eq.trans (k_aload rfl rfl) (Eq.trans (k_iload rfl rfl) (Eq.trans (k_pushi 1 rfl rfl) (Eq.trans (k_bin rfl (iI_add _ _)) (Eq.trans (k_scr rfl u1.2.2 (by omega) hn) (Eq.trans (k_un rfl (iI_i2c _)) (Eq.trans (RUN_ci rfl rfl rfl s2 s1.1) (Eq.trans (k_store rfl) (Eq.trans (k_aload rfl rfl) (Eq.trans (RUN_ci rfl rfl rfl e_209 (qle_refl _)) (Eq.trans (k_iload rfl rfl) (Eq.trans (Eq.trans (k_icmpc (V 33 0 6 = k) rfl (iI_eq (by rw [s3]; constructor <;> omega) (by constructor <;> omega))) (cif_pos s3)) (Eq.trans (k_iload rfl rfl) (k_ifcN (k = 0) rfl (iI_ne0 (by constructor <;> omega))))))))))))))))) (cif_eq (fun z => ?_) (fun z => ?_)))⟩
  · 
    have eo : q2.2.2.1 44 0 0 = i2L m := by rw [s1.2.2.2, u2 z, s4 z]
    exact (Eq.trans (k_aload rfl rfl) (Eq.trans (k_pushi 0 rfl rfl) (Eq.trans (k_laldE rfl eo) (Eq.trans (k_iload rfl rfl) (Eq.trans (k_i2l rfl) (Eq.trans (k_lcmpE rfl) (Eq.trans (Eq.trans (k_ifc ((0 : Int) = 0) rfl (iI_eq0 (show R32 (0 : Int) by decide))) (cif_pos rfl)) (k_goto rfl))))))))
  · exact k_goto rfl
theorem cse_36 {D : Nat} {B i : Int} {H : VV} {q : QQ} (h9 : 149 ≤ q.2.1.1) (op : OP B D 32 [aR 1 0] (cmL []) 278 [aR 33 0] H) : Nxt B (D + 1) 2347 i q H := by
  intro a b c
  obtain ⟨k, v, U, oc, aft⟩ := op q
  obtain ⟨rfl, e⟩ := Oc_nil oc
  obtain ⟨q2, m, V, s1, s2, s3, s4, s5⟩ := aft q h9
  have s4 := s4 rfl
  subst s4
  refine ⟨q2, V, a, b, c, qu2_st s1, s5, (Eq.trans (k_aload rfl rfl) (Eq.trans (RUN_ci rfl rfl rfl e (qle_refl q)) (Eq.trans (k_aload rfl rfl) (Eq.trans (RUN_ci rfl rfl rfl s2 s1.1) ((k_icmpc (iI m = iI m) rfl Iff.rfl).trans (cif_pos rfl))))))⟩
theorem cse_37 {D : Nat} {B i : Int} {H : VV} {q : QQ} (h9 : 149 ≤ q.2.1.1) (op : OP B D 37 [aR 1 0] (cmL []) 280 [aR 33 0] H) : Nxt B (D + 1) 2360 i q H := by
  intro a b c
  obtain ⟨k, v, U, oc, aft⟩ := op q
  obtain ⟨rfl, e⟩ := Oc_nil oc
  obtain ⟨q2, m, V, s1, s2, s3, s4, s5⟩ := aft q h9
  have s4 := s4 rfl
  subst s4
  refine ⟨q2, V, a, b, c, qu2_st s1, s5, (Eq.trans (k_aload rfl rfl) (Eq.trans (RUN_ci rfl rfl rfl e (qle_refl q)) (Eq.trans (k_aload rfl rfl) (Eq.trans (RUN_ci rfl rfl rfl s2 s1.1) ((k_icmpc (iI m = iI m) rfl Iff.rfl).trans (cif_pos rfl))))))⟩
theorem cse_38 {D : Nat} {B i : Int} {H : VV} {q : QQ} (h9 : 149 ≤ q.2.1.1) (op : OP B D 149 [aR 1 0] (cmL [(3, 1)]) 281 [aR 33 0] H) : Nxt B (D + 2) 2373 i q H := by
  intro a b c
  obtain ⟨k, v, U, oc, aft⟩ := op q
  have hk := Oc_k oc
  obtain ⟨q1, u1, u2, e⟩ := wrT_148 oc
  obtain ⟨q2, m, V, s1, s2, s3, s4, s5⟩ := aft q1 (Nat.le_trans h9 u1.1.1)
  have s2 := RUN_deep s2
  refine ⟨q2, V, sI k, sI m, c, qu2_of u1 s1, s5, Eq.trans (Eq.trans (k_aload rfl rfl) (Eq.trans (k_aload rfl rfl) (Eq.trans (RUN_ci rfl rfl rfl e u1.1) (k_store rfl)))) (Eq.trans (Eq.trans (k_aload rfl rfl) (Eq.trans (RUN_ci rfl rfl rfl s2 s1.1) (Eq.trans (k_store rfl) (Eq.trans (k_aload rfl rfl) (Eq.trans (RUN_ci rfl rfl rfl e_209 (qle_refl _)) (Eq.trans (k_iload rfl rfl) (Eq.trans (Eq.trans (k_icmpc (V 33 0 6 = k) rfl (iI_eq (by rw [s3]; constructor <;> omega) (by constructor <;> omega))) (cif_pos s3)) (Eq.trans (k_iload rfl rfl) (k_ifcN (k = 0) rfl (iI_ne0 (by constructor <;> omega))))))))))) (cif_eq (fun z => ?_) (fun z => ?_)))⟩
  · 
    have eo : q2.2.2.1 44 0 0 = i2L m := by rw [s1.2.2.2, u2 z, s4 z]
    exact (Eq.trans (k_aload rfl rfl) (Eq.trans (k_pushi 0 rfl rfl) (Eq.trans (k_laldE rfl eo) (Eq.trans (k_iload rfl rfl) (Eq.trans (k_i2l rfl) (Eq.trans (k_lcmpE rfl) (Eq.trans (Eq.trans (k_ifc ((0 : Int) = 0) rfl (iI_eq0 (show R32 (0 : Int) by decide))) (cif_pos rfl)) (k_goto rfl))))))))
  · exact k_goto rfl
theorem cse_39 {D : Nat} {B i : Int} {H : VV} {q : QQ} (h9 : 149 ≤ q.2.1.1) (op : OP B D 151 [aR 1 0] (cmL [(3, 1)]) 282 [aR 33 0] H) : Nxt B (D + 2) 2417 i q H := by
  intro a b c
  obtain ⟨k, v, U, oc, aft⟩ := op q
  have hk := Oc_k oc
  obtain ⟨q1, u1, u2, e⟩ := wrT_150 oc
  obtain ⟨q2, m, V, s1, s2, s3, s4, s5⟩ := aft q1 (Nat.le_trans h9 u1.1.1)
  have s2 := RUN_deep s2
  refine ⟨q2, V, sI k, sI m, c, qu2_of u1 s1, s5, Eq.trans (Eq.trans (k_aload rfl rfl) (Eq.trans (k_aload rfl rfl) (Eq.trans (RUN_ci rfl rfl rfl e u1.1) (k_store rfl)))) (Eq.trans (Eq.trans (k_aload rfl rfl) (Eq.trans (RUN_ci rfl rfl rfl s2 s1.1) (Eq.trans (k_store rfl) (Eq.trans (k_aload rfl rfl) (Eq.trans (RUN_ci rfl rfl rfl e_209 (qle_refl _)) (Eq.trans (k_iload rfl rfl) (Eq.trans (Eq.trans (k_icmpc (V 33 0 6 = k) rfl (iI_eq (by rw [s3]; constructor <;> omega) (by constructor <;> omega))) (cif_pos s3)) (Eq.trans (k_iload rfl rfl) (k_ifcN (k = 0) rfl (iI_ne0 (by constructor <;> omega))))))))))) (cif_eq (fun z => ?_) (fun z => ?_)))⟩
  · 
    have eo : q2.2.2.1 44 0 0 = i2L m := by rw [s1.2.2.2, u2 z, s4 z]
    exact (Eq.trans (k_aload rfl rfl) (Eq.trans (k_pushi 0 rfl rfl) (Eq.trans (k_laldE rfl eo) (Eq.trans (k_iload rfl rfl) (Eq.trans (k_i2l rfl) (Eq.trans (k_lcmpE rfl) (Eq.trans (Eq.trans (k_ifc ((0 : Int) = 0) rfl (iI_eq0 (show R32 (0 : Int) by decide))) (cif_pos rfl)) (k_goto rfl))))))))
  · exact k_goto rfl
theorem cse_42 {D : Nat} {B i : Int} {H : VV} {q : QQ} (h9 : 149 ≤ q.2.1.1) (hi : 0 ≤ i ∧ i + 3 < (q.1.1 : Int)) (hn : q.1.1 < 2147483648) (op : OP B D 157 [aR 1 0, aI (iI (ag q i 1))] (cmL [(2, 1)]) 286 [aR 33 0, aI (iI (ag q i 1))] H) : Nxt B (D + 2) 2592 i q H := by
  intro a b c
  obtain ⟨k, v, U, oc, aft⟩ := op q
  have hk := Oc_k oc
  obtain ⟨q1, u1, u2, e⟩ := wrT_156 oc
  obtain ⟨q2, m, V, s1, s2, s3, s4, s5⟩ := aft q1 (Nat.le_trans h9 u1.1.1)
  have s2 := RUN_deep s2
  refine ⟨q2, V, sI k, sI m, c, qu2_of u1 s1, s5, Eq.trans (Eq.trans (k_aload rfl rfl) (Eq.trans (k_aload rfl rfl) (Eq.trans (k_iload rfl rfl) (Eq.trans (k_pushi 1 rfl rfl) (Eq.trans (k_bin rfl (iI_add _ _)) (Eq.trans (k_scr rfl rfl (by omega) hn) (Eq.trans (k_aload rfl rfl) (Eq.trans (RUN_ci rfl rfl rfl e u1.1) (k_store rfl))))))))) (Eq.trans (Eq.trans (k_aload rfl rfl) (Eq.trans (k_aload rfl rfl) (Eq.trans (k_iload rfl rfl) (Eq.trans (k_pushi 1 rfl rfl) (Eq.trans (k_bin rfl (iI_add _ _)) (Eq.trans (k_scr rfl u1.2.2 (by omega) hn) (Eq.trans (RUN_ci rfl rfl rfl s2 s1.1) (Eq.trans (k_store rfl) (Eq.trans (k_aload rfl rfl) (Eq.trans (RUN_ci rfl rfl rfl e_209 (qle_refl _)) (Eq.trans (k_iload rfl rfl) (Eq.trans (Eq.trans (k_icmpc (V 33 0 6 = k) rfl (iI_eq (by rw [s3]; constructor <;> omega) (by constructor <;> omega))) (cif_pos s3)) (Eq.trans (k_iload rfl rfl) (k_ifcN (k = 0) rfl (iI_ne0 (by constructor <;> omega)))))))))))))))) (cif_eq (fun z => ?_) (fun z => ?_)))⟩
  · 
    have eo : q2.2.2.1 44 0 0 = i2L m := by rw [s1.2.2.2, u2 z, s4 z]
    exact (Eq.trans (k_aload rfl rfl) (Eq.trans (k_pushi 0 rfl rfl) (Eq.trans (k_laldE rfl eo) (Eq.trans (k_iload rfl rfl) (Eq.trans (k_i2l rfl) (Eq.trans (k_lcmpE rfl) (Eq.trans (Eq.trans (k_ifc ((0 : Int) = 0) rfl (iI_eq0 (show R32 (0 : Int) by decide))) (cif_pos rfl)) (k_goto rfl))))))))
  · exact k_goto rfl
theorem cse_43 {D : Nat} {B i : Int} {H : VV} {q : QQ} (h9 : 149 ≤ q.2.1.1) (hi : 0 ≤ i ∧ i + 3 < (q.1.1 : Int)) (hn : q.1.1 < 2147483648) (op : OP B D 162 [aR 1 0, aI (iI (ag q i 1)), aI (iI (ag q i 2))] (cmL [(2, 1), (3, 2)]) 289 [aR 33 0, aI (iI (ag q i 1)), aI (iI (ag q i 2))] H) : Nxt B (D + 2) 2648 i q H := by
  intro a b c
  obtain ⟨k, v, U, oc, aft⟩ := op q
  have hk := Oc_k oc
  obtain ⟨q1, u1, u2, e⟩ := wrT_161 oc
  obtain ⟨q2, m, V, s1, s2, s3, s4, s5⟩ := aft q1 (Nat.le_trans h9 u1.1.1)
  have s2 := RUN_deep s2
  refine ⟨q2, V, sI k, sI m, c, qu2_of u1 s1, s5, Eq.trans (Eq.trans (k_aload rfl rfl) (Eq.trans (k_aload rfl rfl) (Eq.trans (k_iload rfl rfl) (Eq.trans (k_pushi 1 rfl rfl) (Eq.trans (k_bin rfl (iI_add _ _)) (Eq.trans (k_scr rfl rfl (by omega) hn) (Eq.trans (k_aload rfl rfl) (Eq.trans (k_iload rfl rfl) (Eq.trans (k_pushi 2 rfl rfl) (Eq.trans (k_bin rfl (iI_add _ _)) (Eq.trans (k_scr rfl rfl (by omega) hn) (Eq.trans (k_aload rfl rfl) (Eq.trans (RUN_ci rfl rfl rfl e u1.1) (k_store rfl)))))))))))))) (Eq.trans (Eq.trans (k_aload rfl rfl) (Eq.trans (k_aload rfl rfl) (Eq.trans (k_iload rfl rfl) (Eq.trans (k_pushi 1 rfl rfl) (Eq.trans (k_bin rfl (iI_add _ _)) (Eq.trans (k_scr rfl u1.2.2 (by omega) hn) (Eq.trans (k_aload rfl rfl) (Eq.trans (k_iload rfl rfl) (Eq.trans (k_pushi 2 rfl rfl) (Eq.trans (k_bin rfl (iI_add _ _)) (Eq.trans (k_scr rfl u1.2.2 (by omega) hn) (Eq.trans (RUN_ci rfl rfl rfl s2 s1.1) (Eq.trans (k_store rfl) (Eq.trans (k_aload rfl rfl) (Eq.trans (RUN_ci rfl rfl rfl e_209 (qle_refl _)) (Eq.trans (k_iload rfl rfl) (Eq.trans (Eq.trans (k_icmpc (V 33 0 6 = k) rfl (iI_eq (by rw [s3]; constructor <;> omega) (by constructor <;> omega))) (cif_pos s3)) (Eq.trans (k_iload rfl rfl) (k_ifcN (k = 0) rfl (iI_ne0 (by constructor <;> omega))))))))))))))))))))) (cif_eq (fun z => ?_) (fun z => ?_)))⟩
  · 
    have eo : q2.2.2.1 44 0 0 = i2L m := by rw [s1.2.2.2, u2 z, s4 z]
    exact (Eq.trans (k_aload rfl rfl) (Eq.trans (k_pushi 0 rfl rfl) (Eq.trans (k_laldE rfl eo) (Eq.trans (k_iload rfl rfl) (Eq.trans (k_i2l rfl) (Eq.trans (k_lcmpE rfl) (Eq.trans (Eq.trans (k_ifc ((0 : Int) = 0) rfl (iI_eq0 (show R32 (0 : Int) by decide))) (cif_pos rfl)) (k_goto rfl))))))))
  · exact k_goto rfl
theorem cse_44 {D : Nat} {B i : Int} {H : VV} {q : QQ} (h9 : 149 ≤ q.2.1.1) (hi : 0 ≤ i ∧ i + 3 < (q.1.1 : Int)) (hn : q.1.1 < 2147483648) (op : OP B D 164 [aR 1 0, aI (iI (ag q i 1))] (cmL [(0, 1)]) 290 [aR 33 0, aI (iI (ag q i 1))] H) : Nxt B (D + 2) 2716 i q H := by
  intro a b c
  obtain ⟨k, v, U, oc, aft⟩ := op q
  have hk := Oc_k oc
  obtain ⟨q1, u1, u2, e⟩ := wrT_163 oc
  obtain ⟨q2, m, V, s1, s2, s3, s4, s5⟩ := aft q1 (Nat.le_trans h9 u1.1.1)
  have s2 := RUN_deep s2
  refine ⟨q2, V, sI k, sI m, c, qu2_of u1 s1, s5, Eq.trans (Eq.trans (k_aload rfl rfl) (Eq.trans (k_aload rfl rfl) (Eq.trans (k_iload rfl rfl) (Eq.trans (k_pushi 1 rfl rfl) (Eq.trans (k_bin rfl (iI_add _ _)) (Eq.trans (k_scr rfl rfl (by omega) hn) (Eq.trans (k_aload rfl rfl) (Eq.trans (RUN_ci rfl rfl rfl e u1.1) (k_store rfl))))))))) (Eq.trans (Eq.trans (k_aload rfl rfl) (Eq.trans (k_aload rfl rfl) (Eq.trans (k_iload rfl rfl) (Eq.trans (k_pushi 1 rfl rfl) (Eq.trans (k_bin rfl (iI_add _ _)) (Eq.trans (k_scr rfl u1.2.2 (by omega) hn) (Eq.trans (RUN_ci rfl rfl rfl s2 s1.1) (Eq.trans (k_store rfl) (Eq.trans (k_aload rfl rfl) (Eq.trans (RUN_ci rfl rfl rfl e_209 (qle_refl _)) (Eq.trans (k_iload rfl rfl) (Eq.trans (Eq.trans (k_icmpc (V 33 0 6 = k) rfl (iI_eq (by rw [s3]; constructor <;> omega) (by constructor <;> omega))) (cif_pos s3)) (Eq.trans (k_iload rfl rfl) (k_ifcN (k = 0) rfl (iI_ne0 (by constructor <;> omega)))))))))))))))) (cif_eq (fun z => ?_) (fun z => ?_)))⟩
  · 
    have eo : q2.2.2.1 44 0 0 = i2L m := by rw [s1.2.2.2, u2 z, s4 z]
    exact (Eq.trans (k_aload rfl rfl) (Eq.trans (k_pushi 0 rfl rfl) (Eq.trans (k_laldE rfl eo) (Eq.trans (k_iload rfl rfl) (Eq.trans (k_i2l rfl) (Eq.trans (k_lcmpE rfl) (Eq.trans (Eq.trans (k_ifc ((0 : Int) = 0) rfl (iI_eq0 (show R32 (0 : Int) by decide))) (cif_pos rfl)) (k_goto rfl))))))))
  · exact k_goto rfl
theorem cse_45 {D : Nat} {B i : Int} {H : VV} {q : QQ} (h9 : 149 ≤ q.2.1.1) (hi : 0 ≤ i ∧ i + 3 < (q.1.1 : Int)) (hn : q.1.1 < 2147483648) (op : OP B D 166 [aR 1 0, aI (iI (ag q i 1))] (cmL [(2, 1)]) 291 [aR 33 0, aI (iI (ag q i 1))] H) : Nxt B (D + 2) 2772 i q H := by
  intro a b c
  obtain ⟨k, v, U, oc, aft⟩ := op q
  have hk := Oc_k oc
  obtain ⟨q1, u1, u2, e⟩ := wrT_165 oc
  obtain ⟨q2, m, V, s1, s2, s3, s4, s5⟩ := aft q1 (Nat.le_trans h9 u1.1.1)
  have s2 := RUN_deep s2
  refine ⟨q2, V, sI k, sI m, c, qu2_of u1 s1, s5, Eq.trans (Eq.trans (k_aload rfl rfl) (Eq.trans (k_aload rfl rfl) (Eq.trans (k_iload rfl rfl) (Eq.trans (k_pushi 1 rfl rfl) (Eq.trans (k_bin rfl (iI_add _ _)) (Eq.trans (k_scr rfl rfl (by omega) hn) (Eq.trans (k_aload rfl rfl) (Eq.trans (RUN_ci rfl rfl rfl e u1.1) (k_store rfl))))))))) (Eq.trans (Eq.trans (k_aload rfl rfl) (Eq.trans (k_aload rfl rfl) (Eq.trans (k_iload rfl rfl) (Eq.trans (k_pushi 1 rfl rfl) (Eq.trans (k_bin rfl (iI_add _ _)) (Eq.trans (k_scr rfl u1.2.2 (by omega) hn) (Eq.trans (RUN_ci rfl rfl rfl s2 s1.1) (Eq.trans (k_store rfl) (Eq.trans (k_aload rfl rfl) (Eq.trans (RUN_ci rfl rfl rfl e_209 (qle_refl _)) (Eq.trans (k_iload rfl rfl) (Eq.trans (Eq.trans (k_icmpc (V 33 0 6 = k) rfl (iI_eq (by rw [s3]; constructor <;> omega) (by constructor <;> omega))) (cif_pos s3)) (Eq.trans (k_iload rfl rfl) (k_ifcN (k = 0) rfl (iI_ne0 (by constructor <;> omega)))))))))))))))) (cif_eq (fun z => ?_) (fun z => ?_)))⟩
  · 
    have eo : q2.2.2.1 44 0 0 = i2L m := by rw [s1.2.2.2, u2 z, s4 z]
    exact (Eq.trans (k_aload rfl rfl) (Eq.trans (k_pushi 0 rfl rfl) (Eq.trans (k_laldE rfl eo) (Eq.trans (k_iload rfl rfl) (Eq.trans (k_i2l rfl) (Eq.trans (k_lcmpE rfl) (Eq.trans (Eq.trans (k_ifc ((0 : Int) = 0) rfl (iI_eq0 (show R32 (0 : Int) by decide))) (cif_pos rfl)) (k_goto rfl))))))))
  · exact k_goto rfl
theorem cse_46 {D : Nat} {B i : Int} {H : VV} {q : QQ} (h9 : 149 ≤ q.2.1.1) (op : OP B D 41 [aR 1 0] (cmL []) 285 [aR 33 0] H) : Nxt B (D + 1) 2828 i q H := by
  intro a b c
  obtain ⟨k, v, U, oc, aft⟩ := op q
  obtain ⟨rfl, e⟩ := Oc_nil oc
  obtain ⟨q2, m, V, s1, s2, s3, s4, s5⟩ := aft q h9
  have s4 := s4 rfl
  subst s4
  refine ⟨q2, V, a, b, c, qu2_st s1, s5, (Eq.trans (k_aload rfl rfl) (Eq.trans (RUN_ci rfl rfl rfl e (qle_refl q)) (Eq.trans (k_aload rfl rfl) (Eq.trans (RUN_ci rfl rfl rfl s2 s1.1) ((k_icmpc (iI m = iI m) rfl Iff.rfl).trans (cif_pos rfl))))))⟩
theorem cse_47 {D : Nat} {B i : Int} {H : VV} {q : QQ} (h9 : 149 ≤ q.2.1.1) (hi : 0 ≤ i ∧ i + 3 < (q.1.1 : Int)) (hn : q.1.1 < 2147483648) (op : OP B D 168 [aR 1 0, aI (iI ((ag q i 1 % 65536)))] (cmL [(1, 1)]) 292 [aR 33 0, aI (iI ((ag q i 1 % 65536)))] H) : Nxt B (D + 2) 2841 i q H := by
  intro a b c
  obtain ⟨k, v, U, oc, aft⟩ := op q
  have hk := Oc_k oc
  obtain ⟨q1, u1, u2, e⟩ := wrT_167 oc
  obtain ⟨q2, m, V, s1, s2, s3, s4, s5⟩ := aft q1 (Nat.le_trans h9 u1.1.1)
  have s2 := RUN_deep s2
  refine ⟨q2, V, sI k, sI m, c, qu2_of u1 s1, s5, Eq.trans (Eq.trans (k_aload rfl rfl) (Eq.trans (k_aload rfl rfl) (Eq.trans (k_iload rfl rfl) (Eq.trans (k_pushi 1 rfl rfl) (Eq.trans (k_bin rfl (iI_add _ _)) (Eq.trans (k_scr rfl rfl (by omega) hn) (Eq.trans (k_un rfl (iI_i2c _)) (Eq.trans (k_aload rfl rfl) (Eq.trans (RUN_ci rfl rfl rfl e u1.1) (k_store rfl)))))))))) (Eq.trans (Eq.trans (k_aload rfl rfl) (Eq.trans (k_aload rfl rfl) (Eq.trans (k_iload rfl rfl) (Eq.trans (k_pushi 1 rfl rfl) (Eq.trans (k_bin rfl (iI_add _ _)) (Eq.trans (k_scr rfl u1.2.2 (by omega) hn) (Eq.trans (k_un rfl (iI_i2c _)) (Eq.trans (RUN_ci rfl rfl rfl s2 s1.1) (Eq.trans (k_store rfl) (Eq.trans (k_aload rfl rfl) (Eq.trans (RUN_ci rfl rfl rfl e_209 (qle_refl _)) (Eq.trans (k_iload rfl rfl) (Eq.trans (Eq.trans (k_icmpc (V 33 0 6 = k) rfl (iI_eq (by rw [s3]; constructor <;> omega) (by constructor <;> omega))) (cif_pos s3)) (Eq.trans (k_iload rfl rfl) (k_ifcN (k = 0) rfl (iI_ne0 (by constructor <;> omega))))))))))))))))) (cif_eq (fun z => ?_) (fun z => ?_)))⟩
  · 
    have eo : q2.2.2.1 44 0 0 = i2L m := by rw [s1.2.2.2, u2 z, s4 z]
    exact (Eq.trans (k_aload rfl rfl) (Eq.trans (k_pushi 0 rfl rfl) (Eq.trans (k_laldE rfl eo) (Eq.trans (k_iload rfl rfl) (Eq.trans (k_i2l rfl) (Eq.trans (k_lcmpE rfl) (Eq.trans (Eq.trans (k_ifc ((0 : Int) = 0) rfl (iI_eq0 (show R32 (0 : Int) by decide))) (cif_pos rfl)) (k_goto rfl))))))))
  · exact k_goto rfl
theorem cse_48 {D : Nat} {B i : Int} {H : VV} {q : QQ} (h9 : 149 ≤ q.2.1.1) (op : OP B D 171 [aR 1 0] (cmL [(0, 1), (4, 2)]) 293 [aR 33 0] H) : Nxt B (D + 2) 2899 i q H := by
  intro a b c
  obtain ⟨k, v, U, oc, aft⟩ := op q
  have hk := Oc_k oc
  obtain ⟨q1, u1, u2, e⟩ := wrT_170 oc
  obtain ⟨q2, m, V, s1, s2, s3, s4, s5⟩ := aft q1 (Nat.le_trans h9 u1.1.1)
  have s2 := RUN_deep s2
  refine ⟨q2, V, sI k, sI m, c, qu2_of u1 s1, s5, Eq.trans (Eq.trans (k_aload rfl rfl) (Eq.trans (k_aload rfl rfl) (Eq.trans (RUN_ci rfl rfl rfl e u1.1) (k_store rfl)))) (Eq.trans (Eq.trans (k_aload rfl rfl) (Eq.trans (RUN_ci rfl rfl rfl s2 s1.1) (Eq.trans (k_store rfl) (Eq.trans (k_aload rfl rfl) (Eq.trans (RUN_ci rfl rfl rfl e_209 (qle_refl _)) (Eq.trans (k_iload rfl rfl) (Eq.trans (Eq.trans (k_icmpc (V 33 0 6 = k) rfl (iI_eq (by rw [s3]; constructor <;> omega) (by constructor <;> omega))) (cif_pos s3)) (Eq.trans (k_iload rfl rfl) (k_ifcN (k = 0) rfl (iI_ne0 (by constructor <;> omega))))))))))) (cif_eq (fun z => ?_) (fun z => ?_)))⟩
  · 
    have eo : q2.2.2.1 44 0 0 = i2L m := by rw [s1.2.2.2, u2 z, s4 z]
    exact (Eq.trans (k_aload rfl rfl) (Eq.trans (k_pushi 0 rfl rfl) (Eq.trans (k_laldE rfl eo) (Eq.trans (k_iload rfl rfl) (Eq.trans (k_i2l rfl) (Eq.trans (k_lcmpE rfl) (Eq.trans (Eq.trans (k_ifc ((0 : Int) = 0) rfl (iI_eq0 (show R32 (0 : Int) by decide))) (cif_pos rfl)) (k_goto rfl))))))))
  · exact k_goto rfl
theorem cse_49 {D : Nat} {B i : Int} {H : VV} {q : QQ} (h9 : 149 ≤ q.2.1.1) (op : OP B D 199 [aR 1 0] (cmL [(3, 1)]) 301 [aR 33 0] H) : Nxt B (D + 2) 2943 i q H := by
  intro a b c
  obtain ⟨k, v, U, oc, aft⟩ := op q
  have hk := Oc_k oc
  obtain ⟨q1, u1, u2, e⟩ := wrT_198 oc
  obtain ⟨q2, m, V, s1, s2, s3, s4, s5⟩ := aft q1 (Nat.le_trans h9 u1.1.1)
  have s2 := RUN_deep s2
  refine ⟨q2, V, sI k, sI m, c, qu2_of u1 s1, s5, Eq.trans (Eq.trans (k_aload rfl rfl) (Eq.trans (k_aload rfl rfl) (Eq.trans (RUN_ci rfl rfl rfl e u1.1) (k_store rfl)))) (Eq.trans (Eq.trans (k_aload rfl rfl) (Eq.trans (RUN_ci rfl rfl rfl s2 s1.1) (Eq.trans (k_store rfl) (Eq.trans (k_aload rfl rfl) (Eq.trans (RUN_ci rfl rfl rfl e_209 (qle_refl _)) (Eq.trans (k_iload rfl rfl) (Eq.trans (Eq.trans (k_icmpc (V 33 0 6 = k) rfl (iI_eq (by rw [s3]; constructor <;> omega) (by constructor <;> omega))) (cif_pos s3)) (Eq.trans (k_iload rfl rfl) (k_ifcN (k = 0) rfl (iI_ne0 (by constructor <;> omega))))))))))) (cif_eq (fun z => ?_) (fun z => ?_)))⟩
  · 
    have eo : q2.2.2.1 44 0 0 = i2L m := by rw [s1.2.2.2, u2 z, s4 z]
    exact (Eq.trans (k_aload rfl rfl) (Eq.trans (k_pushi 0 rfl rfl) (Eq.trans (k_laldE rfl eo) (Eq.trans (k_iload rfl rfl) (Eq.trans (k_i2l rfl) (Eq.trans (k_lcmpE rfl) (Eq.trans (Eq.trans (k_ifc ((0 : Int) = 0) rfl (iI_eq0 (show R32 (0 : Int) by decide))) (cif_pos rfl)) (k_goto rfl))))))))
  · exact k_goto rfl
theorem cse_50 {D : Nat} {B i : Int} {H : VV} {q : QQ} (h9 : 149 ≤ q.2.1.1) (op : OP B D 201 [aR 1 0] (cmL [(3, 1)]) 302 [aR 33 0] H) : Nxt B (D + 2) 2987 i q H := by
  intro a b c
  obtain ⟨k, v, U, oc, aft⟩ := op q
  have hk := Oc_k oc
  obtain ⟨q1, u1, u2, e⟩ := wrT_200 oc
  obtain ⟨q2, m, V, s1, s2, s3, s4, s5⟩ := aft q1 (Nat.le_trans h9 u1.1.1)
  have s2 := RUN_deep s2
  refine ⟨q2, V, sI k, sI m, c, qu2_of u1 s1, s5, Eq.trans (Eq.trans (k_aload rfl rfl) (Eq.trans (k_aload rfl rfl) (Eq.trans (RUN_ci rfl rfl rfl e u1.1) (k_store rfl)))) (Eq.trans (Eq.trans (k_aload rfl rfl) (Eq.trans (RUN_ci rfl rfl rfl s2 s1.1) (Eq.trans (k_store rfl) (Eq.trans (k_aload rfl rfl) (Eq.trans (RUN_ci rfl rfl rfl e_209 (qle_refl _)) (Eq.trans (k_iload rfl rfl) (Eq.trans (Eq.trans (k_icmpc (V 33 0 6 = k) rfl (iI_eq (by rw [s3]; constructor <;> omega) (by constructor <;> omega))) (cif_pos s3)) (Eq.trans (k_iload rfl rfl) (k_ifcN (k = 0) rfl (iI_ne0 (by constructor <;> omega))))))))))) (cif_eq (fun z => ?_) (fun z => ?_)))⟩
  · 
    have eo : q2.2.2.1 44 0 0 = i2L m := by rw [s1.2.2.2, u2 z, s4 z]
    exact (Eq.trans (k_aload rfl rfl) (Eq.trans (k_pushi 0 rfl rfl) (Eq.trans (k_laldE rfl eo) (Eq.trans (k_iload rfl rfl) (Eq.trans (k_i2l rfl) (Eq.trans (k_lcmpE rfl) (Eq.trans (Eq.trans (k_ifc ((0 : Int) = 0) rfl (iI_eq0 (show R32 (0 : Int) by decide))) (cif_pos rfl)) (k_goto rfl))))))))
  · exact k_goto rfl
theorem cse_51 {D : Nat} {B i : Int} {H : VV} {q : QQ} (h9 : 149 ≤ q.2.1.1) (op : OP B D 203 [aR 1 0] (cmL [(1, 1)]) 303 [aR 33 0] H) : Nxt B (D + 2) 3031 i q H := by
  intro a b c
  obtain ⟨k, v, U, oc, aft⟩ := op q
  have hk := Oc_k oc
  obtain ⟨q1, u1, u2, e⟩ := wrT_202 oc
  obtain ⟨q2, m, V, s1, s2, s3, s4, s5⟩ := aft q1 (Nat.le_trans h9 u1.1.1)
  have s2 := RUN_deep s2
  refine ⟨q2, V, sI k, sI m, c, qu2_of u1 s1, s5, Eq.trans (Eq.trans (k_aload rfl rfl) (Eq.trans (k_aload rfl rfl) (Eq.trans (RUN_ci rfl rfl rfl e u1.1) (k_store rfl)))) (Eq.trans (Eq.trans (k_aload rfl rfl) (Eq.trans (RUN_ci rfl rfl rfl s2 s1.1) (Eq.trans (k_store rfl) (Eq.trans (k_aload rfl rfl) (Eq.trans (RUN_ci rfl rfl rfl e_209 (qle_refl _)) (Eq.trans (k_iload rfl rfl) (Eq.trans (Eq.trans (k_icmpc (V 33 0 6 = k) rfl (iI_eq (by rw [s3]; constructor <;> omega) (by constructor <;> omega))) (cif_pos s3)) (Eq.trans (k_iload rfl rfl) (k_ifcN (k = 0) rfl (iI_ne0 (by constructor <;> omega))))))))))) (cif_eq (fun z => ?_) (fun z => ?_)))⟩
  · 
    have eo : q2.2.2.1 44 0 0 = i2L m := by rw [s1.2.2.2, u2 z, s4 z]
    exact (Eq.trans (k_aload rfl rfl) (Eq.trans (k_pushi 0 rfl rfl) (Eq.trans (k_laldE rfl eo) (Eq.trans (k_iload rfl rfl) (Eq.trans (k_i2l rfl) (Eq.trans (k_lcmpE rfl) (Eq.trans (Eq.trans (k_ifc ((0 : Int) = 0) rfl (iI_eq0 (show R32 (0 : Int) by decide))) (cif_pos rfl)) (k_goto rfl))))))))
  · exact k_goto rfl
theorem cse_52 {D : Nat} {B i : Int} {H : VV} {q : QQ} (h9 : 149 ≤ q.2.1.1) (op : OP B D 52 [aR 1 0] (cmL []) 304 [aR 33 0] H) : Nxt B (D + 1) 3075 i q H := by
  intro a b c
  obtain ⟨k, v, U, oc, aft⟩ := op q
  obtain ⟨rfl, e⟩ := Oc_nil oc
  obtain ⟨q2, m, V, s1, s2, s3, s4, s5⟩ := aft q h9
  have s4 := s4 rfl
  subst s4
  refine ⟨q2, V, a, b, c, qu2_st s1, s5, (Eq.trans (k_aload rfl rfl) (Eq.trans (RUN_ci rfl rfl rfl e (qle_refl q)) (Eq.trans (k_aload rfl rfl) (Eq.trans (RUN_ci rfl rfl rfl s2 s1.1) ((k_icmpc (iI m = iI m) rfl Iff.rfl).trans (cif_pos rfl))))))⟩
theorem cse_53 {D : Nat} {B i : Int} {H : VV} {q : QQ} (h9 : 149 ≤ q.2.1.1) (op : OP B D 53 [aR 1 0] (cmL []) 305 [aR 33 0] H) : Nxt B (D + 1) 3088 i q H := by
  intro a b c
  obtain ⟨k, v, U, oc, aft⟩ := op q
  obtain ⟨rfl, e⟩ := Oc_nil oc
  obtain ⟨q2, m, V, s1, s2, s3, s4, s5⟩ := aft q h9
  have s4 := s4 rfl
  subst s4
  refine ⟨q2, V, a, b, c, qu2_st s1, s5, (Eq.trans (k_aload rfl rfl) (Eq.trans (RUN_ci rfl rfl rfl e (qle_refl q)) (Eq.trans (k_aload rfl rfl) (Eq.trans (RUN_ci rfl rfl rfl s2 s1.1) ((k_icmpc (iI m = iI m) rfl Iff.rfl).trans (cif_pos rfl))))))⟩
theorem cse_54 {D : Nat} {B i : Int} {H : VV} {q : QQ} (h9 : 149 ≤ q.2.1.1) (op : OP B D 206 [aR 1 0] (cmL [(1, 1)]) 306 [aR 33 0] H) : Nxt B (D + 2) 3101 i q H := by
  intro a b c
  obtain ⟨k, v, U, oc, aft⟩ := op q
  have hk := Oc_k oc
  obtain ⟨q1, u1, u2, e⟩ := wrT_205 oc
  obtain ⟨q2, m, V, s1, s2, s3, s4, s5⟩ := aft q1 (Nat.le_trans h9 u1.1.1)
  have s2 := RUN_deep s2
  refine ⟨q2, V, sI k, sI m, c, qu2_of u1 s1, s5, Eq.trans (Eq.trans (k_aload rfl rfl) (Eq.trans (k_aload rfl rfl) (Eq.trans (RUN_ci rfl rfl rfl e u1.1) (k_store rfl)))) (Eq.trans (Eq.trans (k_aload rfl rfl) (Eq.trans (RUN_ci rfl rfl rfl s2 s1.1) (Eq.trans (k_store rfl) (Eq.trans (k_aload rfl rfl) (Eq.trans (RUN_ci rfl rfl rfl e_209 (qle_refl _)) (Eq.trans (k_iload rfl rfl) (Eq.trans (Eq.trans (k_icmpc (V 33 0 6 = k) rfl (iI_eq (by rw [s3]; constructor <;> omega) (by constructor <;> omega))) (cif_pos s3)) (Eq.trans (k_iload rfl rfl) (k_ifcN (k = 0) rfl (iI_ne0 (by constructor <;> omega))))))))))) (cif_eq (fun z => ?_) (fun z => ?_)))⟩
  · 
    have eo : q2.2.2.1 44 0 0 = i2L m := by rw [s1.2.2.2, u2 z, s4 z]
    exact (Eq.trans (k_aload rfl rfl) (Eq.trans (k_pushi 0 rfl rfl) (Eq.trans (k_laldE rfl eo) (Eq.trans (k_iload rfl rfl) (Eq.trans (k_i2l rfl) (Eq.trans (k_lcmpE rfl) (Eq.trans (Eq.trans (k_ifc ((0 : Int) = 0) rfl (iI_eq0 (show R32 (0 : Int) by decide))) (cif_pos rfl)) (k_goto rfl))))))))
  · exact k_goto rfl
