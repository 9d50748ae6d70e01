/-! a text is executed by the law, character by character -/
section
variable {B : Int} {d n0 a b mb : Nat} {q q' : QQ} {V V' W : VV} {L : List Int}
theorem push_stay {X : VV} (h : stay V W) (p : pushd W X) : pushd V X := by
  obtain ⟨s1, s2, s3⟩ := h
  obtain ⟨⟨p1, p2⟩, p3, p4⟩ := p
  have es : slot W = slot V := by
    unfold slot
    rw [s2]
  rw [es] at p3 p4
  refine ⟨⟨by rw [p1, s2], by rw [p2, s2]⟩, p3.trans s1, fun a b z1 z2 z3 z4 => (p4 a b z1 z2 z3 z4).trans (s3 a b z1 z2 z3)⟩
theorem stay_stay {X : VV} (h : stay V W) (p : stay W X) : stay V X := ⟨p.1.trans h.1, p.2.1.trans h.2.1, fun a b z1 z2 z3 => (p.2.2 a b z1 z2 z3).trans (h.2.2 a b z1 z2 z3)⟩
/-- only the input was touched -/
def offIn (V W : VV) : Prop := ∀ a b, ¬ (27 ≤ a ∧ a ≤ 28) → W a b = V a b
theorem stay_I (o : offIn V W) : stay V W := ⟨rowEq_of (fun a z1 z2 => o a 0 (by omega)), o 11 0 (by omega), fun a b z1 z2 z3 => o a b (by omega)⟩
theorem LQ_I (h : LQ B V) (o : offIn V W) (io : inok W) : LQ B W := by
  obtain ⟨h1, h2, h3, h4, h5, h6⟩ := h
  refine ⟨RI_off (fun a z1 z2 => o a 0 (by omega)) h1, smok_eq (o 23 0 (by omega)) h2, ?_, relok_eq (fun a b z1 z2 => o a b (by omega)) h4, ?_, io⟩
  · unfold hisok
    rw [o 11 0 (by omega)]
    exact h3
  · unfold outok
    rw [o 31 0 (by omega)]
    exact h5
theorem op_396 {x : Int} (h : LQ B V) (hx : 0 ≤ x ∧ x < 128) : ∃ v q' W, RUN (d + 2) 396 (am_en 396 [aR 1 0, aI (iI x)]) (HM q V) = rI v (HM q' W) ∧ adv 1 6 n0 q q' ∧ offIn V W ∧ LQ B W ∧ R32 v ∧ (v = -14 ∨ (0 ≤ v ∧ q' = q)) := by
  obtain ⟨⟨i1, i1'⟩, i2, i3, i4, i5⟩ := h.2.2.2.2.2
  have e := e_396 (d := d) (q := q) (V := V) (x1 := x) (by omega) (by omega)
  by_cases c : V 27 0 4 < 60
  · rw [cif_pos c] at e
    have o : offIn V (upV (upV V 27 0 4 (V 27 0 4 + 1)) 28 0 (V 27 0 4) x) := fun a b z => by rw [upV_off2 (by omega), upV_off2 (by omega)]
    refine ⟨_, q, _, e, adv_refl q, o, LQ_I h o ?_, by omega, Or.inr ⟨by omega, rfl⟩⟩
    have e27 : ∀ j, upV (upV V 27 0 4 (V 27 0 4 + 1)) 28 0 (V 27 0 4) x 27 0 j = if j = 4 then V 27 0 4 + 1 else V 27 0 j := fun j => by rw [upV_off2 (by omega), upV_at]
    refine ⟨by rw [e27, if_pos rfl]; omega, by rw [e27, if_neg (by decide)]; exact i2, by rw [e27, if_neg (by decide)]; exact i3, by rw [e27, if_neg (by decide)]; exact i4, fun j hj => ?_⟩
    rw [upV_at, upV_off2 (by omega)]
    split
    · omega
    · exact i5 j hj
  · rw [cif_neg c] at e
    exact ⟨_, _, V, e, adv_thr q, fun _ _ _ => rfl, h, ⟨by decide, by decide⟩, Or.inl rfl⟩
theorem op_395 (hB : B ≤ 999700) : ∀ (r : Nat) (i : Nat) (q : QQ) (V : VV), LQ B V → ST n0 q V a b mb L → i + r = L.length → n0 ≤ q.2.1.1 → ∃ v q' W, RUN (d + 14) 395 (2, [sR 1 0, sR a b, sI (i : Int)], []) (HM q V) = rI v (HM q' W) ∧ OPd 2 (B + 100) n0 q V v q' W := by
  intro r
  induction r with
  | zero =>
    intro i q V h hst e0 hq
    obtain ⟨v, q', W, e, a1, k1, l1, r1⟩ := op_397 (d := d) (n0 := n0) (q := q) h hB
    refine ⟨v, q', W, ?_, a1.mono (by decide) (by decide) (Nat.le_refl _), k1, l1, r1⟩
    have ei : (i : Int) = L.length := by omega
    rw [ei]
    have hl := hst.1.2
    refine Eq.trans (k_iload rfl rfl) ?_
    refine Eq.trans (k_aload rfl rfl) ?_
    refine Eq.trans (RUN_ci rfl (s0_or hst rfl) rfl (c_181 (d := d + 12) hst) (qle_refl _)) ?_
    refine Eq.trans (Eq.trans (k_icmpc ((L.length : Int) ≤ (L.length : Int)) rfl (iI_le (by omega) (by omega))) (cif_pos (Int.le_refl _))) ?_
    refine Eq.trans (k_aload rfl rfl) ?_
    refine Eq.trans (RUN_ci rfl rfl rfl e a1.qle) ?_
    exact k_iret rfl trivial
  | succ r ih =>
    intro i q V h hst e0 hq
    have hl := hst.1.2
    have as := hst.1.1 i
    obtain ⟨v, q1, V1, e1, a1, o1, l1, rv, hv⟩ := op_396 (d := d + 11) (n0 := n0) (q := q) (x := L.getD i 0) h as
    have ec := c_175 (d := d + 10) (i := (i : Int)) hst (by omega)
    rw [show ((i : Int).toNat) = i by omega] at ec
    have k1 : k46 n0 V V1 := fun x _ => o1 46 x (by omega)
    have head : RUN (d + 14) 395 (2, [sR 1 0, sR a b, sI (i : Int)], []) (HM q V) = cif (v = (i : Int) + 1) (RUN (d + 14) 395 (2, [sR 1 0, sR a b, sI ((i : Int) + 1)], []) (HM q1 V1)) (rI (-9) (HM q1 V1)) := by
      refine Eq.trans (k_iload rfl rfl) ?_
      refine Eq.trans (k_aload rfl rfl) ?_
      refine Eq.trans (RUN_ci rfl (s0_or hst rfl) rfl (c_181 (d := d + 12) hst) (qle_refl _)) ?_
      refine Eq.trans (Eq.trans (k_icmpc ((L.length : Int) ≤ (i : Int)) rfl (iI_le (by omega) (by omega))) (cif_neg (by omega))) ?_
      refine Eq.trans (k_aload rfl rfl) ?_
      refine Eq.trans (k_aload rfl rfl) ?_
      refine Eq.trans (k_iload rfl rfl) ?_
      refine Eq.trans (RUN_ci rfl (s1_or hst rfl) rfl ec (qle_refl _)) ?_
      refine Eq.trans (RUN_ci rfl rfl rfl e1 a1.qle) ?_
      refine Eq.trans (k_iload rfl rfl) ?_
      refine Eq.trans (k_pushi (1) rfl rfl) ?_
      refine Eq.trans (k_bin rfl (iI_add _ _)) ?_
      refine Eq.trans (k_icmpc (v = (i : Int) + 1) rfl (iI_eq rv (by omega))) ?_
      refine cif_eq (fun c => ?_) (fun c => ?_)
      · rw [cif_pos c]
        refine Eq.trans (k_iinc 1 rfl rfl rfl) ?_
        exact k_goto rfl
      · rw [cif_neg c]
        refine Eq.trans (k_pushi (-9) rfl rfl) ?_
        exact k_iret rfl trivial
    by_cases c : v = (i : Int) + 1
    · rw [cif_pos c] at head
      have q1q : q1 = q := by
        rcases hv with z | ⟨_, z⟩
        · omega
        · exact z
      obtain ⟨v2, q2, W, e2, a2, k2, l2, r2⟩ := ih (i + 1) q1 V1 l1 (by rw [q1q]; exact (hst.keep2 (adv_refl (m := 0) (s := 0) q) k1)) (by omega) (by rw [q1q]; exact hq)
      rw [show ((i + 1 : Nat) : Int) = (i : Int) + 1 by omega] at e2
      rw [q1q] at head e2 a2
      refine ⟨v2, q2, W, head.trans e2, a2, k1.trans k2, l2, ?_⟩
      rcases r2 with ⟨z, s⟩ | ⟨z, p⟩
      · exact Or.inl ⟨z, stay_stay (stay_I o1) s⟩
      · exact Or.inr ⟨z, push_stay (stay_I o1) p⟩
    · rw [cif_neg c] at head
      exact ⟨-9, q1, V1, head, a1.mono (by decide) (by decide) (Nat.le_refl _), k1, l1.mono (by omega), Or.inl ⟨by decide, stay_I o1⟩⟩
theorem op_395e (hB : B ≤ 999700) (h : LQ B V) (hst : ST n0 q V a b mb L) (hq : n0 ≤ q.2.1.1) : ∃ v q' W, RUN (d + 14) 395 (am_en 395 [aR 1 0, aR a b]) (HM q V) = rI v (HM q' W) ∧ OPd 2 (B + 100) n0 q V v q' W := by
  obtain ⟨v, q', W, e, o⟩ := op_395 (d := d) hB L.length 0 q V h hst (by omega) hq
  refine ⟨v, q', W, ?_, o⟩
  refine (show RUN (d + 14) 395 (0, [sR 1 0, sR a b, none], []) (HM q V) = _ from ?_)
  refine Eq.trans (k_pushi (0) rfl rfl) ?_
  refine Eq.trans (k_store rfl) ?_
  exact e
theorem LQ.of_FS {m s : Nat} (h : LQ B V) (hB : B ≤ 1000000) (f : FS n0 m s q V q' W) : LQ B W := h.of_kp (kp_FS (h.lw hB) f)
end
