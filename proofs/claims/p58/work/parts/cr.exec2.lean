/-! execute, by the law's call -/
section
variable {B : Int} {d n0 : Nat} {q q' : QQ} {V V' : VV} {x1 x2 x3 : Int}
theorem w_397i {v : Int} (hc : RUN (d + 12) 171 (am_en 171 [aR 1 0]) (HM q V) = rI v (HM q' V')) (hq : qle q q') : RUN (d + 13) 397 (am_en 397 [aR 1 0]) (HM q V) = rI v (HM q' V') :=
  (show RUN (d + 13) 397 (0, [sR 1 0, none], []) (HM q V) = _ from Eq.trans (k_aload rfl rfl) (Eq.trans (RUN_ci rfl rfl rfl hc hq) (k_iret rfl trivial)))
theorem w_397x0 (hc : RUN (d + 12) 171 (am_en 171 [aR 1 0]) (HM q V) = rX 0 (HM q' V')) (hq : qle q q') : RUN (d + 13) 397 (am_en 397 [aR 1 0]) (HM q V) = rI (-1) (HM q' V') :=
  (show RUN (d + 13) 397 (0, [sR 1 0, none], []) (HM q V) = _ from Eq.trans (k_aload rfl rfl) (Eq.trans (RUN_ch rfl rfl rfl hc hq rfl rfl rfl) (Eq.trans (k_pushi (-1) rfl rfl) (k_iret rfl trivial))))
theorem w_397x4 (hc : RUN (d + 12) 171 (am_en 171 [aR 1 0]) (HM q V) = rX 4 (HM q' V')) (hq : qle q q') : RUN (d + 13) 397 (am_en 397 [aR 1 0]) (HM q V) = rI (-2) (HM q' V') :=
  (show RUN (d + 13) 397 (0, [sR 1 0, none], []) (HM q V) = _ from Eq.trans (k_aload rfl rfl) (Eq.trans (RUN_ch rfl rfl rfl hc hq rfl rfl rfl) (Eq.trans (k_pushi (-2) rfl rfl) (k_iret rfl trivial))))
theorem op_397 (h : LQ B V) (hB : B ≤ 999700) : ∃ v q' W, RUN (d + 13) 397 (am_en 397 [aR 1 0]) (HM q V) = rI v (HM q' W) ∧ OPd 1 (B + 100) n0 q V v q' W := by
  obtain ⟨h1, h2, h3, h4, h5, io⟩ := id h
  obtain ⟨W, w1, w2, w3, w4, w5⟩ := s_172 (d := d + 5) (q := q) io
  have hL := io.1
  have plen := prs_len (T := V 28 0) (L := V 27 0 4) 10 0
  have wo : ∀ a b, ¬ (a = 27 ∨ a = 29 ∨ a = 30) → upV W 27 0 4 0 a b = V a b := fun a b z => by rw [upV_off2 (by omega)]; exact w1.1 a b (by omega)
  have ioW : inok (upV W 27 0 4 0) := by
    obtain ⟨i1, i2, i3, i4, i5⟩ := w2
    have e : ∀ j, ¬ j = 4 → upV W 27 0 4 0 27 0 j = W 27 0 j := fun j z => by rw [upV_at, if_neg z]
    refine ⟨by rw [upV_at, if_pos rfl]; decide, by rw [e 5 (by decide)]; exact i2, by rw [e 6 (by decide)]; exact i3, by rw [e 3 (by decide)]; exact i4, fun j hj => ?_⟩
    rw [upV_off2 (a' := 28) (by omega)]
    exact i5 j hj
  -- what touched nothing but the input, the row before, the relays and the object's own numbers
  have fin : ∀ (X : VV) (C : Int), B ≤ C → (∀ a b, ¬ (14 ≤ a ∧ a ≤ 21) → ¬ a = 1 → ¬ (2 ≤ a ∧ a ≤ 10 ∧ b < 2) → X a b = upV W 27 0 4 0 a b) → RI C 0 X → relok X → smok X → LQ C X := by
    intro X C hC o ri rl sm
    refine ⟨ri, sm, ?_, rl, ?_, ?_⟩
    · unfold hisok
      rw [o 11 0 (by omega) (by omega) (by omega), wo 11 0 (by omega)]
      exact h3
    · unfold outok
      rw [o 31 0 (by omega) (by omega) (by omega), wo 31 0 (by omega)]
      exact h5
    · unfold inok
      rw [o 27 0 (by omega) (by omega) (by omega), o 28 0 (by omega) (by omega) (by omega)]
      exact ioW
  have head : RUN (d + 12) 171 (am_en 171 [aR 1 0]) (HM q V) = cif (prs (V 28 0) (V 27 0 4) 10 0).1 (RUN (d + 12) 171 (41, [sR 1 0, sI (b2i (prs (V 28 0) (V 27 0 4) 10 0).1), none], []) (HM q (upV W 27 0 4 0))) (RUN (d + 12) 171 (19, [sR 1 0, sI (b2i (prs (V 28 0) (V 27 0 4) 10 0).1), none], []) (HM q (upV W 27 0 4 0))) :=
    (show RUN (d + 12) 171 (0, [sR 1 0, none, none], []) (HM q V) = _ from Eq.trans (k_aload rfl rfl) (Eq.trans (k_getfr rfl rfl rfl) (Eq.trans (RUN_ci rfl rfl rfl w5 (qle_refl _)) (Eq.trans (k_store rfl) (Eq.trans (k_aload rfl rfl) (Eq.trans (k_getfr rfl rfl rfl) (Eq.trans (RUN_ci rfl rfl rfl e_190 (qle_refl _)) (Eq.trans (k_iload rfl rfl) (k_ifc (prs (V 28 0) (V 27 0 4) 10 0).1 rfl b2i_ne0)))))))))
  by_cases ok : (prs (V 28 0) (V 27 0 4) 10 0).1
  · rw [cif_pos ok] at head
    obtain ⟨n1, n2⟩ := w4 ok
    have head2 : RUN (d + 12) 171 (am_en 171 [aR 1 0]) (HM q V) = RUN (d + 12) 171 (54, [sR 1 0, sI (b2i (prs (V 28 0) (V 27 0 4) 10 0).1), sI 0], []) (HM q (copyV (upV W 27 0 4 0) 1 0)) :=
      head.trans (Eq.trans (k_aload rfl rfl) (Eq.trans (k_getfr rfl rfl rfl) (Eq.trans (k_aload rfl rfl) (Eq.trans (k_getfr rfl rfl rfl) (Eq.trans (RUN_ci rfl rfl rfl (s_54 (r := 1) (s := 0) (by decide) (by decide)) (qle_refl _)) (Eq.trans (k_pushi 0 rfl rfl) (Eq.trans (k_store rfl) rfl)))))))
    have all : ∀ x ∈ (prs (V 28 0) (V 27 0 4) 10 0).2.2, cmdOK x := prs_ok 10 0 ok
    generalize hxs : (prs (V 28 0) (V 27 0 4) 10 0).2.2 = xs at n1 n2 all plen
    have so : ∀ a b, ¬ (2 ≤ a ∧ a ≤ 10 ∧ b = 1) → copyV (upV W 27 0 4 0) 1 0 a b = upV W 27 0 4 0 a b := fun a b z => copyV_off (by omega)
    have sH : ∀ a b, ¬ (2 ≤ a ∧ a ≤ 10 ∧ b = 1) → ¬ (a = 27 ∨ a = 29 ∨ a = 30) → copyV (upV W 27 0 4 0) 1 0 a b = V a b := fun a b z1 z2 => by rw [so a b z1]; exact wo a b z2
    have riS : RI B 0 (copyV (upV W 27 0 4 0) 1 0) := RI_off (fun a z1 z2 => sH a 0 (by omega) (by omega)) h1
    have ciS : clsI B (copyV (upV W 27 0 4 0) 1 0) := ⟨riS, relok_eq (fun a b z1 z2 => sH a b (by omega) (by omega)) h4, smok_eq (sH 23 0 (by omega) (by omega)) h2⟩
    have c6 : copyV (upV W 27 0 4 0) 1 0 27 0 6 = 0 + xs.length := by
      rw [so 27 0 (by omega), upV_at, if_neg (by decide), n1]
      omega
    have cAt : ∀ j : Nat, j < xs.length → cmdAt (copyV (upV W 27 0 4 0) 1 0) (0 + j) (xs.getD j (0, [])) := fun j hj => by
      rw [Int.zero_add]
      obtain ⟨y1, y2⟩ := n2 j hj
      exact ⟨by rw [so 29 0 (by omega), upV_off2 (by omega)]; exact y1, fun z hz => by rw [so 30 0 (by omega), upV_off2 (by omega)]; exact y2 z hz⟩
    obtain ⟨l1, l2, l3, l4, l5, l6⟩ := lc_go (d := d + 6) xs 0 (copyV (upV W 27 0 4 0) 1 0) B ciS c6 (by decide) (by omega) (by omega) cAt all
    generalize hR : runC 0 xs (copyV (upV W 27 0 4 0) 1 0) = R at l1 l2 l3 l4 l5 l6
    have head3 := head2.trans (l6 q (sI (b2i (prs (V 28 0) (V 27 0 4) 10 0).1)))
    have rH : ∀ a b, ¬ (14 ≤ a ∧ a ≤ 21) → ¬ a = 1 → ¬ (2 ≤ a ∧ a ≤ 10 ∧ b < 2) → R.2 a b = upV W 27 0 4 0 a b := fun a b z2 z3 z1 => by rw [l1.1 a b (by omega) z2 z3]; exact so a b (by omega)
    have r1 : rowEq R.2 1 V 0 := by
      refine (rowEq_of (U := copyV (upV W 27 0 4 0) 1 0) (s := 1) (fun a z1 z2 => l1.1 a 1 (by omega) (by omega) (by omega))).trans ((rowEq_copy (by decide)).trans (rowEq_of (fun a z1 z2 => wo a 0 (by omega))))
    have r11 : R.2 11 0 = V 11 0 := by rw [rH 11 0 (by omega) (by omega) (by omega)]; exact wo 11 0 (by omega)
    have r3 : ∀ a b, 2 ≤ a → a ≤ 10 → 3 ≤ b → R.2 a b = V a b := fun a b z1 z2 z3 => by rw [rH a b (by omega) (by omega) (by omega)]; exact wo a b (by omega)
    have r46 : ∀ x, R.2 46 x = V 46 x := fun x => by rw [rH 46 x (by omega) (by omega) (by omega)]; exact wo 46 x (by omega)
    by_cases c : R.1 = -1
    · rw [cif_pos c] at head3
      have lR : LQ (B + 100) R.2 := fin R.2 (B + 100) (by omega) rH (RI_mono (l4 c).1 (by omega)) l2 l3
      have b6 := lR.2.2.2.2.2.2.2.1
      have e : RUN (d + 12) 171 (am_en 171 [aR 1 0]) (HM q V) = rI (keepV R.2 1 27 0 6) (HM q (keepV R.2 1)) := by
        refine head3.trans ?_
        refine Eq.trans (k_aload rfl rfl) (Eq.trans (k_getfr rfl rfl rfl) (Eq.trans (k_aload rfl rfl) (Eq.trans (k_getfr rfl rfl rfl) (Eq.trans (RUN_ci rfl rfl rfl (s_59 (d := d + 10) (r := 1) (by decide) lR.2.2.1) (qle_refl _)) (Eq.trans (k_aload rfl rfl) (Eq.trans (k_getfr rfl rfl rfl) (Eq.trans (k_getfi 6 rfl rfl rfl rfl) ?_)))))))
        exact k_iret rfl trivial
      have e6 : keepV R.2 1 27 0 = R.2 27 0 := keepV_off (by decide) (by omega)
      refine ⟨_, q, _, w_397i e (qle_refl _), adv_refl q, fun x _ => ?_, LQ_keep lR, Or.inr ⟨?_, push_of (U := R.2) (r := 1) (by decide) r1 r11 r3 rfl (fun _ _ _ _ _ => rfl)⟩⟩
      · rw [keepV_off (by decide) (by omega)]
        exact r46 x
      · rw [e6]
        omega
    · rw [cif_neg c] at head3
      have e : RUN (d + 12) 171 (am_en 171 [aR 1 0]) (HM q V) = rX 4 (HM (thr q) (upV (copyV R.2 0 1) 1 0 14 R.1)) := by
        refine head3.trans ?_
        exact Eq.trans (k_aload rfl rfl) (Eq.trans (k_getfr rfl rfl rfl) (Eq.trans (k_aload rfl rfl) (Eq.trans (k_getfr rfl rfl rfl) (Eq.trans (RUN_ci rfl rfl rfl (s_54 (r := 0) (s := 1) (by decide) (by decide)) (qle_refl _)) (Eq.trans (k_aload rfl rfl) (Eq.trans (k_iload rfl rfl) (Eq.trans (k_putfi 14 rfl rfl rfl rfl trivial) (k_throw rfl rfl))))))))
      have cO : ∀ a b, ¬ a = 1 → ¬ (2 ≤ a ∧ a ≤ 10 ∧ b = 0) → upV (copyV R.2 0 1) 1 0 14 R.1 a b = R.2 a b := fun a b z1 z2 => by
        rw [upV_off2 (by omega)]
        exact copyV_off (by omega)
      have r0 : rowEq (upV (copyV R.2 0 1) 1 0 14 R.1) 0 V 0 := (rowEq_of (U := copyV R.2 0 1) (s := 0) (fun a z1 z2 => upV_off2 (by omega))).trans ((rowEq_copy (by decide)).trans r1)
      have ri1 : RI B 1 R.2 := RI_off (U := copyV (upV W 27 0 4 0) 1 0) (fun a z1 z2 => l1.1 a 1 (by omega) (by omega) (by omega)) (RI_copy (by decide) (RI_off (fun a z1 z2 => wo a 0 (by omega)) h1))
      have ri0 : RI B 0 (upV (copyV R.2 0 1) 1 0 14 R.1) := RI_off (U := copyV R.2 0 1) (fun a z1 z2 => upV_off2 (by omega)) (RI_copy (by decide) ri1)
      have lX : LQ (B + 100) (upV (copyV R.2 0 1) 1 0 14 R.1) := fin _ (B + 100) (by omega) (fun a b z1 z2 z3 => by rw [cO a b z2 (by omega)]; exact rH a b z1 z2 z3) (RI_mono ri0 (by omega)) (relok_eq (fun a b z1 z2 => cO a b (by omega) (by omega)) l2) (smok_eq (cO 23 0 (by omega) (by omega)) l3)
      refine ⟨-2, _, _, w_397x4 e (qle_thr _), adv_thr q, fun x _ => ?_, lX, Or.inl ⟨by decide, r0, ?_, fun a b z1 z2 z3 => ?_⟩⟩
      · rw [cO 46 x (by omega) (by omega)]
        exact r46 x
      · rw [cO 11 0 (by omega) (by omega)]
        exact r11
      · rw [cO a b (by omega) (by omega)]
        exact r3 a b z1 z2 z3
  · rw [cif_neg ok] at head
    have e : RUN (d + 12) 171 (am_en 171 [aR 1 0]) (HM q V) = rX 0 (HM (thr q) (upV (upV W 27 0 4 0) 1 0 13 (upV W 27 0 4 0 27 0 5))) := by
      refine head.trans ?_
      exact Eq.trans (k_aload rfl rfl) (Eq.trans (k_aload rfl rfl) (Eq.trans (k_getfr rfl rfl rfl) (Eq.trans (k_getfi 5 rfl rfl rfl rfl) (Eq.trans (k_putfi 13 rfl rfl rfl rfl trivial) (k_throw rfl rfl)))))
    have cO : ∀ a b, ¬ a = 1 → upV (upV W 27 0 4 0) 1 0 13 (upV W 27 0 4 0 27 0 5) a b = upV W 27 0 4 0 a b := fun a b z => upV_off2 (by omega)
    have cV : ∀ a b, ¬ a = 1 → ¬ (a = 27 ∨ a = 29 ∨ a = 30) → upV (upV W 27 0 4 0) 1 0 13 (upV W 27 0 4 0 27 0 5) a b = V a b := fun a b z1 z2 => by rw [cO a b z1]; exact wo a b z2
    have lX := fin (upV (upV W 27 0 4 0) 1 0 13 (upV W 27 0 4 0 27 0 5)) (B + 100) (by omega) (fun a b z1 z2 z3 => cO a b z2) (RI_mono (RI_off (fun a z1 z2 => cV a 0 (by omega) (by omega)) h1) (by omega)) (relok_eq (fun a b z1 z2 => cV a b (by omega) (by omega)) h4) (smok_eq (cV 23 0 (by omega) (by omega)) h2)
    exact ⟨-1, _, _, w_397x0 e (qle_thr _), adv_thr q, fun x _ => cV 46 x (by omega) (by omega), lX, Or.inl ⟨by decide, rowEq_of (fun a z1 z2 => cV a 0 (by omega) (by omega)), cV 11 0 (by omega) (by omega), fun a b z1 z2 z3 => cV a b (by omega) (by omega)⟩⟩
end
