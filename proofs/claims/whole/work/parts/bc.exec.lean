/-! execute, on both sides -/
section
variable {d : Nat} {B C : Int} {H G K U V W X : VV}
theorem CR_push2 {r : Nat} (h : CR B H G) (hr : r < 3) (kr : RI B r K) (ks : SRr r K (G 34 0)) (k11 : K 11 0 = H 11 0) (k3 : ∀ a b, 2 ≤ a → a ≤ 10 → 3 ≤ b → K a b = H a b)
    (u11 : U 11 0 = keepV K r 11 0) (u3 : ∀ a b, 2 ≤ a → a ≤ 10 → 3 ≤ b → U a b = keepV K r a b) (u0 : ∀ a b, ¬ (14 ≤ a ∧ a ≤ 21) → ¬ (24 ≤ a ∧ a ≤ 26) → ¬ (2 ≤ a ∧ a ≤ 10 ∧ ¬ b = 2) → ¬ a = 11 → ¬ a = 1 → a < 33 → U a b = H a b) (u1 : ∀ j, ¬ (j = 11 ∨ j = 12) → U 1 0 j = H 1 0 j) (ri : RI C 0 U) (hC : B ≤ C ∧ C ≤ B + 100) (rl : relok U)
    (w35 : ∀ j, 0 ≤ j ∧ j < 154 → W 35 0 j = G 34 0 j) (w33 : ∀ j, j = 3 ∨ j = 5 ∨ j = 15 ∨ j = 17 ∨ j = 20 ∨ j = 21 → W 33 0 j = G 33 0 j) (w : ∀ a b, a = 36 ∨ a = 37 ∨ a = 41 ∨ a = 42 → W a b = G a b) (w34 : SRr 0 U (W 34 0)) (re : refR U W) (wU : eqU U W) : CR (B + 100) (pushM W) (pushM W) := by
  obtain ⟨h1, h2, h3, h4, h5, h6, h7, h8, h9, h10⟩ := h
  have hk : hisR B K G := hisR_U h5 k11 k3
  have hp := hisR_push (W := W) hk hr kr (SR_cong (RI_8 kr) w35 ks) (w33 5 (by omega)) (w 37 0 (by omega))
  have um : ∀ a b, 12 ≤ a → a < 33 → ¬ (14 ≤ a ∧ a ≤ 21) → ¬ (24 ≤ a ∧ a ≤ 26) → U a b = H a b := fun a b z1 z2 z3 z4 => u0 a b z3 z4 (by omega) (by omega) (by omega) z2
  have eP : eqU U (pushM W) := fun a b z => by rw [pushM_off (by omega)]; exact wU a b z
  have key : CR C U (pushM W) := by
    refine ⟨ri, ?_, rl, smok_eq (um 23 0 (by omega) (by omega) (by omega) (by omega)) h4, hisR_mono (hisR_U hp u11 u3) hC.1, savR_mono (savR_U (savR_V h6 ?_ ?_) (u1 10 (by omega)) (fun a z1 z2 => u0 a 2 (by omega) (by omega) (by omega) (by omega) (by omega) (by omega))) hC.1, refR_V re ?_ ?_, errR_U (errR_V h8 ?_ ?_) (u1 13 (by omega)) (u1 14 (by omega)), outR_U (outR_V h9 ?_ ?_) (um 31 0 (by omega) (by omega) (by omega) (by omega)) (um 32 0 (by omega) (by omega) (by omega) (by omega)), inR_U (inR_V h10 ?_ ?_) (um 27 0 (by omega) (by omega) (by omega) (by omega)) (um 28 0 (by omega) (by omega) (by omega) (by omega))⟩
    · unfold MR
      rw [pushM_off (by omega)]
      exact w34
    · rw [pushM_33 (by omega)]; exact w33 3 (by omega)
    · rw [pushM_off (by omega)]; exact w 36 0 (by omega)
    · rw [pushM_33 (by omega)]
    · rw [pushM_33 (by omega)]
    · rw [pushM_33 (by omega)]; exact w33 20 (by omega)
    · rw [pushM_33 (by omega)]; exact w33 21 (by omega)
    · rw [pushM_33 (by omega)]; exact w33 15 (by omega)
    · rw [pushM_off (by omega)]; exact w 41 0 (by omega)
    · rw [pushM_33 (by omega)]; exact w33 17 (by omega)
    · rw [pushM_off (by omega)]; exact w 42 0 (by omega)
  exact CR_mono (CR_eqU key eP) hC.2
theorem refR_S {U' V' : VV} (h : refR U V) (k : refS U V U' V') : refR U' V' := by
  rcases k with ⟨⟨k1, k2⟩, k3, k4⟩ | k
  · unfold refR
    rw [k1, k2, k3, k4]
    exact h
  · exact Or.inr k
/-- the class's heap when the input was read -/
theorem base_C {T : Int → Int} {L : Int} (h : CR B H H) (op : offP H W) (io : inok W) (hX : (∀ a b, ¬ ((a = 33 ∨ a = 43) ∧ b = 0) → X a b = V a b) ∧ (∀ j, ¬ (j = 6 ∨ j = 17 ∨ j = 18 ∨ j = 19 ∨ j = 20 ∨ j = 23) → X 33 0 j = V 33 0 j) ∧ X 33 0 17 = 0) (ev : eqV H V) (k1 : ∀ a b, ¬ a = 1 → a < 33 → K a b = upV W 27 0 4 0 a b) (k2 : ∀ j, ¬ j = 13 → K 1 0 j = H 1 0 j) (er : errR K X) : CR B K X := by
  obtain ⟨h1, h2, h3, h4, h5, h6, h7, h8, h9, h10⟩ := h
  obtain ⟨x1, x2, x3⟩ := hX
  have kk : ∀ a b, ¬ a = 1 → ¬ (a = 27 ∨ a = 29 ∨ a = 30) → a < 33 → K a b = H a b := fun a b z1 z2 z3 => by
    rw [k1 a b z1 z3, upV_off2 (by omega)]
    exact op.1 a b (by omega)
  have xx : ∀ a b, 33 < a → ¬ a = 43 → X a b = H a b := fun a b z1 z2 => by rw [x1 a b (by omega)]; exact ev a b (by omega)
  have xj : ∀ j, ¬ (j = 6 ∨ j = 17 ∨ j = 18 ∨ j = 19 ∨ j = 20 ∨ j = 23) → X 33 0 j = H 33 0 j := fun j z => by rw [x2 j z, ev 33 0 (by omega)]
  have k28 : K 28 0 = H 28 0 := kk 28 0 (by omega) (by omega) (by omega)
  have kr : ∀ a b, 2 ≤ a → a ≤ 10 → K a b = H a b := fun a b z1 z2 => kk a b (by omega) (by omega) (by omega)
  obtain ⟨i1, i2, i3, i4, i5⟩ := io
  refine ⟨RI_off (fun a z1 z2 => kr a 0 z1 z2) h1, MR_off (xx 34 0 (by omega) (by omega)) (SR_off (fun a z1 z2 => kr a 0 z1 z2) h2), relok_eq (fun a b z1 z2 => kk a b (by omega) (by omega) (by omega)) h3, smok_eq (kk 23 0 (by omega) (by omega) (by omega)) h4, hisR_U (hisR_V h5 (xj 5 (by omega)) (xx 37 0 (by omega) (by omega))) (kk 11 0 (by omega) (by omega) (by omega)) (fun a b z1 z2 z3 => kr a b z1 z2), savR_U (savR_V h6 (xj 3 (by omega)) (xx 36 0 (by omega) (by omega))) (k2 10 (by omega)) (fun a z1 z2 => kr a 2 z1 z2), refR_U (refR_V h7 (xj 7 (by omega)) (xj 8 (by omega))) (k2 11 (by omega)) (k2 12 (by omega)), er, outR_U (outR_V h9 (xj 15 (by omega)) (xx 41 0 (by omega) (by omega))) (kk 31 0 (by omega) (by omega) (by omega)) (kk 32 0 (by omega) (by omega) (by omega)), ?_⟩
  have e27 : ∀ j, ¬ j = 4 → K 27 0 j = W 27 0 j := fun j z => by rw [k1 27 0 (by omega) (by omega), upV_at, if_neg z]
  have e4 : K 27 0 4 = 0 := by rw [k1 27 0 (by omega) (by omega)]; rfl
  have eW : W 28 0 = H 28 0 := op.1 28 0 (by omega)
  refine ⟨⟨by rw [e4]; decide, by rw [e27 5 (by omega)]; exact i2, by rw [e27 6 (by omega)]; exact i3, by rw [e27 3 (by omega)]; exact i4, fun j hj => ?_⟩, by rw [e4, x3], fun j hj => by rw [e4] at hj; omega⟩
  rw [k28, ← eW]
  exact i5 j hj
theorem op_171 (h : CR B H H) (hB : B ≤ 999700) : OP B (d + 12) 171 [aR 1 0] (cmL [(0, 1), (4, 2)]) 293 [aR 33 0] H := by
  obtain ⟨io, in2, in3⟩ := id h.2.2.2.2.2.2.2.2.2
  have ho := CR_ho h
  have tx : ∀ {V : VV}, eqV H V → TX V (H 28 0) (H 27 0 4) := fun {V} ev => by
    obtain ⟨i1, i2, i3, i4, i5⟩ := io
    refine ⟨by rw [ev 33 0 (by omega)]; exact in2.symm, i1, fun j hj => ?_⟩
    have a := in3 j hj
    have b := i5 j (by omega)
    rw [ev 42 0 (by omega)]
    exact ⟨a.symm, b⟩
  have erH := h.2.2.2.2.2.2.2.1
  intro q
  obtain ⟨W, w1, w2, w3, w4, w5⟩ := s_172 (d := d + 5) (q := q) io
  obtain ⟨pb, -⟩ := mp_all (d := d) (q := q) (tx (eqV_refl H))
  have hL := io.1
  have plen := prs_len (T := H 28 0) (L := H 27 0 4) 10 0
  have wo : ∀ a b, ¬ (a = 27 ∨ a = 29 ∨ a = 30) → upV W 27 0 4 0 a b = H a b := fun a b z => by rw [upV_off2 (by omega)]; exact w1.1 a b (by omega)
  have head : RUN (d + 12) 171 (am_en 171 [aR 1 0]) (HM q H) = cif (prs (H 28 0) (H 27 0 4) 10 0).1 (RUN (d + 12) 171 (41, [sR 1 0, sI (b2i (prs (H 28 0) (H 27 0 4) 10 0).1), none], []) (HM q (upV W 27 0 4 0))) (RUN (d + 12) 171 (19, [sR 1 0, sI (b2i (prs (H 28 0) (H 27 0 4) 10 0).1), none], []) (HM q (upV W 27 0 4 0))) :=
    (show RUN (d + 12) 171 (0, [sR 1 0, none, none], []) (HM q H) = _ from Eq.trans (k_aload rfl rfl) (Eq.trans (k_getfr rfl rfl rfl) (Eq.trans (RUN_ci rfl rfl rfl w5 (qle_refl _)) (Eq.trans (k_store rfl) (Eq.trans (k_aload rfl rfl) (Eq.trans (k_getfr rfl rfl rfl) (Eq.trans (RUN_ci rfl rfl rfl e_190 (qle_refl _)) (Eq.trans (k_iload rfl rfl) (k_ifc (prs (H 28 0) (H 27 0 4) 10 0).1 rfl b2i_ne0)))))))))
  by_cases ok : (prs (H 28 0) (H 27 0 4) 10 0).1
  · rw [cif_pos ok] at head
    obtain ⟨n1, n2⟩ := w4 ok
    have head2 : RUN (d + 12) 171 (am_en 171 [aR 1 0]) (HM q H) = RUN (d + 12) 171 (54, [sR 1 0, sI (b2i (prs (H 28 0) (H 27 0 4) 10 0).1), sI 0], []) (HM q (copyV (upV W 27 0 4 0) 1 0)) :=
      head.trans (Eq.trans (k_aload rfl rfl) (Eq.trans (k_getfr rfl rfl rfl) (Eq.trans (k_aload rfl rfl) (Eq.trans (k_getfr rfl rfl rfl) (Eq.trans (RUN_ci rfl rfl rfl (s_54 (r := 1) (s := 0) (by decide) (by decide)) (qle_refl _)) (Eq.trans (k_pushi 0 rfl rfl) (Eq.trans (k_store rfl) rfl)))))))
    have all : ∀ x ∈ (prs (H 28 0) (H 27 0 4) 10 0).2.2, cmdOK x := prs_ok 10 0 ok
    generalize hxs : (prs (H 28 0) (H 27 0 4) 10 0).2.2 = xs at n1 n2 all plen
    have so : ∀ a b, ¬ (2 ≤ a ∧ a ≤ 10 ∧ b = 1) → copyV (upV W 27 0 4 0) 1 0 a b = upV W 27 0 4 0 a b := fun a b z => copyV_off (by omega)
    have sH : ∀ a b, ¬ (2 ≤ a ∧ a ≤ 10 ∧ b = 1) → ¬ (a = 27 ∨ a = 29 ∨ a = 30) → copyV (upV W 27 0 4 0) 1 0 a b = H a b := fun a b z1 z2 => by rw [so a b z1]; exact wo a b z2
    have riS : RI B 0 (copyV (upV W 27 0 4 0) 1 0) := RI_off (fun a z1 z2 => sH a 0 (by omega) (by omega)) h.1
    have ri1 : RI B 1 (copyV (upV W 27 0 4 0) 1 0) := RI_copy (by decide) (RI_off (fun a z1 z2 => wo a 0 (by omega)) h.1)
    have sr1 : SRr 1 (copyV (upV W 27 0 4 0) 1 0) (H 34 0) := SR_copy (by decide) (RI_8 (RI_off (fun a z1 z2 => wo a 0 (by omega)) h.1)) (SR_off (fun a z1 z2 => wo a 0 (by omega)) h.2.1)
    have ciS : clsI B (copyV (upV W 27 0 4 0) 1 0) := ⟨riS, relok_eq (fun a b z1 z2 => sH a b (by omega) (by omega)) h.2.2.1, smok_eq (sH 23 0 (by omega) (by omega)) h.2.2.2.1⟩
    have c6 : copyV (upV W 27 0 4 0) 1 0 27 0 6 = 0 + xs.length := by
      rw [so 27 0 (by omega), upV_at, if_neg (by decide), n1]
      omega
    have cAt : ∀ j : Nat, j < xs.length → cmdAt (copyV (upV W 27 0 4 0) 1 0) (0 + j) (xs.getD j (0, [])) := fun j hj => by
      rw [Int.zero_add]
      obtain ⟨y1, y2⟩ := n2 j hj
      exact ⟨by rw [so 29 0 (by omega), upV_off2 (by omega)]; exact y1, fun z hz => by rw [so 30 0 (by omega), upV_off2 (by omega)]; exact y2 z hz⟩
    obtain ⟨l1, l2, l3, l4, l5, l6⟩ := lc_go (d := d + 6) xs 0 (copyV (upV W 27 0 4 0) 1 0) B ciS c6 (by decide) (by omega) (by omega) cAt all
    have lm := fun (V : VV) (a1 : MR V (copyV (upV W 27 0 4 0) 1 0)) (a2 : V 33 0 6 = 0) (a3 : V 33 0 23 = 0 + (xs.length : Int)) (a4 : ∀ j : Nat, j < xs.length → cmdM V (0 + j) (xs.getD j (0, []))) => lm_go (d := d + 5) xs 0 (copyV (upV W 27 0 4 0) 1 0) V B ⟨riS, a1, ciS.2⟩ c6 a2 a3 (by decide) (by omega) (by omega) cAt a4 all
    generalize hR : runC 0 xs (copyV (upV W 27 0 4 0) 1 0) = R at l1 l2 l3 l4 l5 l6 lm
    have head3 := head2.trans (l6 q (sI (b2i (prs (H 28 0) (H 27 0 4) 10 0).1)))
    have rH : ∀ a b, ¬ (2 ≤ a ∧ a ≤ 10 ∧ b < 2) → ¬ (14 ≤ a ∧ a ≤ 21) → ¬ a = 1 → R.2 a b = upV W 27 0 4 0 a b := fun a b z1 z2 z3 => by rw [l1.1 a b (by omega) z2 z3]; exact so a b (by omega)
    have r1 : ∀ a, 2 ≤ a → a ≤ 10 → R.2 a 1 = copyV (upV W 27 0 4 0) 1 0 a 1 := fun a z1 z2 => l1.1 a 1 (by omega) (by omega) (by omega)
    have rj : ∀ j, ¬ (j = 11 ∨ j = 12) → R.2 1 0 j = H 1 0 j := fun j z => by rw [l1.2 j z, sH 1 0 (by omega) (by omega)]
    have r33 : ∀ a b, 33 ≤ a → R.2 a b = H a b := fun a b z => by rw [rH a b (by omega) (by omega) (by omega)]; exact wo a b (by omega)
    have rr1 : RI B 1 R.2 := RI_off r1 ri1
    have rs1 : SRr 1 R.2 (H 34 0) := SR_off r1 sr1
    -- the model's run, up to its loop
    have model : ∀ (Kf : VV), eqV H Kf → ∀ q' : QQ, ∃ X V', mpO (H 28 0) (H 27 0 4) Kf X ∧ offN (keepM X) V' ∧ refS (copyV (upV W 27 0 4 0) 1 0) (keepM X) R.2 V' ∧ (R.1 = -1 → V' 33 0 6 = 0 ∧ MR V' R.2) ∧
        RUN (d + 12) 293 (am_en 293 [aR 33 0]) (HM q' Kf) = cif (R.1 = -1) (RUN (d + 12) 293 (166, [sR 33 0, sI (0 + xs.length)], []) (HM q' V')) (RUN (d + 12) 293 (145, [sR 33 0, sI R.1], []) (HM q' V')) := by
      intro Kf ev q'
      obtain ⟨-, X, x1, x2⟩ := mp_all (d := d + 6) (q := q') (tx ev)
      obtain ⟨y1, y2, y3, y4, y5⟩ := id x1
      obtain ⟨y6, y7, y8⟩ := y4 ok
      rw [hxs] at y7 y8
      have m34 : keepM X 34 0 = H 34 0 := by rw [keepM_off (by omega), y1 34 0 (by omega)]; exact ev 34 0 (by omega)
      obtain ⟨V', v1, v2, v3, v4, v5⟩ := lm (keepM X) (MR_off m34 (SR_off (fun a z1 z2 => sH a 0 (by omega) (by omega)) h.2.1)) (by rw [keepM_33, if_pos rfl]) (by rw [keepM_33, if_neg (by decide), y7]; omega) (fun j hj => by
        rw [Int.zero_add]
        obtain ⟨u1, u2⟩ := y8 j hj
        exact ⟨by rw [keepM_off (by omega)]; exact u1, fun z hz => by rw [keepM_off (by omega)]; exact u2 z hz⟩) q'
      refine ⟨X, V', x1, v1, v2, v3, ?_⟩
      refine (x2.trans (cif_pos ok)).trans (Eq.trans (k_aload rfl rfl) (Eq.trans (RUN_ci rfl rfl rfl e_211 (qle_refl _)) (Eq.trans (k_pushi 0 rfl rfl) (Eq.trans (k_store rfl) v5))))
    -- where the two sides stand behind the reading
    have base : ∀ (Kf X : VV), eqV H Kf → mpO (H 28 0) (H 27 0 4) Kf X → CR B (upV W 27 0 4 0) X ∧ (∀ j, 0 ≤ j ∧ j < 154 → keepM X 35 0 j = X 34 0 j) ∧ X 34 0 = H 34 0 := by
      intro Kf X ev hx
      obtain ⟨y1, y2, y3, y4, y5⟩ := id hx
      refine ⟨base_C (V := Kf) (T := H 28 0) (L := 0) h w1 w2 ⟨y1, y2, y3⟩ ev (fun _ _ _ _ => rfl) (fun j _ => by rw [wo 1 0 (by omega)]) ?_, fun j hj => keepM_35 hj, by rw [y1 34 0 (by omega)]; exact ev 34 0 (by omega)⟩
      refine errR_V (errR_U erH (by rw [wo 1 0 (by omega)]) (by rw [wo 1 0 (by omega)])) ?_ ?_
      · rw [(y4 ok).1, ev 33 0 (by omega)]
      · rw [y2 21 (by omega), ev 33 0 (by omega)]
    have p5 := CR_5 h
    have fix5 : ∀ (Kf X V' : VV), eqV H Kf → mpO (H 28 0) (H 27 0 4) Kf X → offN (keepM X) V' → (∀ j, ¬ (j = 6 ∨ j = 7 ∨ j = 8 ∨ j = 11 ∨ j = 12) → V' 33 0 j = X 33 0 j) ∧ V' 33 0 5 = H 33 0 5 ∧ V' 33 0 23 = xs.length := by
      intro Kf X V' ev hx o
      have e : ∀ j, ¬ (j = 6 ∨ j = 7 ∨ j = 8 ∨ j = 11 ∨ j = 12) → V' 33 0 j = X 33 0 j := fun j z => by rw [o.2 j z, keepM_33, if_neg (by omega)]
      refine ⟨e, by rw [e 5 (by omega), hx.2.1 5 (by omega), ev 33 0 (by omega)], ?_⟩
      rw [e 23 (by omega), (hx.2.2.2.1 ok).2.1, hxs]
    have vo : ∀ (X V' : VV), offN (keepM X) V' → ∀ a b, ¬ (a = 33 ∨ a = 34 ∨ a = 35 ∨ a = 38 ∨ a = 39) → V' a b = X a b := fun X V' o a b z => by rw [o.1 a b (by omega), keepM_off (by omega)]
    have v35 : ∀ (X V' : VV), offN (keepM X) V' → ∀ j, 0 ≤ j ∧ j < 154 → V' 35 0 j = X 34 0 j := fun X V' o j hj => by rw [o.1 35 0 (by omega), keepM_35 hj]
    have ref0 : ∀ (Kf X V' : VV), eqV H Kf → mpO (H 28 0) (H 27 0 4) Kf X → refS (copyV (upV W 27 0 4 0) 1 0) (keepM X) R.2 V' → refR R.2 V' := by
      intro Kf X V' ev hx k
      have := (base Kf X ev hx).1.2.2.2.2.2.2.1
      exact refR_S (refR_U (refR_V this (by rw [keepM_33, if_neg (by decide)]) (by rw [keepM_33, if_neg (by decide)])) (by rw [so 1 0 (by omega)]) (by rw [so 1 0 (by omega)])) k
    by_cases c : R.1 = -1
    · rw [cif_pos c] at head3
      have ev : eqV H (keepV R.2 1) := fun a b z => by rw [eqV_keep a b z]; exact r33 a b z
      have hoR : hisok R.2 := by
        unfold hisok
        rw [rH 11 0 (by omega) (by omega) (by omega), wo 11 0 (by omega)]
        exact ho
      have e6 : keepV R.2 1 27 0 6 = xs.length := by rw [keepV_off (by omega) (by omega), rH 27 0 (by omega) (by omega) (by omega), upV_at, if_neg (by decide), n1]
      obtain ⟨ciR1, ciR2, ciR3⟩ := l4 c
      refine ⟨0, xs.length, keepV R.2 1, Or.inl ⟨rfl, head3.trans ?_⟩, fun q' _ => ?_⟩
      · refine Eq.trans (k_aload rfl rfl) (Eq.trans (k_getfr rfl rfl rfl) (Eq.trans (k_aload rfl rfl) (Eq.trans (k_getfr rfl rfl rfl) (Eq.trans (RUN_ci rfl rfl rfl (s_59 (d := d + 10) (r := 1) (by decide) hoR) (qle_refl _)) (Eq.trans (k_aload rfl rfl) (Eq.trans (k_getfr rfl rfl rfl) (Eq.trans (k_getfi 6 rfl rfl rfl rfl) ?_)))))))
        rw [e6]
        exact k_iret rfl trivial
      · obtain ⟨X, V', x1, v1, v2, v3, v4⟩ := model _ ev q'
        rw [cif_pos c] at v4
        obtain ⟨f1, f2, f3⟩ := fix5 _ X V' ev x1 v1
        obtain ⟨b1, b2, b3⟩ := base _ X ev x1
        obtain ⟨v6, v7⟩ := v3 c
        have e216 := e216_ok (d := d + 11) (q := q') (v := xs.length) h f2 v6
        refine ⟨q', xs.length, pushM V', qst_refl q', v4.trans ?_, push_6 v6, fun _ => rfl, ?_⟩
        · refine Eq.trans (k_aload rfl rfl) (Eq.trans (k_aload rfl rfl) (Eq.trans (k_getfi 23 rfl rfl rfl rfl) ?_))
          rw [f3]
          exact Eq.trans (RUN_ci rfl rfl rfl e216 (qle_refl _)) (k_iret rfl trivial)
        · refine CR_push2 (H := upV W 27 0 4 0) (G := X) (K := R.2) (U := keepV R.2 1) (C := B + 10 * xs.length) (r := 1) b1 (by decide) rr1 (by rw [b3]; exact rs1) (rH 11 0 (by omega) (by omega) (by omega)) (fun a b z1 z2 z3 => rH a b (by omega) (by omega) (by omega)) rfl (fun _ _ _ _ _ => rfl) (fun a b z1 z2 z3 z4 z5 z6 => ?_) (fun j z => ?_) (RI_off (fun a z1 z2 => keep_row (by decide) z1 z2) ciR1) (by omega) ?_ (v35 X V' v1) (fun j z => f1 j (by omega)) (fun a b z => vo X V' v1 a b (by omega)) (SR_off (fun a z1 z2 => keep_row (by decide) z1 z2) v7) ?_ (fun a b z => ?_)
          · rw [keepV_off z4 (by rw [rH 11 0 (by omega) (by omega) (by omega), wo 11 0 (by omega)]; omega)]
            exact rH a b (by omega) z1 z5
          · rw [keepV_off (by omega) (by omega), rj j z, wo 1 0 (by omega)]
          · exact relok_eq (fun a b z1 z2 => keepV_off (by omega) (by omega)) l2
          · have := ref0 _ X V' ev x1 v2
            exact refR_U this (by rw [keepV_off (by omega) (by omega)]) (by rw [keepV_off (by omega) (by omega)])
          · rw [vo X V' v1 a b (by omega)]
            exact x1.1 a b (by omega)
    · rw [cif_neg c] at head3
      have l5 : 0 ≤ R.1 ∧ R.1 ≤ 9 := by
        rcases l5 with z | z
        · exact absurd z c
        · exact z
      have ko : ∀ a b, ¬ (2 ≤ a ∧ a ≤ 10 ∧ b = 0) → ¬ a = 1 → upV (copyV R.2 0 1) 1 0 14 R.1 a b = R.2 a b := fun a b z1 z2 => by rw [upV_off2 (by omega)]; exact copyV_off (by omega)
      have k1 : ∀ j, ¬ j = 14 → upV (copyV R.2 0 1) 1 0 14 R.1 1 0 j = R.2 1 0 j := fun j z => by rw [upV_at, if_neg z, copyV_off (by omega)]
      have kb : ∀ a b, ¬ (2 ≤ a ∧ a ≤ 10 ∧ b < 2) → ¬ (14 ≤ a ∧ a ≤ 21) → ¬ a = 1 → upV (copyV R.2 0 1) 1 0 14 R.1 a b = upV W 27 0 4 0 a b := fun a b z1 z2 z3 => by rw [ko a b (by omega) z3]; exact rH a b z1 z2 z3
      have ev : eqV H (upV (copyV R.2 0 1) 1 0 14 R.1) := fun a b z => by rw [ko a b (by omega) (by omega)]; exact r33 a b z
      refine ⟨2, 0, upV (copyV R.2 0 1) 1 0 14 R.1, Or.inr ⟨by decide, by decide, 4, rfl, rfl, head3.trans ?_⟩, fun q' _ => ?_⟩
      · exact Eq.trans (k_aload rfl rfl) (Eq.trans (k_getfr rfl rfl rfl) (Eq.trans (k_aload rfl rfl) (Eq.trans (k_getfr rfl rfl rfl) (Eq.trans (RUN_ci rfl rfl rfl (s_54 (r := 0) (s := 1) (by decide) (by decide)) (qle_refl _)) (Eq.trans (k_aload rfl rfl) (Eq.trans (k_iload rfl rfl) (Eq.trans (k_putfi 14 rfl rfl rfl rfl trivial) (k_throw rfl rfl))))))))
      · obtain ⟨X, V', x1, v1, v2, v3, v4⟩ := model _ ev q'
        rw [cif_neg c] at v4
        obtain ⟨f1, f2, f3⟩ := fix5 _ X V' ev x1 v1
        obtain ⟨b1, b2, b3⟩ := base _ X ev x1
        have e5 : upV (upV V' 33 0 21 R.1) 33 0 6 2 33 0 5 = H 33 0 5 := by rw [upV_at, if_neg (by decide), upV_at, if_neg (by decide)]; exact f2
        have e216 : RUN (d + 11) 216 (am_en 216 [aR 33 0, aI (iI 0)]) (HM q' (upV (upV V' 33 0 21 R.1) 33 0 6 2)) = rI 0 (HM q' (backM (upV (upV V' 33 0 21 R.1) 33 0 6 2))) := (s_216 (by rw [e5]; exact p5) (by rw [upV_at, if_pos rfl]; decide)).trans (cif_neg (by rw [upV_at, if_pos rfl]; decide))
        have bj : ∀ j, ¬ (j = 6 ∨ j = 21) → backM (upV (upV V' 33 0 21 R.1) 33 0 6 2) 33 0 j = V' 33 0 j := fun j z => by rw [backM_off (by omega), upV_at, if_neg (by omega), upV_at, if_neg (by omega)]
        have ba : ∀ a b, ¬ (a = 33 ∨ a = 34 ∨ a = 35 ∨ a = 38 ∨ a = 39) → backM (upV (upV V' 33 0 21 R.1) 33 0 6 2) a b = X a b := fun a b z => by rw [backM_off (by omega), upV_off2 (by omega), upV_off2 (by omega)]; exact vo X V' v1 a b z
        refine ⟨q', 0, backM (upV (upV V' 33 0 21 R.1) 33 0 6 2), qst_refl q', v4.trans ?_, ?_, fun z => absurd z (by decide), ?_⟩
        · exact Eq.trans (k_aload rfl rfl) (Eq.trans (k_iload rfl rfl) (Eq.trans (k_putfi 21 rfl rfl rfl rfl trivial) (Eq.trans (k_aload rfl rfl) (Eq.trans (k_aload rfl rfl) (Eq.trans (k_pushi 2 rfl rfl) (Eq.trans (RUN_ci rfl rfl rfl e_215 (qle_refl _)) (Eq.trans (RUN_ci rfl rfl rfl e216 (qle_refl _)) (k_iret rfl trivial))))))))
        · rw [backM_off (by omega), upV_at, if_pos rfl]
        · have rf := ref0 _ X V' ev x1 v2
          obtain ⟨g1, g2, g3, g4, g5, g6, g7, g8, g9, g10⟩ := b1
          have riK : RI B 0 (upV (copyV R.2 0 1) 1 0 14 R.1) := RI_off (fun a z1 z2 => by rw [upV_off2 (by omega)]) (RI_copy (by decide) rr1)
          have key : CR B (upV (copyV R.2 0 1) 1 0 14 R.1) (backM (upV (upV V' 33 0 21 R.1) 33 0 6 2)) := by
            refine ⟨riK, ?_, relok_eq (fun a b z1 z2 => ko a b (by omega) (by omega)) l2, smok_eq (ko 23 0 (by omega) (by omega)) l3, hisR_U (hisR_V g5 ?_ (ba 37 0 (by omega))) (kb 11 0 (by omega) (by omega) (by omega)) (fun a b z1 z2 z3 => kb a b (by omega) (by omega) (by omega)), savR_U (savR_V g6 ?_ (ba 36 0 (by omega))) ?_ (fun a z1 z2 => kb a 2 (by omega) (by omega) (by omega)), refR_U (refR_V rf (bj 7 (by omega)) (bj 8 (by omega))) (k1 11 (by omega)) (k1 12 (by omega)), ⟨⟨?_, ?_, ?_⟩, ?_, ?_, ?_⟩, outR_U (outR_V g9 ?_ (ba 41 0 (by omega))) (kb 31 0 (by omega) (by omega) (by omega)) (kb 32 0 (by omega) (by omega) (by omega)), inR_U (inR_V g10 ?_ (ba 42 0 (by omega))) (kb 27 0 (by omega) (by omega) (by omega)) (kb 28 0 (by omega) (by omega) (by omega))⟩
            · refine SR_cong (RI_8 riK) (fun j hj => ?_) (SR_off (fun a z1 z2 => by rw [upV_off2 (by omega)]) (SR_copy (by decide) (RI_8 rr1) rs1))
              rw [backM_34, if_pos hj, upV_off2 (by omega), upV_off2 (by omega), v35 X V' v1 j hj, b3]
            · rw [bj 5 (by omega), f1 5 (by omega)]
            · rw [bj 3 (by omega), f1 3 (by omega)]
            · rw [k1 10 (by omega), rj 10 (by omega), wo 1 0 (by omega)]
            · rw [k1 13 (by omega), rj 13 (by omega), bj 20 (by omega), f1 20 (by omega), ← g8.1.1, wo 1 0 (by omega)]
            · rw [k1 13 (by omega), rj 13 (by omega)]; exact erH.1.2.1
            · rw [k1 13 (by omega), rj 13 (by omega)]; exact erH.1.2.2
            · rw [upV_at, if_pos rfl, backM_off (by omega), upV_at, if_neg (by decide), upV_at, if_pos rfl]
            · rw [upV_at, if_pos rfl]; omega
            · rw [upV_at, if_pos rfl]; omega
            · rw [bj 15 (by omega), f1 15 (by omega)]
            · rw [bj 17 (by omega), f1 17 (by omega)]
          refine CR_mono (CR_eqU key (fun a b z => ?_)) (by omega)
          rw [ba a b (by omega)]
          exact x1.1 a b (by omega)
  · rw [cif_neg ok] at head
    have ev : eqV H (upV (upV W 27 0 4 0) 1 0 13 (W 27 0 5)) := fun a b z => by rw [upV_off2 (by omega)]; exact wo a b (by omega)
    refine ⟨1, 0, upV (upV W 27 0 4 0) 1 0 13 (W 27 0 5), Or.inr ⟨by decide, by decide, 0, rfl, rfl, head.trans ?_⟩, fun q' _ => ?_⟩
    · exact Eq.trans (k_aload rfl rfl) (Eq.trans (k_aload rfl rfl) (Eq.trans (k_getfr rfl rfl rfl) (Eq.trans (k_getfi 5 rfl rfl rfl rfl) (Eq.trans (k_putfi 13 rfl rfl rfl rfl trivial) (k_throw rfl rfl)))))
    · obtain ⟨-, X, x1, x2⟩ := mp_all (d := d + 6) (q := q') (tx ev)
      obtain ⟨y1, y2, y3, y4, y5⟩ := id x1
      obtain ⟨y6, y7⟩ := y5 ok
      refine ⟨q', 0, X, qst_refl q', x2.trans (cif_neg ok), y7, fun z => absurd z (by decide), ?_⟩
      refine CR_mono (CR_eqU (base_C (V := upV (upV W 27 0 4 0) 1 0 13 (W 27 0 5)) (T := H 28 0) (L := 0) (K := upV (upV W 27 0 4 0) 1 0 13 (W 27 0 5)) h w1 w2 ⟨y1, y2, y3⟩ ev (fun a b z1 z2 => upV_off2 (by omega)) (fun j z => by rw [upV_at, if_neg z, wo 1 0 (by omega)]) ?_) (fun a b z => y1 a b (by omega))) (by omega)
      refine ⟨⟨?_, ?_, ?_⟩, ?_, ?_, ?_⟩
      · rw [upV_at, if_pos rfl, w3, y6]
      · rw [upV_at, if_pos rfl, w3]; omega
      · rw [upV_at, if_pos rfl, w3]; omega
      · rw [upV_at, if_neg (by decide), wo 1 0 (by omega), y2 21 (by omega), ev 33 0 (by omega)]
        exact erH.2.1
      · rw [upV_at, if_neg (by decide), wo 1 0 (by omega)]
        exact erH.2.2.1
      · rw [upV_at, if_neg (by decide), wo 1 0 (by omega)]
        exact erH.2.2.2
end
