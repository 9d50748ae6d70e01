/-! sending, by the law's call -/
section
variable {B : Int} {d n0 : Nat} {q q' : QQ} {V V' : VV} {x1 x2 x3 : Int}
theorem w_313i {v : Int} (hc : RUN (d + 5) 131 (am_en 131 [aR 1 0, aI (iI x1), aI (iI x2), aI (iI x3)]) (HM q V) = rI v (HM q' V')) (hq : qle q q') : RUN (d + 6) 313 (am_en 313 [aR 1 0, aI (iI x1), aI (iI x2), aI (iI x3)]) (HM q V) = rI v (HM q' V') :=
  (show RUN (d + 6) 313 (0, [sR 1 0, sI x1, sI x2, sI x3, none], []) (HM q V) = _ from Eq.trans (k_aload rfl rfl) (Eq.trans (k_iload rfl rfl) (Eq.trans (k_iload rfl rfl) (Eq.trans (k_iload rfl rfl) (Eq.trans (RUN_ci rfl rfl rfl hc hq) (k_iret rfl trivial))))))
theorem w_313x2 (hc : RUN (d + 5) 131 (am_en 131 [aR 1 0, aI (iI x1), aI (iI x2), aI (iI x3)]) (HM q V) = rX 2 (HM q' V')) (hq : qle q q') : RUN (d + 6) 313 (am_en 313 [aR 1 0, aI (iI x1), aI (iI x2), aI (iI x3)]) (HM q V) = rI (-1) (HM q' V') :=
  (show RUN (d + 6) 313 (0, [sR 1 0, sI x1, sI x2, sI x3, none], []) (HM q V) = _ from Eq.trans (k_aload rfl rfl) (Eq.trans (k_iload rfl rfl) (Eq.trans (k_iload rfl rfl) (Eq.trans (k_iload rfl rfl) (Eq.trans (RUN_ch rfl rfl rfl hc hq rfl rfl rfl) (Eq.trans (k_pushi (-1) rfl rfl) (k_iret rfl trivial)))))))
theorem w_313x0 (hc : RUN (d + 5) 131 (am_en 131 [aR 1 0, aI (iI x1), aI (iI x2), aI (iI x3)]) (HM q V) = rX 0 (HM q' V')) (hq : qle q q') : RUN (d + 6) 313 (am_en 313 [aR 1 0, aI (iI x1), aI (iI x2), aI (iI x3)]) (HM q V) = rI (-2) (HM q' V') :=
  (show RUN (d + 6) 313 (0, [sR 1 0, sI x1, sI x2, sI x3, none], []) (HM q V) = _ from Eq.trans (k_aload rfl rfl) (Eq.trans (k_iload rfl rfl) (Eq.trans (k_iload rfl rfl) (Eq.trans (k_iload rfl rfl) (Eq.trans (RUN_ch rfl rfl rfl hc hq rfl rfl rfl) (Eq.trans (k_pushi (-2) rfl rfl) (k_iret rfl trivial)))))))
theorem w_313x4 (hc : RUN (d + 5) 131 (am_en 131 [aR 1 0, aI (iI x1), aI (iI x2), aI (iI x3)]) (HM q V) = rX 4 (HM q' V')) (hq : qle q q') : RUN (d + 6) 313 (am_en 313 [aR 1 0, aI (iI x1), aI (iI x2), aI (iI x3)]) (HM q V) = rI (-3) (HM q' V') :=
  (show RUN (d + 6) 313 (0, [sR 1 0, sI x1, sI x2, sI x3, none], []) (HM q V) = _ from Eq.trans (k_aload rfl rfl) (Eq.trans (k_iload rfl rfl) (Eq.trans (k_iload rfl rfl) (Eq.trans (k_iload rfl rfl) (Eq.trans (RUN_ch rfl rfl rfl hc hq rfl rfl rfl) (Eq.trans (k_pushi (-3) rfl rfl) (k_iret rfl trivial)))))))
theorem lgA_log {V : VV} {t l : Int} (h : lgA V) (ht : 0 ≤ t ∧ t < 8) (hl : 0 ≤ l ∧ l < 128) : lgA (logV V t l) := fun j hj => by
  show 0 ≤ logT (V 9 0) (V 8 0 t) t l j ∧ logT (V 9 0) (V 8 0 t) t l j < 128
  unfold logT
  by_cases c : V 8 0 t = 8 ∧ 8 * t ≤ j ∧ j < 8 * t + 7
  · rw [if_pos c]
    exact h (j + 1) (by omega)
  · rw [if_neg c]
    by_cases c2 : j = 8 * t + min (V 8 0 t) 7
    · rw [if_pos c2]
      exact hl
    · rw [if_neg c2]
      exact h j hj
theorem lgA_pass {V : VV} {P : Nat → Int} {l : Int} (h : lgA V) (hl : 0 ≤ l ∧ l < 128) : ∀ k : Nat, (∀ i : Nat, i ≤ k → 0 ≤ P i ∧ P i < 8) → lgA (passV V P l k)
  | 0, _ => h
  | k + 1, hP => by
    have ih := lgA_pass h hl k (fun i hi => hP i (by omega))
    refine lgA_log (V := upV (passV V P l k) 7 0 (P k) (passV V P l k 7 0 (P k) + 1)) ?_ (hP (k + 1) (Nat.le_refl _)) hl
    unfold lgA
    rw [upV_off2 (by omega)]
    exact ih
theorem lgA_sent {V : VV} {P : Nat → Int} {l : Int} {k : Nat} (h : lgA V) (hl : 0 ≤ l ∧ l < 128) (hP : ∀ i : Nat, i ≤ k → 0 ≤ P i ∧ P i < 8) : lgA (sentV V P l k) := by
  have := lgA_pass h hl k hP
  unfold sentV lgA
  rw [upV_off2 (by omega)]
  exact this
/-- what a call leaves that touched the relays alone, the refusal and the row before -/
def aux (V W : VV) : Prop := ∀ a b, ¬ (14 ≤ a ∧ a ≤ 21) → ¬ a = 1 → ¬ (2 ≤ a ∧ a ≤ 10 ∧ b = 1) → W a b = V a b
theorem LQ_aux {W : VV} (h : LQ B V) (o : aux V W) (rl : relok W) : LQ B W := by
  obtain ⟨h1, h2, h3, h4, h5, h6⟩ := h
  refine ⟨RI_off (fun a z1 z2 => o a 0 (by omega) (by omega) (by omega)) h1, smok_eq (o 23 0 (by omega) (by omega) (by omega)) h2, ?_, rl, ?_, ?_⟩
  · unfold hisok
    rw [o 11 0 (by omega) (by omega) (by omega)]
    exact h3
  · unfold outok
    rw [o 31 0 (by omega) (by omega) (by omega)]
    exact h5
  · unfold inok
    rw [o 27 0 (by omega) (by omega) (by omega), o 28 0 (by omega) (by omega) (by omega)]
    exact h6
theorem stay_aux {W : VV} (o : aux V W) : stay V W := ⟨rowEq_of (fun a z1 z2 => o a 0 (by omega) (by omega) (by omega)), o 11 0 (by omega) (by omega) (by omega), fun a b z1 z2 z3 => o a b (by omega) (by omega) (by omega)⟩
theorem k46_aux {W : VV} (o : aux V W) : k46 n0 V W := fun x _ => o 46 x (by omega) (by omega) (by omega)
theorem aux_found {W : VV} (o : offSw (copyV V 1 0) W) : aux V W := fun a b z1 z2 z3 => by
  rw [o a b z1]
  exact copyV_off (by omega)
theorem aux_up {W : VV} {e v : Int} (o : aux V W) : aux V (upV W 1 0 e v) := fun a b z1 z2 z3 => by
  rw [upV_off2 (by omega)]
  exact o a b z1 z2 z3
theorem op_313 (h : LQ B V) (hB : B ≤ 999900) (h1 : R32 x1) (h2 : R32 x2) (h3 : R32 x3) : ∃ v q' W, RUN (d + 6) 313 (am_en 313 [aR 1 0, aI (iI x1), aI (iI x2), aI (iI x3)]) (HM q V) = rI v (HM q' W) ∧ OPd 1 (B + 10) n0 q V v q' W ∧ ((0 ≤ x1 ∧ x1 < V 2 0 8) → (0 ≤ x2 ∧ x2 < V 2 0 8) → (97 ≤ x3 ∧ x3 < 113) → 0 ≤ v ∨ v = -3) ∧ W 2 0 8 = V 2 0 8 ∧ (XQ V → XQ W) := by
  have lw := h.lw (by omega)
  have rk := lw.1
  have hm := h.mono (show B ≤ B + 10 by omega)
  have e0 := g_131_0 (d := d) (q := q) (V := V) (x1 := x1) (x2 := x2) (x3 := x3) rk h.2.2.2.1 h.2.1 h.2.2.1 h1 h2 h3
  by_cases p1 : 0 ≤ x1 ∧ x1 < V 2 0 8
  · by_cases p2 : 0 ≤ x2 ∧ x2 < V 2 0 8
    · by_cases p3 : 97 ≤ x3 ∧ x3 < 113
      · have rlc : relok (copyV V 1 0) := h.2.2.2.1
        rcases s_131 (d := d) (q := q) h.1.1 (by omega) h.2.2.2.1 h.2.1 h.2.2.1 p1 p2 p3 with ⟨a1, a2⟩ | ⟨a1, i, a2, a3, a4, a5⟩ | ⟨a1, a2, a3⟩
        · have o : aux V (upV (upV (lostV (copyV V 1 0) x2) 1 0 11 1) 1 0 12 x1) := aux_up (aux_up (aux_found offSw_lost))
          have rl : relok (lostV (copyV V 1 0) x2) := lost_rl (V := copyV V 1 0) rk rlc p2
          exact ⟨-3, _, _, w_313x4 a2 (qle_thr _), ⟨adv_thr q, k46_aux o, LQ_aux hm o rl, Or.inl ⟨by decide, stay_aux o⟩⟩, fun _ _ _ => Or.inr rfl, by rw [o 2 0 (by omega) (by omega) (by omega)], XQ_eq (by rw [o 2 0 (by omega) (by omega) (by omega)]) (o 9 0 (by omega) (by omega) (by omega)) (o 5 0 (by omega) (by omega) (by omega))⟩
        · have o : aux V (upV (upV (foundV (copyV V 1 0) x1 x2) 1 0 11 2) 1 0 12 (pP V x1 x2 (i + 1))) := aux_up (aux_up (aux_found offSw_found))
          have rl : relok (foundV (copyV V 1 0) x1 x2) := (found_p (V := copyV V 1 0) rk rlc p1 p2 a1).2.2.2.2.2.2
          exact ⟨-3, _, _, w_313x4 a5 (qle_thr _), ⟨adv_thr q, k46_aux o, LQ_aux hm o rl, Or.inl ⟨by decide, stay_aux o⟩⟩, fun _ _ _ => Or.inr rfl, by rw [o 2 0 (by omega) (by omega) (by omega)], XQ_eq (by rw [o 2 0 (by omega) (by omega) (by omega)]) (o 9 0 (by omega) (by omega) (by omega)) (o 5 0 (by omega) (by omega) (by omega))⟩
        · have o : aux V (foundV (copyV V 1 0) x1 x2) := aux_found offSw_found
          obtain ⟨f1, f2, f3, f4, f5, f6, f7⟩ := found_p (V := copyV V 1 0) rk rlc p1 p2 a1
          have lF := LQ_aux h o f7
          have hP : ∀ i : Nat, i ≤ pN V x1 x2 → 0 ≤ pP V x1 x2 i ∧ pP V x1 x2 i < foundV (copyV V 1 0) x1 x2 2 0 8 := fun i hi => (f6 i hi).2
          have riS := RI_sent lF.1 p3 f2 hP
          have oS : ∀ a b, ¬ (7 ≤ a ∧ a ≤ 10) ∨ b ≠ 0 → sentV (foundV (copyV V 1 0) x1 x2) (pP V x1 x2) x3 (pN V x1 x2) a b = foundV (copyV V 1 0) x1 x2 a b := fun a b z => sentV_off z
          have lS : LQ (B + 10) (sentV (foundV (copyV V 1 0) x1 x2) (pP V x1 x2) x3 (pN V x1 x2)) := by
            obtain ⟨l1, l2, l3, l4, l5, l6⟩ := lF
            refine ⟨riS, smok_eq (oS 23 0 (by omega)) l2, ?_, relok_eq (fun a b z1 z2 => oS a b (by omega)) l4, ?_, ?_⟩
            · unfold hisok
              rw [oS 11 0 (by omega)]
              exact l3
            · unfold outok
              rw [oS 31 0 (by omega)]
              exact l5
            · unfold inok
              rw [oS 27 0 (by omega), oS 28 0 (by omega)]
              exact l6
          have hb := pD_b rk h.2.2.2.1 p1 p2 a1
          refine ⟨_, q, _, w_313i a3 (qle_refl _), ⟨adv_refl q, fun x hx => ?_, LQ_keep lS, Or.inr ⟨by omega, ?_⟩⟩, fun _ _ _ => Or.inl hb.1, ?_, fun xq => ?_⟩
          · rw [keepV_off (by decide) (by omega), oS 46 x (by omega)]
            exact o 46 x (by omega) (by omega) (by omega)
          · refine push_of (U := sentV (foundV (copyV V 1 0) x1 x2) (pP V x1 x2) x3 (pN V x1 x2)) (r := 1) (by decide) ?_ ?_ (fun a b z1 z2 z3 => ?_) rfl (fun _ _ _ _ _ => rfl)
            · refine (rowEq_of (fun a z1 z2 => ?_)).trans (rowEq_copy (V := V) (r := 1) (s := 0) (by decide))
              rw [oS a 1 (by omega)]
              exact offSw_found a 1 (by omega)
            · rw [oS 11 0 (by omega)]
              exact o 11 0 (by omega) (by omega) (by omega)
            · rw [oS a b (by omega)]
              exact o a b (by omega) (by omega) (by omega)
          · rw [keepV_off (by decide) (by omega), oS 2 0 (by omega), o 2 0 (by omega) (by omega) (by omega)]
          · refine XQ_eq (V := sentV (foundV (copyV V 1 0) x1 x2) (pP V x1 x2) x3 (pN V x1 x2)) (by rw [keepV_off (by decide) (by omega)]) (keepV_off (by decide) (by omega)) (keepV_off (by decide) (by omega)) ⟨lgA_sent ?_ (by omega) (fun i hi => ?_), ?_⟩
            · unfold lgA
              rw [o 9 0 (by omega) (by omega) (by omega)]
              exact xq.1
            · have h1 := hP i hi
              rw [o 2 0 (by omega) (by omega) (by omega)] at h1
              have hn := rk_n rk
              omega
            · rw [oS 2 0 (by omega), oS 5 0 (by omega), o 2 0 (by omega) (by omega) (by omega), o 5 0 (by omega) (by omega) (by omega)]
              exact xq.2
      · rw [cif_pos p1, cif_pos p2] at e0
        have e1 : RUN (d + 5) 131 (am_en 131 [aR 1 0, aI (iI x1), aI (iI x2), aI (iI x3)]) (HM q V) = rX 0 (HM (thr q) V) := by
          rw [e0]
          by_cases c : x3 < 97
          · exact cif_pos c
          · exact (cif_neg c).trans (cif_neg (by omega))
        exact ⟨-2, _, _, w_313x0 e1 (qle_thr _), op_no hm (by decide), fun _ _ z => absurd z p3, rfl, id⟩
    · rw [cif_pos p1, cif_neg p2] at e0
      exact ⟨-1, _, _, w_313x2 e0 (qle_thr _), op_no hm (by decide), fun _ z => absurd z p2, rfl, id⟩
  · rw [cif_neg p1] at e0
    exact ⟨-1, _, _, w_313x2 e0 (qle_thr _), op_no hm (by decide), fun z => absurd z p1, rfl, id⟩
end
