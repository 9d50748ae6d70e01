/-! the calls that change the row, on both sides -/
section
variable {d : Nat} {B C : Int} {H K U V W : VV} {x1 x2 x3 x : Int}
theorem CR_V2 (h : CR B U V) (k1 : ∀ a b, a = 36 ∨ a = 37 ∨ a = 41 ∨ a = 42 → W a b = V a b) (k2 : ∀ j, j = 3 ∨ j = 5 ∨ j = 7 ∨ j = 8 ∨ j = 15 ∨ j = 17 ∨ j = 20 ∨ j = 21 → W 33 0 j = V 33 0 j) (k3 : ∀ j, 0 ≤ j ∧ j < 154 → W 34 0 j = V 34 0 j) : CR B U W := by
  obtain ⟨h1, h2, h3, h4, h5, h6, h7, h8, h9, h10⟩ := h
  exact ⟨h1, SR_cong (RI_8 h1) k3 h2, h3, h4, hisR_V h5 (k2 5 (by omega)) (k1 37 0 (by omega)), savR_V h6 (k2 3 (by omega)) (k1 36 0 (by omega)), refR_V h7 (k2 7 (by omega)) (k2 8 (by omega)), errR_V h8 (k2 20 (by omega)) (k2 21 (by omega)), outR_V h9 (k2 15 (by omega)) (k1 41 0 (by omega)), inR_V h10 (k2 17 (by omega)) (k1 42 0 (by omega))⟩
/-- the row went back, the refusal was kept -/
theorem CR_ref (h : CR B U V) (u1 : ∀ a b, ¬ a = 1 → a < 33 → K a b = U a b) (u2 : ∀ j, ¬ (j = 11 ∨ j = 12) → K 1 0 j = U 1 0 j) (k1 : ∀ a b, a = 36 ∨ a = 37 ∨ a = 41 ∨ a = 42 → W a b = V a b) (k2 : ∀ j, j = 3 ∨ j = 5 ∨ j = 15 ∨ j = 17 ∨ j = 20 ∨ j = 21 → W 33 0 j = V 33 0 j) (k3 : ∀ j, 0 ≤ j ∧ j < 154 → W 34 0 j = V 34 0 j) (re : refR K W) : CR B K W := by
  obtain ⟨h1, h2, h3, h4, h5, h6, h7, h8, h9, h10⟩ := h
  refine ⟨RI_off (fun a z1 z2 => u1 a 0 (by omega) (by omega)) h1, SR_off (fun a z1 z2 => u1 a 0 (by omega) (by omega)) (SR_cong (RI_8 h1) k3 h2), relok_eq (fun a b z1 z2 => u1 a b (by omega) (by omega)) h3, ?_, hisR_U (hisR_V h5 (k2 5 (by omega)) (k1 37 0 (by omega))) (u1 11 0 (by omega) (by omega)) (fun a b z1 z2 z3 => u1 a b (by omega) (by omega)), savR_U (savR_V h6 (k2 3 (by omega)) (k1 36 0 (by omega))) (u2 10 (by omega)) (fun a z1 z2 => u1 a 2 (by omega) (by omega)), re, errR_U (errR_V h8 (k2 20 (by omega)) (k2 21 (by omega))) (u2 13 (by omega)) (u2 14 (by omega)), outR_U (outR_V h9 (k2 15 (by omega)) (k1 41 0 (by omega))) (u1 31 0 (by omega) (by omega)) (u1 32 0 (by omega) (by omega)), inR_U (inR_V h10 (k2 17 (by omega)) (k1 42 0 (by omega))) (u1 27 0 (by omega) (by omega)) (u1 28 0 (by omega) (by omega))⟩
  unfold smok
  rw [u1 23 0 (by omega) (by omega)]
  exact h4
/-- the row was changed, what it was before was kept -/
theorem CR_push {r : Nat} (h : CR B H H) (hr : r < 3) (kr : RI B r K) (ks : SRr r K (H 34 0)) (k11 : K 11 0 = H 11 0) (k3 : ∀ a b, 2 ≤ a → a ≤ 10 → 3 ≤ b → K a b = H a b)
    (u11 : U 11 0 = keepV K r 11 0) (u3 : ∀ a b, 2 ≤ a → a ≤ 10 → 3 ≤ b → U a b = keepV K r a b) (u0 : ∀ a b, ¬ (14 ≤ a ∧ a ≤ 21) → ¬ (24 ≤ a ∧ a ≤ 26) → ¬ (2 ≤ a ∧ a ≤ 10 ∧ ¬ b = 2) → ¬ a = 11 → a < 33 → U a b = H a b) (ri : RI (B + 10) 0 U) (rl : relok U)
    (w35 : ∀ j, 0 ≤ j ∧ j < 154 → W 35 0 j = H 34 0 j) (w33 : ∀ j, j = 3 ∨ j = 5 ∨ j = 7 ∨ j = 8 ∨ j = 15 ∨ j = 17 ∨ j = 20 ∨ j = 21 → W 33 0 j = H 33 0 j) (w : ∀ a b, a = 36 ∨ a = 37 ∨ a = 41 ∨ a = 42 → W a b = H a b) (w34 : SRr 0 U (W 34 0)) (wU : eqU U W) : CR (B + 100) (pushM W) (pushM W) := by
  obtain ⟨h1, h2, h3, h4, h5, h6, h7, h8, h9, h10⟩ := h
  have hk : hisR B K H := hisR_U h5 k11 k3
  have hp := hisR_push (W := W) hk hr kr (SR_cong (RI_8 kr) w35 ks) (w33 5 (by omega)) (w 37 0 (by omega))
  have u1 : U 1 0 = H 1 0 := u0 1 0 (by omega) (by omega) (by omega) (by omega) (by omega)
  have um : ∀ a b, 12 ≤ a → a < 33 → ¬ (14 ≤ a ∧ a ≤ 21) → ¬ (24 ≤ a ∧ a ≤ 26) → U a b = H a b := fun a b z1 z2 z3 z4 => u0 a b z3 z4 (by omega) (by omega) z2
  have eP : eqU U (pushM W) := fun a b z => by rw [pushM_off (by omega)]; exact wU a b z
  have key : CR (B + 10) U (pushM W) := by
    refine ⟨ri, ?_, rl, smok_eq (um 23 0 (by omega) (by omega) (by omega) (by omega)) h4, hisR_mono (hisR_U hp u11 u3) (by omega), savR_mono (savR_U (savR_V h6 ?_ ?_) (by rw [u1]) (fun a z1 z2 => u0 a 2 (by omega) (by omega) (by omega) (by omega) (by omega))) (by omega), refR_U (refR_V h7 ?_ ?_) (by rw [u1]) (by rw [u1]), errR_U (errR_V h8 ?_ ?_) (by rw [u1]) (by rw [u1]), outR_U (outR_V h9 ?_ ?_) (um 31 0 (by omega) (by omega) (by omega) (by omega)) (um 32 0 (by omega) (by omega) (by omega) (by omega)), inR_U (inR_V h10 ?_ ?_) (um 27 0 (by omega) (by omega) (by omega) (by omega)) (um 28 0 (by omega) (by omega) (by omega) (by omega))⟩
    · unfold MR
      rw [pushM_off (by omega)]
      exact w34
    · rw [pushM_33 (by omega)]; exact w33 3 (by omega)
    · rw [pushM_off (by omega)]; exact w 36 0 (by omega)
    · rw [pushM_33 (by omega)]; exact w33 7 (by omega)
    · rw [pushM_33 (by omega)]; exact w33 8 (by omega)
    · rw [pushM_33 (by omega)]; exact w33 20 (by omega)
    · rw [pushM_33 (by omega)]; exact w33 21 (by omega)
    · rw [pushM_33 (by omega)]; exact w33 15 (by omega)
    · rw [pushM_off (by omega)]; exact w 41 0 (by omega)
    · rw [pushM_33 (by omega)]; exact w33 17 (by omega)
    · rw [pushM_off (by omega)]; exact w 42 0 (by omega)
  exact CR_mono (CR_eqU key eP) (by omega)
/-- a change that failed: the model's row went back -/
theorem CR_bk (h : CR B H H) : CR (B + 100) (backM (upV (keepM H) 33 0 6 x)) (backM (upV (keepM H) 33 0 6 x)) := by
  have k : CR B H (backM (upV (keepM H) 33 0 6 x)) := by
    refine CR_V2 h (fun a b z => ?_) (fun j z => ?_) (fun j hj => ?_)
    · rw [backM_off (by omega), upV_off2 (by omega), keepM_off (by omega)]
    · rw [backM_off (by omega), upV_at, if_neg (by omega), keepM_33, if_neg (by omega)]
    · rw [backM_34, if_pos hj, upV_off2 (by omega), keepM_35 hj]
  exact CR_mono (CR_eqU k (fun a b z => by rw [backM_off (by omega), upV_off2 (by omega), keepM_off (by omega)])) (by omega)
theorem mr_keep {U : VV} (h : MR H U) : MR (keepM H) U := MR_off (keepM_off (by omega)) h
theorem CR_5 (h : CR B H H) : 0 ≤ H 33 0 5 ∧ H 33 0 5 < 9 := by
  have a := h.2.2.2.2.1.2.1
  have b := h.2.2.2.2.1.1
  unfold hisok at b
  omega
theorem R32_6 {V : VV} (h : 0 ≤ V 33 0 6 ∧ V 33 0 6 ≤ 3) : R32 (V 33 0 6) := by constructor <;> omega
/-- what was kept on the model's side -/
theorem keep_w {U : VV} (e : eqV H U) : (∀ j, 0 ≤ j ∧ j < 154 → keepM U 35 0 j = H 34 0 j) ∧ (∀ j, j = 3 ∨ j = 5 ∨ j = 7 ∨ j = 8 ∨ j = 15 ∨ j = 17 ∨ j = 20 ∨ j = 21 → keepM U 33 0 j = H 33 0 j) ∧ ∀ a b, a = 34 ∨ a = 36 ∨ a = 37 ∨ a = 41 ∨ a = 42 → keepM U a b = H a b := by
  refine ⟨fun j hj => ?_, fun j hj => ?_, fun a b hab => ?_⟩
  · rw [keepM_35 hj, e 34 0 (by omega)]
  · rw [keepM_33, if_neg (by omega), e 33 0 (by omega)]
  · rw [keepM_off (by omega), e a b (by omega)]
theorem eqV_keep {r : Nat} : eqV H (keepV H r) := fun a b z => keepV_off (by omega) (by omega)
theorem keep_row {r b : Nat} (hb : b < 3) {a : Nat} (h1 : 2 ≤ a) (h2 : a ≤ 10) : keepV H r a b = H a b := keepV_off (by omega) (by omega)
theorem e216_no {d : Nat} {q : QQ} {v : Int} (h : CR B H H) (hx : 1 ≤ x ∧ x ≤ 3) : RUN d 216 (am_en 216 [aR 33 0, aI (iI v)]) (HM q (upV (keepM H) 33 0 6 x)) = rI 0 (HM q (backM (upV (keepM H) 33 0 6 x))) := by
  have p5 := CR_5 h
  have e5 : upV (keepM H) 33 0 6 x 33 0 5 = H 33 0 5 := by rw [upV_at, if_neg (by decide), keepM_33, if_neg (by decide)]
  have e6 : upV (keepM H) 33 0 6 x 33 0 6 = x := rfl
  exact (s_216 (by rw [e5]; exact p5) (R32_6 (by rw [e6]; omega))).trans (cif_neg (by rw [e6]; omega))
theorem e216_ok {d : Nat} {q : QQ} {v : Int} (h : CR B H H) (h5 : W 33 0 5 = H 33 0 5) (h6 : W 33 0 6 = 0) : RUN d 216 (am_en 216 [aR 33 0, aI (iI v)]) (HM q W) = rI v (HM q (pushM W)) := by
  have p5 := CR_5 h
  exact (s_216 (by rw [h5]; exact p5) (R32_6 (by rw [h6]; decide))).trans (cif_pos (by rw [h6]; decide))
theorem bk_6 {x : Int} : backM (upV (keepM H) 33 0 6 x) 33 0 6 = x := by rw [backM_off (by omega)]; rfl
theorem eqV_up1 {A : Nat} {e v : Int} (hA : 2 ≤ A ∧ A ≤ 10) : eqV H (upV (keepV H 0) A 0 e v) := fun a b z => by rw [upV_off2 (by omega)]; exact eqV_keep a b z
theorem mr_up1 {A : Nat} {e v : Int} (hA : 2 ≤ A ∧ A ≤ 10) (mr : MR H H) : MR (keepM (upV (keepV H 0) A 0 e v)) H := by
  refine MR_off ?_ mr
  rw [keepM_off (by omega)]
  exact eqV_up1 hA 34 0 (by omega)
theorem RI_keep (h : CR B H H) {r : Nat} : RI B 0 (keepV H r) := RI_off (fun a z1 z2 => keep_row (by decide) z1 z2) h.1
theorem SR_keep (h : CR B H H) {r : Nat} : SRr 0 (keepV H r) (H 34 0) := SR_off (fun a z1 z2 => keep_row (by decide) z1 z2) h.2.1
theorem push_6 (h6 : W 33 0 6 = 0) : pushM W 33 0 6 = 0 := by rw [pushM_33 (by omega)]; exact h6
theorem k216 {U : VV} (e : eqV H U) {e' v : Int} : (upV (keepM U) 34 0 e' v) 33 0 5 = H 33 0 5 ∧ (upV (keepM U) 34 0 e' v) 33 0 6 = 0 := by
  rw [upV_off2 (by omega), keepM_33, keepM_33, if_neg (by decide), if_pos rfl, e 33 0 (by omega)]
  exact ⟨rfl, rfl⟩
/-- one number of the row was changed -/
theorem CR_push1 {A : Nat} {e e' v : Int} (h : CR B H H) (hA : 2 ≤ A ∧ A ≤ 10) (ri : RI B 0 (upV (keepV H 0) A 0 e v)) (sr : SRr 0 (upV (keepV H 0) A 0 e v) (setF (H 34 0) e' v)) : CR (B + 100) (pushM (upV (keepM (upV (keepV H 0) A 0 e v)) 34 0 e' v)) (pushM (upV (keepM (upV (keepV H 0) A 0 e v)) 34 0 e' v)) := by
  obtain ⟨w1, w2, w3⟩ := keep_w (eqV_up1 (e := e) (v := v) hA (H := H))
  refine CR_push (U := upV (keepV H 0) A 0 e v) (K := H) (r := 0) h (by decide) h.1 h.2.1 rfl (fun _ _ _ _ _ => rfl) (upV_off2 (by omega)) (fun a b z1 z2 z3 => upV_off2 (by omega)) (fun a b z1 z2 z3 z4 z5 => ?_) (RI_mono ri (by omega)) ?_ (fun j hj => ?_) (fun j hj => ?_) (fun a b hab => ?_) ?_ (fun a b z => ?_)
  · rw [upV_off2 (by omega)]
    exact keepV_off z4 (by omega)
  · exact relok_eq (fun a b z1 z2 => by rw [upV_off2 (by omega)]; exact keepV_off (by omega) (by omega)) h.2.2.1
  · rw [upV_off2 (by omega)]; exact w1 j hj
  · rw [upV_off2 (by omega)]; exact w2 j hj
  · rw [upV_off2 (by omega)]; exact w3 a b (by omega)
  · have e34 : upV (keepM (upV (keepV H 0) A 0 e v)) 34 0 e' v 34 0 = setF (H 34 0) e' v := by
      funext j
      rw [upV_at, w3 34 0 (by omega)]
      rfl
    rw [e34]
    exact sr
  · rw [upV_off2 (by omega), keepM_off (by omega)]
theorem op_56 (h : CR B H H) (hB : B ≤ 999990) (r1 : R32 x1) (r2 : R32 x2) : OP B (d + 12) 56 [aR 1 0, aI (iI x1), aI (iI x2)] (cmL [(0, 1)]) 210 [aR 33 0, aI (iI x1), aI (iI x2)] H := by
  have rk := CR_rk h hB
  have mr : MR H H := CR_mr h
  by_cases c : (0 ≤ x1 ∧ x1 < 32) ∧ 0 ≤ x2 ∧ x2 ≤ 9
  · obtain ⟨k5, k6⟩ := k216 (eqV_up1 (H := H) (A := 3) (e := x1) (v := x2) (by decide)) (e' := 2 + x1) (v := x2)
    exact OP_ok (fun q => (e_56 rk (CR_ho h) r1 r2).trans (cif_pos c)) (fun q => go_210 (((e_212 (d := d + 9) rk (mr_up1 (by decide) mr) r1 r2).trans (cif_pos c.1)).trans (cif_pos c.2)) (e216_ok h k5 k6)) rfl (push_6 k6) (CR_push1 h (by decide) (RI_ground (RI_keep h) c.2) (SR_ground c.1 (RI_8 (RI_keep h)) (SR_keep h)))
  · have e2 : ∀ q : QQ, RUN (d + 11) 212 (am_en 212 [aR 33 0, aI (iI x1), aI (iI x2)]) (HM q (keepM H)) = rI 0 (HM q (upV (keepM H) 33 0 6 1)) := fun q => by
      rw [e_212 (d := d + 9) rk (mr_keep mr) r1 r2]
      exact cif_eq (fun a => cif_neg (fun b => c ⟨a, b⟩)) (fun _ => rfl)
    exact OP_ex (j := 0) (k := 1) (fun q => (e_56 rk (CR_ho h) r1 r2).trans (cif_neg c)) rfl rfl (by decide) (fun q => go_210 (e2 q) (e216_no h (by decide))) bk_6 (CR_bk h)
theorem op_98 (h : CR B H H) (hB : B ≤ 999990) (r1 : R32 x1) : OP B (d + 12) 98 [aR 1 0, aI (iI x1)] (cmL [(0, 1)]) 247 [aR 33 0, aI (iI x1)] H := by
  have rk := CR_rk h hB
  have mr : MR H H := CR_mr h
  by_cases c : -9 ≤ x1 ∧ x1 ≤ 9
  · obtain ⟨k5, k6⟩ := k216 (eqV_up1 (H := H) (A := 2) (e := 9) (v := x1) (by decide)) (e' := 0) (v := x1)
    exact OP_ok (fun q => (e_98 rk (CR_ho h) r1).trans (cif_pos c)) (fun q => go_247 ((e_248 (d := d + 10) rk (mr_up1 (by decide) mr) r1).trans (cif_pos c)) (e216_ok h k5 k6)) rfl (push_6 k6) (CR_push1 h (by decide) (RI_wind (RI_keep h) c) (SR_wind (RI_8 (RI_keep h)) (SR_keep h)))
  · exact OP_ex (j := 0) (k := 1) (fun q => (e_98 rk (CR_ho h) r1).trans (cif_neg c)) rfl rfl (by decide) (fun q => go_247 ((e_248 (d := d + 10) rk (mr_keep mr) r1).trans (cif_neg c)) (e216_no h (by decide))) bk_6 (CR_bk h)
theorem op_68 (h : CR B H H) (hB : B ≤ 999990) (r1 : R32 x1) (r2 : R32 x2) : OP B (d + 12) 68 [aR 1 0, aI (iI x1), aI (iI x2)] (cmL [(2, 1), (0, 2)]) 222 [aR 33 0, aI (iI x1), aI (iI x2)] H := by
  have rk := CR_rk h hB
  have mr : MR H H := CR_mr h
  have hn := rk_n rk
  by_cases c1 : 0 ≤ x1 ∧ x1 < H 2 0 8
  · by_cases c2 : 0 ≤ x2 ∧ x2 < 4
    · obtain ⟨k5, k6⟩ := k216 (eqV_up1 (H := H) (A := 6) (e := x1) (v := x2) (by decide)) (e' := 50 + 13 * x1 + 2) (v := x2)
      exact OP_ok (fun q => ((e_68 rk (CR_ho h) r1 r2).trans (cif_pos c1)).trans (cif_pos c2)) (fun q => go_222 (((e_223 (d := d + 9) rk (mr_up1 (by decide) mr) r1 r2).trans (cif_pos c1)).trans (cif_pos (by omega))) (e216_ok h k5 k6)) rfl (push_6 k6) (CR_push1 h (by decide) (RI_mood (RI_keep h) c2) (SR_mood (by omega) (RI_8 (RI_keep h)) (SR_keep h)))
    · exact OP_ex (j := 0) (k := 2) (fun q => ((e_68 rk (CR_ho h) r1 r2).trans (cif_pos c1)).trans (cif_neg c2)) rfl rfl (by decide) (fun q => go_222 (((e_223 (d := d + 9) rk (mr_keep mr) r1 r2).trans (cif_pos c1)).trans (cif_neg (by omega))) (e216_no h (by decide))) bk_6 (CR_bk h)
  · exact OP_ex (j := 2) (k := 1) (fun q => (e_68 rk (CR_ho h) r1 r2).trans (cif_neg c1)) rfl rfl (by decide) (fun q => go_222 ((e_223 (d := d + 9) rk (mr_keep mr) r1 r2).trans (cif_neg c1)) (e216_no h (by decide))) bk_6 (CR_bk h)
end
