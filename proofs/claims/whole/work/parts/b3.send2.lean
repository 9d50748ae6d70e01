/-! a letter is sent, on both sides -/
/-- the model's notes of relays and refusals -/
def offW (V W : VV) : Prop := (∀ a b, ¬ (a = 33 ∨ a = 38 ∨ a = 39) → W a b = V a b) ∧ ∀ j, ¬ (j = 6 ∨ j = 7 ∨ j = 8 ∨ j = 11 ∨ j = 12) → W 33 0 j = V 33 0 j
section
variable {d : Nat} {B : Int} {H K U V W X : VV} {x1 x2 x3 l u v : Int}
theorem offW_up (h : offW V W) {j x : Int} (hj : j = 6 ∨ j = 7 ∨ j = 8 ∨ j = 11 ∨ j = 12) : offW V (upV W 33 0 j x) := ⟨fun a b z => by rw [upV_off2 (by omega)]; exact h.1 a b z, fun i z => by rw [upV_at, if_neg (by omega)]; exact h.2 i z⟩
theorem offW_M {x : Int} : offW V (foundM V U x) := ⟨fun a b z => offR_M V U x a b (by omega), fun j _ => by rw [offR_M V U x 33 0 (by omega)]⟩
theorem offW_why (h : offW V W) : offW V (whyV W u v) := offW_up (offW_up h (by omega)) (by omega)
theorem offW_ref (h : offW V W) : offW V (refM W u v) := offW_up (offW_up (offW_up h (by omega)) (by omega)) (by omega)
/-- a refusal, and the row goes back -/
theorem CR_refuse (h : CR B U H) (eu : ∀ a b, ¬ a = 1 → a < 33 → K a b = U a b) (eu2 : ∀ j, ¬ (j = 11 ∨ j = 12) → K 1 0 j = U 1 0 j) (ev : eqV H K) (o : offW (keepM K) W) (h6 : W 33 0 6 = 3)
    (re : (K 1 0 11 = 1 ∨ K 1 0 11 = 2) ∧ W 33 0 7 = K 1 0 11 ∧ W 33 0 8 = K 1 0 12) (h5 : 0 ≤ H 33 0 5 ∧ H 33 0 5 < 9) {d : Nat} {q : QQ} {x : Int} : RUN d 216 (am_en 216 [aR 33 0, aI (iI x)]) (HM q W) = rI 0 (HM q (backM W)) ∧ backM W 33 0 6 = 3 ∧ CR (B + 100) (backM W) (backM W) := by
  obtain ⟨w1, w2, w3⟩ := keep_w ev
  have e5 : W 33 0 5 = H 33 0 5 := by rw [o.2 5 (by omega)]; exact w2 5 (by omega)
  have k : CR B K (backM W) := by
    refine CR_ref h eu eu2 (fun a b z => ?_) (fun j z => ?_) (fun j hj => ?_) (Or.inr ?_)
    · rw [backM_off (by omega), o.1 a b (by omega)]; exact w3 a b (by omega)
    · rw [backM_off (by omega), o.2 j (by omega)]; exact w2 j (by omega)
    · rw [backM_34, if_pos hj, o.1 35 0 (by omega)]; exact w1 j hj
    · rw [backM_off (by omega)]; exact re
  refine ⟨(s_216 (by rw [e5]; exact h5) (R32_6 (by rw [h6]; decide))).trans (cif_neg (by rw [h6]; decide)), by rw [backM_off (by omega)]; exact h6, CR_mono (CR_eqU k (fun a b z => ?_)) (by omega)⟩
  rw [backM_off (by omega), o.1 a b (by omega), keepM_off (by omega)]
theorem op_131 (h : CR B H H) (hB : B ≤ 999990) (r1 : R32 x1) (r2 : R32 x2) (r3 : R32 l) : OP B (d + 12) 131 [aR 1 0, aI (iI x1), aI (iI x2), aI (iI l)] (cmL [(2, 1), (0, 2), (4, 3)]) 270 [aR 33 0, aI (iI x1), aI (iI x2), aI (iI l)] H := by
  have rk := CR_rk h hB
  have rl := CR_rl h
  have mr : MR H H := CR_mr h
  have sm := CR_sm h
  have ho := CR_ho h
  have hn := rk_n rk
  have p5 := CR_5 h
  have ec := fun q => g_131_0 (d := d + 7) (q := q) (x1 := x1) (x2 := x2) (x3 := l) rk rl sm ho r1 r2 r3
  have em := fun q => g_271_0 (d := d + 6) (q := q) (V := keepM H) (x1 := x1) (x2 := x2) (x3 := l) rk (mr_keep mr) r1 r2 r3
  by_cases c1 : 0 ≤ x1 ∧ x1 < H 2 0 8
  · by_cases c2 : 0 ≤ x2 ∧ x2 < H 2 0 8
    · by_cases c3 : 97 ≤ l ∧ l < 113
      · have rkW : rowok (copyV H 1 0) := rk
        have rlW : relok (copyV H 1 0) := rl
        have cpo : ∀ a b, ¬ (2 ≤ a ∧ a ≤ 10 ∧ b = 1) → copyV H 1 0 a b = H a b := fun a b z => copyV_off (by omega)
        have lostC : CR B (lostV (copyV H 1 0) x2) H := CR_U h (fun a b z1 z2 z3 z4 => by rw [offS_lost a b z1]; exact cpo a b z3) (lost_rl rkW rlW c2)
        have evL : eqV H (lostV (copyV H 1 0) x2) := fun a b z => by rw [offS_lost a b (by omega)]; exact cpo a b (by omega)
        have evF : eqV H (foundV (copyV H 1 0) x1 x2) := fun a b z => by rw [offS_found a b (by omega)]; exact cpo a b (by omega)
        have mrk : ∀ {K : VV}, eqV H K → MR (keepM K) H := fun {K} ev => MR_off (by rw [keepM_off (by omega)]; exact ev 34 0 (by omega)) mr
        have fin : ∀ (K : VV) (U : VV), CR B U H → (∀ a b, ¬ a = 1 → a < 33 → K a b = U a b) → (∀ j, ¬ (j = 11 ∨ j = 12) → K 1 0 j = U 1 0 j) → eqV H K → ∀ (W : VV), offW (keepM K) W → W 33 0 6 = 3 → ((K 1 0 11 = 1 ∨ K 1 0 11 = 2) ∧ W 33 0 7 = K 1 0 11 ∧ W 33 0 8 = K 1 0 12) → (∀ q : QQ, RUN (d + 11) 271 (am_en 271 [aR 33 0, aI (iI x1), aI (iI x2), aI (iI l)]) (HM q (keepM K)) = rI 0 (HM q W)) → Aft B (d + 12) 270 [aR 33 0, aI (iI x1), aI (iI x2), aI (iI l)] 3 0 K := by
          intro K U hU e1 e2 e3 W o h6 re hm q' _
          have key := fun (q : QQ) => CR_refuse (d := d + 11) (q := q) (x := 0) hU e1 e2 e3 o h6 re p5
          exact ⟨q', 0, _, qst_refl q', go_270 (hm q') (key q').1, (key q').2.1, fun z => absurd z (by decide), (key q').2.2⟩
        have s2 := fun (q : QQ) (K : VV) (ev : eqV H K) => s_271 (d := d + 6) (q := q) (V := keepM K) (l := l) h.1.1 hB (mrk ev) c1 c2 c3
        intro q
        rcases s_131 (d := d + 7) (q := q) h.1.1 hB rl sm ho c1 c2 c3 with ⟨a1, a2⟩ | ⟨a1, i, a2, a3, a4, a5⟩ | ⟨a1, a2, a3⟩
        · refine ⟨3, 0, _, Or.inr ⟨by decide, by decide, 4, rfl, rfl, a2⟩, ?_⟩
          have ev : eqV H (upV (upV (lostV (copyV H 1 0) x2) 1 0 11 1) 1 0 12 x1) := fun a b z => by rw [upV_off2 (by omega), upV_off2 (by omega)]; exact evL a b z
          refine fin _ _ lostC (fun a b z1 z2 => by rw [upV_off2 (by omega), upV_off2 (by omega)]) (fun j z => by rw [upV_at, if_neg (by omega), upV_at, if_neg (by omega)]) ev (refM (whyV (foundM (keepM (upV (upV (lostV (copyV H 1 0) x2) 1 0 11 1) 1 0 12 x1)) H x2) 1 x1) 1 x1) (offW_ref (offW_why offW_M)) rfl ⟨Or.inl rfl, rfl, rfl⟩ (fun q' => ?_)
          rcases s2 q' _ ev with ⟨b1, b2⟩ | ⟨b1, -⟩ | ⟨b1, -⟩
          · exact b2
          · exact absurd b1 a1
          · exact absurd b1 a1
        · refine ⟨3, 0, _, Or.inr ⟨by decide, by decide, 4, rfl, rfl, a5⟩, ?_⟩
          have ev : eqV H (upV (upV (foundV (copyV H 1 0) x1 x2) 1 0 11 2) 1 0 12 (pP H x1 x2 (i + 1))) := fun a b z => by rw [upV_off2 (by omega), upV_off2 (by omega)]; exact evF a b z
          have foundC : CR B (foundV (copyV H 1 0) x1 x2) H := CR_U h (fun a b z1 z2 z3 z4 => by rw [offS_found a b z1]; exact cpo a b z3) (found_p rkW rlW c1 c2 a1).2.2.2.2.2.2
          refine fin _ _ foundC (fun a b z1 z2 => by rw [upV_off2 (by omega), upV_off2 (by omega)]) (fun j z => by rw [upV_at, if_neg (by omega), upV_at, if_neg (by omega)]) ev (refM (upV (upV (whyV (foundM (keepM (upV (upV (foundV (copyV H 1 0) x1 x2) 1 0 11 2) 1 0 12 (pP H x1 x2 (i + 1)))) H x2) 0 x1) 33 0 11 2) 33 0 12 (pP H x1 x2 (i + 1))) 2 (pP H x1 x2 (i + 1))) (offW_ref (offW_up (offW_up (offW_why offW_M) (by omega)) (by omega))) rfl ⟨Or.inr rfl, rfl, rfl⟩ (fun q' => ?_)
          rcases s2 q' _ ev with ⟨b1, b2⟩ | ⟨b1, i', b2, b3, b4, b5⟩ | ⟨b1, b2, -⟩
          · exact absurd a1 b1
          · have ei : i' = i := by
              rcases Nat.lt_trichotomy i' i with z | z | z
              · exact absurd b3 (a4 i' z)
              · exact z
              · exact absurd a3 (b4 i z)
            rw [ei] at b5
            exact b5
          · exact absurd a3 (b2 i a2)
        · refine ⟨0, _, _, Or.inl ⟨rfl, a3⟩, fun q' _ => ?_⟩
          obtain ⟨f1, f2, f3, f4, f5, f6, f7⟩ := found_p rkW rlW c1 c2 a1
          have f2 : pN H x1 x2 ≤ 7 := f2
          have f6 : ∀ i : Nat, i ≤ pN H x1 x2 → _ ∧ 0 ≤ pP H x1 x2 i ∧ pP H x1 x2 i < H 2 0 8 := f6
          have fo : ∀ a b, ¬ (14 ≤ a ∧ a ≤ 21) → ¬ (2 ≤ a ∧ a ≤ 10 ∧ b = 1) → foundV (copyV H 1 0) x1 x2 a b = H a b := fun a b z1 z2 => by rw [offS_found a b z1]; exact cpo a b z2
          have so : ∀ a b, ¬ (14 ≤ a ∧ a ≤ 21) → ¬ (2 ≤ a ∧ a ≤ 10 ∧ b < 2) → sentV (foundV (copyV H 1 0) x1 x2) (pP H x1 x2) l (pN H x1 x2) a b = H a b := fun a b z1 z2 => by rw [sentV_off (by omega)]; exact fo a b z1 (by omega)
          have ev : eqV H (keepV (sentV (foundV (copyV H 1 0) x1 x2) (pP H x1 x2) l (pN H x1 x2)) 1) := fun a b z => by rw [eqV_keep a b z]; exact so a b (by omega) (by omega)
          obtain ⟨w1, w2, w3⟩ := keep_w ev
          rcases s2 q' _ ev with ⟨b1, -⟩ | ⟨b1, i, b2, b3, -⟩ | ⟨b1, b2, W, b3, b4, b5⟩
          · exact absurd a1 b1
          · exact absurd b3 (a2 i b2)
          · have o : offW (keepM (keepV (sentV (foundV (copyV H 1 0) x1 x2) (pP H x1 x2) l (pN H x1 x2)) 1)) (whyV (foundM (keepM (keepV (sentV (foundV (copyV H 1 0) x1 x2) (pP H x1 x2) l (pN H x1 x2)) 1)) H x2) 0 x1) := offW_why offW_M
            have h33 : ∀ j, ¬ (j = 6 ∨ j = 7 ∨ j = 8 ∨ j = 11 ∨ j = 12) → W 33 0 j = keepM (keepV (sentV (foundV (copyV H 1 0) x1 x2) (pP H x1 x2) l (pN H x1 x2)) 1) 33 0 j := fun j z => by rw [b3 33 0 (by omega)]; exact o.2 j z
            have hM : foundM (keepM (keepV (sentV (foundV (copyV H 1 0) x1 x2) (pP H x1 x2) l (pN H x1 x2)) 1)) H x2 33 0 = keepM (keepV (sentV (foundV (copyV H 1 0) x1 x2) (pP H x1 x2) l (pN H x1 x2)) 1) 33 0 := offR_M _ _ _ 33 0 (by omega)
            have hw : ∀ j, ¬ (j = 11 ∨ j = 12) → W 33 0 j = keepM (keepV (sentV (foundV (copyV H 1 0) x1 x2) (pP H x1 x2) l (pN H x1 x2)) 1) 33 0 j := fun j z => by
              rw [b3 33 0 (by omega)]
              unfold whyV
              rw [upV_at, if_neg (by omega), upV_at, if_neg (by omega), hM]
            have k6 : W 33 0 6 = 0 := by rw [hw 6 (by omega), keepM_33, if_pos rfl]
            have k5 : W 33 0 5 = H 33 0 5 := by rw [hw 5 (by omega)]; exact w2 5 (by omega)
            refine ⟨q', _, _, qst_refl q', go_270 b5 (e216_ok h k5 k6), push_6 k6, fun _ => rfl, ?_⟩
            have rf : RI B 0 (foundV (copyV H 1 0) x1 x2) := RI_off (fun a z1 z2 => fo a 0 (by omega) (by omega)) h.1
            have rs := RI_sent (P := pP H x1 x2) (l := l) (k := pN H x1 x2) rf c3 f2 (fun i hi => (f6 i hi).2)
            have r1' : ∀ a, 2 ≤ a → a ≤ 10 → sentV (foundV (copyV H 1 0) x1 x2) (pP H x1 x2) l (pN H x1 x2) a 1 = copyV H 1 0 a 1 := fun a z1 z2 => by rw [sentV_off (by omega), offS_found a 1 (by omega)]
            refine CR_push (U := keepV (sentV (foundV (copyV H 1 0) x1 x2) (pP H x1 x2) l (pN H x1 x2)) 1) (K := sentV (foundV (copyV H 1 0) x1 x2) (pP H x1 x2) l (pN H x1 x2)) (r := 1) h (by decide) (RI_off r1' (RI_copy (by decide) h.1)) (SR_off r1' (SR_copy (by decide) (RI_8 h.1) mr)) (so 11 0 (by omega) (by omega)) (fun a b z1 z2 z3 => so a b (by omega) (by omega)) rfl (fun _ _ _ _ _ => rfl) (fun a b z1 z2 z3 z4 z5 => ?_) (RI_off (fun a z1 z2 => keep_row (by decide) z1 z2) rs) ?_ (fun j hj => ?_) (fun j hj => ?_) (fun a b hab => ?_) ?_ (fun a b z => ?_)
            · by_cases hb : b = 2
              · rw [keepV_off z4 (by rw [so 11 0 (by omega) (by omega)]; omega)]; exact so a b z1 (by omega)
              · rw [keepV_off z4 (by omega)]; exact so a b z1 (by omega)
            · exact relok_eq (fun a b z1 z2 => by rw [keepV_off (by omega) (by omega), sentV_off (by omega)]) f7
            · rw [b3 35 0 (by omega), o.1 35 0 (by omega)]; exact w1 j hj
            · rw [hw j (by omega)]; exact w2 j hj
            · rw [b3 a b (by omega), o.1 a b (by omega)]; exact w3 a b (by omega)
            · exact SR_off (fun a z1 z2 => by rw [keep_row (by decide) z1 z2]; exact sentV_two (fun a z1 z2 => fo a 0 (by omega) (by omega)) a z1 z2) b4
            · rw [b3 a b (by omega), o.1 a b (by omega), keepM_off (by omega)]
      · have em2 := fun q => ((em q).trans (cif_pos ⟨c1, c2⟩)).trans (cif_neg c3)
        have mm := fun q : QQ => go_270 (em2 q) (e216_no (d := d + 11) (q := q) (v := 0) h (x := 2) (by decide))
        by_cases c4 : l < 97
        · exact OP_ex (j := 0) (k := 2) (fun q => (((ec q).trans (cif_pos c1)).trans (cif_pos c2)).trans (cif_pos c4)) rfl rfl (by decide) mm bk_6 (CR_bk h)
        · exact OP_ex (j := 0) (k := 2) (fun q => ((((ec q).trans (cif_pos c1)).trans (cif_pos c2)).trans (cif_neg c4)).trans (cif_neg (by omega))) rfl rfl (by decide) mm bk_6 (CR_bk h)
    · exact OP_ex (j := 2) (k := 1) (fun q => ((ec q).trans (cif_pos c1)).trans (cif_neg c2)) rfl rfl (by decide) (fun q => go_270 ((em q).trans (cif_neg (fun z => c2 z.2))) (e216_no h (by decide))) bk_6 (CR_bk h)
  · exact OP_ex (j := 2) (k := 1) (fun q => (ec q).trans (cif_neg c1)) rfl rfl (by decide) (fun q => go_270 ((em q).trans (cif_neg (fun z => c1 z.1))) (e216_no h (by decide))) bk_6 (CR_bk h)
end
