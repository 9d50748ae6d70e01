/-! relays, codes and the like, on both sides -/
section
variable {d : Nat} {B : Int} {H U V W : VV} {x1 x2 x3 x : Int}
theorem kp_R (o : offR (upV U 33 0 6 x) W) : kpV U W ∧ eqU U W ∧ W 33 0 6 = x :=
  ⟨⟨fun a b z => by rw [o a b (by omega), upV_off2 (by omega)], fun j z => by rw [o 33 0 (by omega), upV_at, if_neg (by omega)]⟩, fun a b z => by rw [o a b (by omega), upV_off2 (by omega)], by rw [o 33 0 (by omega)]; rfl⟩
theorem kp_G (o : offG (upV U 33 0 6 x) W) : kpV U W ∧ eqU U W ∧ W 33 0 6 = x :=
  ⟨⟨fun a b z => by rw [o a b (by omega), upV_off2 (by omega)], fun j z => by rw [o 33 0 (by omega), upV_at, if_neg (by omega)]⟩, fun a b z => by rw [o a b (by omega), upV_off2 (by omega)], by rw [o 33 0 (by omega)]; rfl⟩
theorem kp_M {y : Int} : kpV V (upV (foundM V U y) 33 0 6 x) ∧ eqU V (upV (foundM V U y) 33 0 6 x) ∧ upV (foundM V U y) 33 0 6 x 33 0 6 = x :=
  ⟨⟨fun a b z => by rw [upV_off2 (by omega), offR_M V U y a b (by omega)], fun j z => by rw [upV_at, if_neg (by omega), offR_M V U y 33 0 (by omega)]⟩, fun a b z => by rw [upV_off2 (by omega), offR_M V U y a b (by omega)], rfl⟩
theorem kp_MM {y x' : Int} : kpV V (upV (upV (foundM V U y) 33 0 6 x') 33 0 6 x) ∧ eqU V (upV (upV (foundM V U y) 33 0 6 x') 33 0 6 x) ∧ upV (upV (foundM V U y) 33 0 6 x') 33 0 6 x 33 0 6 = x :=
  ⟨kpV_trans kp_M.1 kpV_6, fun a b z => by rw [upV_off2 (by omega)]; exact kp_M.2.1 a b z, rfl⟩
theorem offS_tab : offS H (tabS H) := fun a b z => by
  have e1 : tabS H a b = stepsV H a b := by
    funext k
    show gridV 19 (stepsV H) (fw (stepW (stepsV H)) _) _ _ 0 a b k = _
    unfold gridV
    rw [beq_no (show a ≠ 19 by omega)]
    rfl
  rw [e1]
  exact offS_steps a b z
theorem offS_agree : offS H (agreeV H) := offS_trans offS_tab (offS_setA (by decide))
theorem op_25 (h : CR B H H) (hB : B ≤ 999990) : OP B (d + 12) 25 [aR 1 0] (cmL []) 259 [aR 33 0] H := by
  have rk := CR_rk h hB
  have mr : MR (tabS H) H := CR_mr h
  intro q
  refine ⟨0, _, tabS H, Or.inl ⟨rfl, e_25 rk (CR_rl h)⟩, fun q' _ => ?_⟩
  obtain ⟨W, w1, w2⟩ := s_259 (d := d + 8) (q := q') rk mr
  obtain ⟨k1, k2, k3⟩ := kp_R w1
  exact ⟨q', _, W, qst_refl q', w2, k3, fun _ => rfl, CR_end h (kpU_S offS_tab) (relok_tabS rk (CR_rl h)) (eqV_S offS_tab) k1 k2⟩
theorem op_32 (h : CR B H H) (hB : B ≤ 999990) : OP B (d + 12) 32 [aR 1 0] (cmL []) 278 [aR 33 0] H := by
  have rk := CR_rk h hB
  intro q
  obtain ⟨c, U, u1, u2, u3⟩ := s_32 (d := d + 9) (q := q) rk
  have mr : MR U H := MR_off (u1 34 0 (by omega)) (CR_mr h)
  refine ⟨0, c, U, Or.inl ⟨rfl, u3⟩, fun q' _ => ?_⟩
  obtain ⟨c', W, w1, w2, w3⟩ := s_278 (d := d + 11) (q := q') rk mr
  obtain ⟨k1, k2, k3⟩ := kp_G w1
  exact ⟨q', _, W, qst_refl q', w3, k3, fun _ => bcost_uniq (List.Perm.refl _) w2 u2, CR_end h (kpU_C u1) (relok_eq (fun a b z1 z2 => u1 a b (by omega)) (CR_rl h)) (eqV_C u1) k1 k2⟩
theorem op_37 (h : CR B H H) (hB : B ≤ 999990) : OP B (d + 12) 37 [aR 1 0] (cmL []) 280 [aR 33 0] H := by
  have rk := CR_rk h hB
  intro q
  obtain ⟨c, U, u1, u2, u3⟩ := s_37 (d := d + 9) (q := q) rk
  have mr : MR U H := MR_off (u1 34 0 (by omega)) (CR_mr h)
  refine ⟨0, c, U, Or.inl ⟨rfl, u3⟩, fun q' _ => ?_⟩
  obtain ⟨c', W, w1, w2, w3⟩ := s_278 (d := d + 10) (q := q') rk mr
  obtain ⟨k1, k2, k3⟩ := kp_G w1
  exact ⟨q', _, W, qst_refl q', go_280 w3, k3, fun _ => bcost_uniq (List.Perm.refl _) w2 u2, CR_end h (kpU_C u1) (relok_eq (fun a b z1 z2 => u1 a b (by omega)) (CR_rl h)) (eqV_C u1) k1 k2⟩
theorem op_41 (h : CR B H H) (hB : B ≤ 999990) : OP B (d + 12) 41 [aR 1 0] (cmL []) 285 [aR 33 0] H := by
  have rk := CR_rk h hB
  intro q
  obtain ⟨U, u1, u3⟩ := s_41 (d := d + 1) (q := q) rk (CR_rl h) (CR_sm h) (CR_d h)
  refine ⟨0, 1, U, Or.inl ⟨rfl, u3⟩, fun q' _ => ?_⟩
  have o : offS H (lookV (lookV (agreeV H))) := offS_trans (offS_trans offS_agree offS_look) offS_look
  have rl3 : relok (lookV (lookV (agreeV H))) := relok_set (relok_tabS rk (CR_rl h)) (agree_is rk (CR_rl h)).1
  have k1 : kpU H U := kpU_trans (kpU_S o) (kpU_C u1)
  have e1 : eqV H U := fun a b z => by rw [u1 a b (by omega), o a b (by omega)]
  exact ⟨q', 1, _, qst_refl q', e_285, rfl, fun _ => rfl, CR_end h k1 (relok_eq (fun a b z1 z2 => u1 a b (by omega)) rl3) e1 kpV_6 (eqU_up (by decide))⟩
/-- the three ends of a call that asks for a relay -/
theorem CR_found (h : CR B H H) (hB : B ≤ 999990) (p1 : 0 ≤ x1 ∧ x1 < H 2 0 8) (p2 : 0 ≤ x2 ∧ x2 < H 2 0 8) (hR : pR H x1 x2) (k2 : kpV (foundV H x1 x2) V) (e2 : eqU (foundV H x1 x2) V) : CR (B + 100) V V :=
  CR_end h (kpU_S offS_found) (found_p (CR_rk h hB) (CR_rl h) p1 p2 hR).2.2.2.2.2.2 (eqV_S offS_found) k2 e2
theorem CR_lost (h : CR B H H) (hB : B ≤ 999990) (p2 : 0 ≤ x2 ∧ x2 < H 2 0 8) (k2 : kpV (lostV H x2) V) (e2 : eqU (lostV H x2) V) : CR (B + 100) V V :=
  CR_end h (kpU_S offS_lost) (lost_rl (CR_rk h hB) (CR_rl h) p2) (eqV_S offS_lost) k2 e2
theorem op_103 (h : CR B H H) (hB : B ≤ 999990) (r1 : R32 x1) (r2 : R32 x2) : OP B (d + 12) 103 [aR 1 0, aI (iI x1), aI (iI x2)] (cmL [(2, 1), (3, 2)]) 252 [aR 33 0, aI (iI x1), aI (iI x2)] H := by
  have rk := CR_rk h hB
  have rl := CR_rl h
  have mr : MR H H := CR_mr h
  by_cases c1 : 0 ≤ x1 ∧ x1 < H 2 0 8
  · by_cases c2 : 0 ≤ x2 ∧ x2 < H 2 0 8
    · by_cases c3 : pR H x1 x2
      · have mr2 : MR (foundV H x1 x2) H := mr
        exact OP_ok (fun q => (((e_103 rk rl r1 r2).trans (cif_pos c1)).trans (cif_pos c2)).trans (cif_pos c3)) (fun q => ((s_252 rk mr2 r1 r2).trans (cif_pos ⟨c1, c2⟩)).trans (cif_pos c3)) (found_p rk rl c1 c2 c3).2.2.2.1.symm kp_M.2.2 (CR_found h hB c1 c2 c3 kp_M.1 kp_M.2.1)
      · have mr2 : MR (lostV H x2) H := mr
        exact OP_ex (j := 3) (k := 2) (fun q => (((e_103 rk rl r1 r2).trans (cif_pos c1)).trans (cif_pos c2)).trans (cif_neg c3)) rfl rfl (by decide) (fun q => ((s_252 rk mr2 r1 r2).trans (cif_pos ⟨c1, c2⟩)).trans (cif_neg c3)) kp_M.2.2 (CR_lost h hB c2 kp_M.1 kp_M.2.1)
    · exact OP_ex (j := 2) (k := 1) (fun q => ((e_103 rk rl r1 r2).trans (cif_pos c1)).trans (cif_neg c2)) rfl rfl (by decide) (fun q => (s_252 rk mr r1 r2).trans (cif_neg (fun z => c2 z.2))) rfl (CR_6 h)
  · exact OP_ex (j := 2) (k := 1) (fun q => (e_103 rk rl r1 r2).trans (cif_neg c1)) rfl rfl (by decide) (fun q => (s_252 rk mr r1 r2).trans (cif_neg (fun z => c1 z.1))) rfl (CR_6 h)
theorem op_111 (h : CR B H H) (hB : B ≤ 999990) (r1 : R32 x1) (r2 : R32 x2) : OP B (d + 12) 111 [aR 1 0, aI (iI x1), aI (iI x2)] (cmL [(2, 1), (3, 2)]) 256 [aR 33 0, aI (iI x1), aI (iI x2)] H := by
  have rk := CR_rk h hB
  have rl := CR_rl h
  have mr : MR H H := CR_mr h
  by_cases c1 : 0 ≤ x1 ∧ x1 < H 2 0 8
  · by_cases c2 : 0 ≤ x2 ∧ x2 < H 2 0 8
    · by_cases c3 : pR H x1 x2
      · have mr2 : MR (foundV H x1 x2) H := mr
        exact OP_ok (fun q => (((e_111 rk rl r1 r2).trans (cif_pos c1)).trans (cif_pos c2)).trans (cif_pos c3)) (fun q => ((s_256 rk mr2 r1 r2).trans (cif_pos ⟨c1, c2⟩)).trans (cif_pos c3)) (found_p rk rl c1 c2 c3).2.2.1.symm kp_M.2.2 (CR_found h hB c1 c2 c3 kp_M.1 kp_M.2.1)
      · have mr2 : MR (lostV H x2) H := mr
        exact OP_ex (j := 3) (k := 2) (fun q => (((e_111 rk rl r1 r2).trans (cif_pos c1)).trans (cif_pos c2)).trans (cif_neg c3)) rfl rfl (by decide) (fun q => ((s_256 rk mr2 r1 r2).trans (cif_pos ⟨c1, c2⟩)).trans (cif_neg c3)) kp_M.2.2 (CR_lost h hB c2 kp_M.1 kp_M.2.1)
    · exact OP_ex (j := 2) (k := 1) (fun q => ((e_111 rk rl r1 r2).trans (cif_pos c1)).trans (cif_neg c2)) rfl rfl (by decide) (fun q => (s_256 rk mr r1 r2).trans (cif_neg (fun z => c2 z.2))) rfl (CR_6 h)
  · exact OP_ex (j := 2) (k := 1) (fun q => (e_111 rk rl r1 r2).trans (cif_neg c1)) rfl rfl (by decide) (fun q => (s_256 rk mr r1 r2).trans (cif_neg (fun z => c1 z.1))) rfl (CR_6 h)
theorem op_108 (h : CR B H H) (hB : B ≤ 999990) (r1 : R32 x1) (r2 : R32 x2) : OP B (d + 12) 108 [aR 1 0, aI (iI x1), aI (iI x2)] (cmL [(2, 1), (3, 2)]) 255 [aR 33 0, aI (iI x1), aI (iI x2)] H := by
  have rk := CR_rk h hB
  have rl := CR_rl h
  have mr : MR H H := CR_mr h
  have mr2 : MR (tabS H) H := mr
  have R : 0 ≤ x1 ∧ x1 < H 2 0 8 → 0 ≤ x2 ∧ x2 < H 2 0 8 → pR H x1 x2 → R32 (pD H x1 x2) := fun c1 c2 c3 => by
    have := pD_b rk rl c1 c2 c3
    constructor <;> omega
  by_cases c1 : 0 ≤ x1 ∧ x1 < H 2 0 8
  · by_cases c2 : 0 ≤ x2 ∧ x2 < H 2 0 8
    · by_cases c3 : pR H x1 x2
      · have hD := pD_b rk rl c1 c2 c3
        have hne : ¬ spD (H 2 0 8) (cE H) (cW H) x2 x1 = -1 := fun z => by
          have : pD H x1 x2 = -1 := z
          omega
        exact OP_ok (fun q => ((((e_108 rk rl r1 r2 R).trans (cif_pos c1)).trans (cif_pos c2)).trans (cif_pos c3)).trans (cif_neg hne)) (fun q => go_255 (((s_252 (d := d + 6) rk mr2 r1 r2).trans (cif_pos ⟨c1, c2⟩)).trans (cif_pos c3))) rfl kp_M.2.2 (CR_end h (kpU_S offS_tab) (relok_tabS rk rl) (eqV_S offS_tab) kp_M.1 kp_M.2.1)
      · exact OP_ex (j := 3) (k := 2) (fun q => (((e_108 rk rl r1 r2 R).trans (cif_pos c1)).trans (cif_pos c2)).trans (cif_neg c3)) rfl rfl (by decide) (fun q => go_255 (((s_252 (d := d + 6) rk mr2 r1 r2).trans (cif_pos ⟨c1, c2⟩)).trans (cif_neg c3))) kp_M.2.2 (CR_end h (kpU_S offS_tab) (relok_tabS rk rl) (eqV_S offS_tab) kp_M.1 kp_M.2.1)
    · exact OP_ex (j := 2) (k := 1) (fun q => ((e_108 rk rl r1 r2 R).trans (cif_pos c1)).trans (cif_neg c2)) rfl rfl (by decide) (fun q => go_255 ((s_252 (d := d + 6) rk mr r1 r2).trans (cif_neg (fun z => c2 z.2)))) rfl (CR_6 h)
  · exact OP_ex (j := 2) (k := 1) (fun q => (e_108 rk rl r1 r2 R).trans (cif_neg c1)) rfl rfl (by decide) (fun q => go_255 ((s_252 (d := d + 6) rk mr r1 r2).trans (cif_neg (fun z => c1 z.1)))) rfl (CR_6 h)
theorem x_113 {j : Nat} {q q' : QQ} (hj : j = 2 ∨ j = 3) (hq : qle q q') (e : RUN (d + 4) 104 (am_en 104 [aR 1 0, aI (iI x1), aI (iI x2)]) (HM q V) = rX j (HM q' W)) : RUN (d + 5) 113 (am_en 113 [aR 1 0, aI (iI x1), aI (iI x2), aI (iI x3)]) (HM q V) = rX j (HM q' W) := by
  rcases hj with rfl | rfl
  · exact (show RUN (d + 5) 113 (0, [sR 1 0, sI x1, sI x2, sI x3], []) (HM q V) = _ from Eq.trans (k_aload rfl rfl) (Eq.trans (k_iload rfl rfl) (Eq.trans (k_iload rfl rfl) (RUN_cx rfl rfl rfl e hq rfl rfl))))
  · exact (show RUN (d + 5) 113 (0, [sR 1 0, sI x1, sI x2, sI x3], []) (HM q V) = _ from Eq.trans (k_aload rfl rfl) (Eq.trans (k_iload rfl rfl) (Eq.trans (k_iload rfl rfl) (RUN_cx rfl rfl rfl e hq rfl rfl))))
theorem op_113 (h : CR B H H) (hB : B ≤ 999990) (r1 : R32 x1) (r2 : R32 x2) (r3 : R32 x3) : OP B (d + 12) 113 [aR 1 0, aI (iI x1), aI (iI x2), aI (iI x3)] (cmL [(2, 1), (3, 2)]) 257 [aR 33 0, aI (iI x1), aI (iI x2), aI (iI x3)] H := by
  have rk := CR_rk h hB
  have rl := CR_rl h
  have mr : MR H H := CR_mr h
  have fp := fun c1 c2 c3 => found_p (x1 := x1) (x2 := x2) rk rl c1 c2 c3
  by_cases c1 : 0 ≤ x1 ∧ x1 < H 2 0 8
  · by_cases c2 : 0 ≤ x2 ∧ x2 < H 2 0 8
    · by_cases c3 : pR H x1 x2
      · have mr2 : MR (foundV H x1 x2) H := mr
        obtain ⟨f1, f2, f3, f4, f5, f6, f7⟩ := fp c1 c2 c3
        have ec := fun q => (((e_113 (d := d + 7) (q := q) rk rl r1 r2 r3 (by rw [f3]; constructor <;> omega) (fun _ _ _ _ z => by rw [f3] at z; omega)).trans (cif_pos c1)).trans (cif_pos c2)).trans (cif_pos c3)
        have em := fun q => ((s_257 (d := d + 7) (q := q) rk mr2 r1 r2 r3).trans (cif_pos ⟨c1, c2⟩)).trans (cif_pos c3)
        by_cases c4 : x3 < 0
        · exact OP_ex (j := 3) (k := 2) (fun q => (ec q).trans (cif_pos c4)) rfl rfl (by decide) (fun q => (em q).trans (cif_neg (by omega))) kp_MM.2.2 (CR_found h hB c1 c2 c3 kp_MM.1 kp_MM.2.1)
        · by_cases c5 : x3 < foundV H x1 x2 15 0 6
          · have g := (f6 x3.toNat (by rw [f3] at c5; omega)).1
            rw [show ((x3.toNat : Nat) : Int) = x3 by omega] at g
            exact OP_ok (fun q => ((ec q).trans (cif_neg c4)).trans (cif_pos c5)) (fun q => (em q).trans (cif_pos (by rw [f3] at c5; omega))) g.symm kp_M.2.2 (CR_found h hB c1 c2 c3 kp_M.1 kp_M.2.1)
          · exact OP_ex (j := 3) (k := 2) (fun q => ((ec q).trans (cif_neg c4)).trans (cif_neg c5)) rfl rfl (by decide) (fun q => (em q).trans (cif_neg (by rw [f3] at c5; omega))) kp_MM.2.2 (CR_found h hB c1 c2 c3 kp_MM.1 kp_MM.2.1)
      · have mr2 : MR (lostV H x2) H := mr
        exact OP_ex (j := 3) (k := 2) (fun q => x_113 (d := d + 7) (Or.inr rfl) (qle_thr q) ((((e_104 (d := d + 7) rk rl r1 r2).trans (cif_pos c1)).trans (cif_pos c2)).trans (cif_neg c3))) rfl rfl (by decide) (fun q => ((s_257 (d := d + 7) rk mr2 r1 r2 r3).trans (cif_pos ⟨c1, c2⟩)).trans (cif_neg c3)) kp_M.2.2 (CR_lost h hB c2 kp_M.1 kp_M.2.1)
    · exact OP_ex (j := 2) (k := 1) (fun q => x_113 (d := d + 7) (Or.inl rfl) (qle_thr q) (((e_104 (d := d + 7) rk rl r1 r2).trans (cif_pos c1)).trans (cif_neg c2))) rfl rfl (by decide) (fun q => (s_257 (d := d + 7) rk mr r1 r2 r3).trans (cif_neg (fun z => c2 z.2))) rfl (CR_6 h)
  · exact OP_ex (j := 2) (k := 1) (fun q => x_113 (d := d + 7) (Or.inl rfl) (qle_thr q) ((e_104 (d := d + 7) rk rl r1 r2).trans (cif_neg c1))) rfl rfl (by decide) (fun q => (s_257 (d := d + 7) rk mr r1 r2 r3).trans (cif_neg (fun z => c1 z.1))) rfl (CR_6 h)
theorem op_138 {l : Int} (h : CR B H H) (hB : B ≤ 999990) (r1 : R32 x1) (r2 : R32 x2) (r3 : R32 l) : OP B (d + 12) 138 [aR 1 0, aI (iI x1), aI (iI x2), aI (iI l)] (cmL [(2, 1), (0, 2)]) 273 [aR 33 0, aI (iI x1), aI (iI x2), aI (iI l)] H := by
  have rk := CR_rk h hB
  have rl := CR_rl h
  have mr : MR H H := CR_mr h
  have ec := fun q => s_138 (d := d + 8) (q := q) rk rl (CR_sm h) r1 r2 r3
  have aft : ∀ (k v : Int) (U : VV), MR U H → k = cif ((0 ≤ x1 ∧ x1 < H 2 0 8) ∧ 0 ≤ x2 ∧ x2 < H 2 0 8) (cif (97 ≤ l ∧ l < 113) 0 2) 1 → ((0 ≤ x1 ∧ x1 < H 2 0 8) ∧ (0 ≤ x2 ∧ x2 < H 2 0 8) ∧ 97 ≤ l ∧ l < 113 → v = cif (pR H x1 x2) (b2i (∃ i : Nat, i < pN H x1 x2 ∧ garb H (pP H x1 x2 i) l)) 1) → kpU H U → relok U → eqV H U → Aft B (d + 12) 273 [aR 33 0, aI (iI x1), aI (iI x2), aI (iI l)] k v U := by
    intro k v U mu hk hv k1 k2 k3 q' _
    obtain ⟨W, b, w1, w2, w3, w4, w5⟩ := s_273 (d := d + 7) (q := q') rk mu r1 r2 r3
    refine ⟨q', b, W, qst_refl q', w3, by rw [w4, hk], fun z => ?_, CR_end h k1 k2 k3 ⟨fun a b z => w1 a b (by omega), fun j z => w2 j (by omega)⟩ (fun a b z => w1 a b (by omega))⟩
    rw [hk] at z
    by_cases c : (0 ≤ x1 ∧ x1 < H 2 0 8) ∧ 0 ≤ x2 ∧ x2 < H 2 0 8
    · rw [cif_pos c] at z
      by_cases c2 : 97 ≤ l ∧ l < 113
      · rw [w5 ⟨c.1, c.2, c2⟩, hv ⟨c.1, c.2, c2⟩]
      · rw [cif_neg c2] at z
        omega
    · rw [cif_neg c] at z
      omega
  have aft0 := fun k v hk hv => aft k v H mr hk hv (kpU_refl H) rl (eqV_refl H)
  by_cases c1 : 0 ≤ x1 ∧ x1 < H 2 0 8
  · by_cases c2 : 0 ≤ x2 ∧ x2 < H 2 0 8
    · by_cases c3 : 97 ≤ l ∧ l < 113
      · have ec := fun q => ((((ec q).trans (cif_pos c1)).trans (cif_pos c2)).trans (cif_neg (by omega))).trans (cif_pos c3.2)
        have k0 : (0 : Int) = cif ((0 ≤ x1 ∧ x1 < H 2 0 8) ∧ 0 ≤ x2 ∧ x2 < H 2 0 8) (cif (97 ≤ l ∧ l < 113) 0 2) 1 := by rw [cif_pos ⟨c1, c2⟩, cif_pos c3]
        by_cases c4 : pR H x1 x2
        · exact fun q => ⟨0, _, _, Or.inl ⟨rfl, (ec q).trans (cif_pos c4)⟩, aft 0 _ _ mr k0 (fun _ => (cif_pos c4).symm) (kpU_S offS_found) (found_p rk rl c1 c2 c4).2.2.2.2.2.2 (eqV_S offS_found)⟩
        · exact fun q => ⟨0, _, _, Or.inl ⟨rfl, (ec q).trans (cif_neg c4)⟩, aft 0 _ _ mr k0 (fun _ => (cif_neg c4).symm) (kpU_S offS_lost) (lost_rl rk rl c2) (eqV_S offS_lost)⟩
      · have k2 : (2 : Int) = cif ((0 ≤ x1 ∧ x1 < H 2 0 8) ∧ 0 ≤ x2 ∧ x2 < H 2 0 8) (cif (97 ≤ l ∧ l < 113) 0 2) 1 := by rw [cif_pos ⟨c1, c2⟩, cif_neg c3]
        by_cases c4 : l < 97
        · exact fun q => ⟨2, 0, H, Or.inr ⟨by decide, by decide, 0, rfl, rfl, (((ec q).trans (cif_pos c1)).trans (cif_pos c2)).trans (cif_pos c4)⟩, aft0 2 0 k2 (fun z => absurd z.2.2 c3)⟩
        · exact fun q => ⟨2, 0, H, Or.inr ⟨by decide, by decide, 0, rfl, rfl, ((((ec q).trans (cif_pos c1)).trans (cif_pos c2)).trans (cif_neg c4)).trans (cif_neg (by omega))⟩, aft0 2 0 k2 (fun z => absurd z.2.2 c3)⟩
    · exact fun q => ⟨1, 0, H, Or.inr ⟨by decide, by decide, 2, rfl, rfl, ((ec q).trans (cif_pos c1)).trans (cif_neg c2)⟩, aft0 1 0 (by rw [cif_neg (fun z => c2 z.2)]) (fun z => absurd z.2.1 c2)⟩
  · exact fun q => ⟨1, 0, H, Or.inr ⟨by decide, by decide, 2, rfl, rfl, (ec q).trans (cif_neg c1)⟩, aft0 1 0 (by rw [cif_neg (fun z => c1 z.1)]) (fun z => absurd z.1 c1)⟩
end
