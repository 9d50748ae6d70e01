/-! the model: doSend, doAddTower, wouldBeRefused, ends -/
/-- the model's refusal is kept -/
def refM (V : VV) (a b : Int) : VV := upV (upV (upV V 33 0 7 a) 33 0 8 b) 33 0 6 3
theorem s_271 {d : Nat} {q : QQ} {V U : VV} {B x1 x2 l : Int} (rb : rowB B 0 U) (hB : B ≤ 999990) (mr : MR V U) (p1 : 0 ≤ x1 ∧ x1 < U 2 0 8) (p2 : 0 ≤ x2 ∧ x2 < U 2 0 8) (pl : 97 ≤ l ∧ l < 113) :
    (¬ pR U x1 x2 ∧ RUN (d + 5) 271 (am_en 271 [aR 33 0, aI (iI x1), aI (iI x2), aI (iI l)]) (HM q V) = rI 0 (HM q (refM (whyV (foundM V U x2) 1 x1) 1 x1))) ∨
    (pR U x1 x2 ∧ ∃ i : Nat, i < pN U x1 x2 ∧ garb U (pP U x1 x2 i) l ∧ (∀ j : Nat, j < i → ¬ garb U (pP U x1 x2 j) l) ∧ RUN (d + 5) 271 (am_en 271 [aR 33 0, aI (iI x1), aI (iI x2), aI (iI l)]) (HM q V) = rI 0 (HM q (refM (upV (upV (whyV (foundM V U x2) 0 x1) 33 0 11 2) 33 0 12 (pP U x1 x2 (i + 1))) 2 (pP U x1 x2 (i + 1))))) ∨
    (pR U x1 x2 ∧ (∀ j : Nat, j < pN U x1 x2 → ¬ garb U (pP U x1 x2 j) l) ∧ ∃ W, (∀ a b, a ≠ 34 → W a b = whyV (foundM V U x2) 0 x1 a b) ∧ MR W (sentV U (pP U x1 x2) l (pN U x1 x2)) ∧ RUN (d + 5) 271 (am_en 271 [aR 33 0, aI (iI x1), aI (iI x2), aI (iI l)]) (HM q V) = rI (pD U x1 x2) (HM q W)) := by
  have rk := rowok_of rb (by omega)
  have hn := rk_n rk
  have e0 := g_271_0 (d := d) (q := q) (V := V) (x1 := x1) (x2 := x2) (x3 := l) rk mr (by constructor <;> omega) (by constructor <;> omega) (by constructor <;> omega)
  have e0 := (e0.trans (cif_pos ⟨p1, p2⟩)).trans (cif_pos pl)
  obtain ⟨sp, -⟩ := finds_is rk mr p2
  rcases s_272 (d := d) (q := q) rk mr p1 p2 pl with ⟨h1, h2⟩ | ⟨h1, i, h2, h3, h4, h5⟩ | ⟨h1, h2, h3⟩
  · exact Or.inl ⟨h1, e0.trans ((g_271_32 rk mr h2 (qle_refl _) (by decide)).trans (cif_neg (by decide)))⟩
  · exact Or.inr (Or.inl ⟨h1, i, h2, h3, h4, e0.trans ((g_271_32 rk mr h5 (qle_refl _) (by decide)).trans (cif_neg (by decide)))⟩)
  · refine Or.inr (Or.inr ⟨h1, h2, ?_⟩)
    rcases sv_c sp p1 with ⟨-, a2, a3, a4, a5, a6, a7⟩ | ⟨a1, -⟩
    · obtain ⟨W, w1, w2, w3⟩ := send_go (d := d) (q := q) rb hB p1 p2 pl h1 (pN U x1 x2) 0 (whyV (foundM V U x2) 0 x1) none none (by omega) (by omega) mr sp
      refine ⟨W, w1, w2, e0.trans ((g_271_32 rk mr h3 (qle_refl _) (by decide)).trans ((cif_pos rfl).trans (w3.trans ?_)))⟩
      exact congrArg (fun z => rI z (HM q W)) a2
    · exact absurd h1 a1
theorem s_273 {d : Nat} {q : QQ} {V U : VV} {x1 x2 l : Int} (rk : rowok U) (mr : MR V U) (h3 : R32 x1) (h4 : R32 x2) (h5 : R32 l) : ∃ W b, (∀ a b, ¬ (a = 33 ∨ a = 38 ∨ a = 39) → W a b = V a b) ∧ (∀ j, ¬ (j = 6 ∨ j = 11 ∨ j = 12) → W 33 0 j = V 33 0 j) ∧ RUN (d + 5) 273 (am_en 273 [aR 33 0, aI (iI x1), aI (iI x2), aI (iI l)]) (HM q V) = rI b (HM q W) ∧
    W 33 0 6 = cif ((0 ≤ x1 ∧ x1 < U 2 0 8) ∧ 0 ≤ x2 ∧ x2 < U 2 0 8) (cif (97 ≤ l ∧ l < 113) 0 2) 1 ∧ ((0 ≤ x1 ∧ x1 < U 2 0 8) ∧ (0 ≤ x2 ∧ x2 < U 2 0 8) ∧ 97 ≤ l ∧ l < 113 → b = cif (pR U x1 x2) (b2i (∃ i : Nat, i < pN U x1 x2 ∧ garb U (pP U x1 x2 i) l)) 1) := by
  have e0 := g_273_0 (d := d) (q := q) (V := V) rk mr h3 h4 h5
  have off33 : ∀ v, (∀ a b, ¬ (a = 33 ∨ a = 38 ∨ a = 39) → upV V 33 0 6 v a b = V a b) ∧ (∀ j, ¬ (j = 6 ∨ j = 11 ∨ j = 12) → upV V 33 0 6 v 33 0 j = V 33 0 j) := fun v => ⟨fun a b h => upV_off (by omega), fun j h => by rw [upV_at, if_neg (by omega)]⟩
  by_cases c : (0 ≤ x1 ∧ x1 < U 2 0 8) ∧ 0 ≤ x2 ∧ x2 < U 2 0 8
  · have e0 := e0.trans (cif_pos c)
    by_cases c2 : 97 ≤ l ∧ l < 113
    · have e0 := e0.trans (cif_pos c2)
      have mr' : MR (upV V 33 0 6 0) U := mr
      have offF : ∀ Z : VV, (∀ a b, ¬ (a = 33) → Z a b = foundM (upV V 33 0 6 0) U x2 a b) → (∀ j, ¬ (j = 11 ∨ j = 12) → Z 33 0 j = foundM (upV V 33 0 6 0) U x2 33 0 j) → (∀ a b, ¬ (a = 33 ∨ a = 38 ∨ a = 39) → Z a b = V a b) ∧ (∀ j, ¬ (j = 6 ∨ j = 11 ∨ j = 12) → Z 33 0 j = V 33 0 j) ∧ Z 33 0 6 = 0 := by
        intro Z z1 z2
        refine ⟨fun a b h => ?_, fun j h => ?_, ?_⟩
        · rw [z1 a b (by omega), offR_M _ _ _ a b (by omega), upV_off (by omega)]
        · rw [z2 j (by omega)]
          show upV V 33 0 6 0 33 0 j = _
          rw [upV_at, if_neg (by omega)]
        · rw [z2 6 (by omega)]
          rfl
      have offW : ∀ (Z : VV) (u v : Int), (∀ a b, ¬ (a = 33) → whyV Z u v a b = Z a b) ∧ (∀ j, ¬ (j = 11 ∨ j = 12) → whyV Z u v 33 0 j = Z 33 0 j) := fun Z u v => ⟨fun a b h => by unfold whyV; rw [upV_off h, upV_off h], fun j h => by unfold whyV; rw [upV_at, if_neg (by omega), upV_at, if_neg (by omega)]⟩
      rcases s_272 (d := d) (q := q) rk mr' c.1 c.2 c2 with ⟨h1, h2⟩ | ⟨h1, i, h2, h3, h4, h5⟩ | ⟨h1, h2, h3⟩
      · obtain ⟨o1, o2, o3⟩ := offF (whyV (foundM (upV V 33 0 6 0) U x2) 1 x1) (offW _ _ _).1 (offW _ _ _).2
        refine ⟨_, 1, o1, o2, e0.trans ((g_273_40 rk mr' h2 (qle_refl _) (by decide)).trans (cif_neg (by decide))), ?_, fun _ => ?_⟩
        · rw [o3, cif_pos c, cif_pos c2]
        · rw [cif_neg h1]
      · obtain ⟨o1, o2, o3⟩ := offF (upV (upV (whyV (foundM (upV V 33 0 6 0) U x2) 0 x1) 33 0 11 2) 33 0 12 (pP U x1 x2 (i + 1))) (fun a b h => by rw [upV_off h, upV_off h, (offW _ _ _).1 a b h]) (fun j h => by rw [upV_at, if_neg (by omega), upV_at, if_neg (by omega), (offW _ _ _).2 j h])
        refine ⟨_, 1, o1, o2, e0.trans ((g_273_40 rk mr' h5 (qle_refl _) (by decide)).trans (cif_neg (by decide))), ?_, fun _ => ?_⟩
        · rw [o3, cif_pos c, cif_pos c2]
        · rw [cif_pos h1, b2i_pos ⟨i, h2, h3⟩]
      · obtain ⟨o1, o2, o3⟩ := offF (whyV (foundM (upV V 33 0 6 0) U x2) 0 x1) (offW _ _ _).1 (offW _ _ _).2
        refine ⟨_, 0, o1, o2, e0.trans ((g_273_40 rk mr' h3 (qle_refl _) (by decide)).trans (cif_pos rfl)), ?_, fun _ => ?_⟩
        · rw [o3, cif_pos c, cif_pos c2]
        · rw [cif_pos h1, b2i_neg (fun ⟨i, z1, z2⟩ => h2 i z1 z2)]
    · exact ⟨_, 0, (off33 2).1, (off33 2).2, e0.trans (cif_neg c2), by rw [cif_pos c, cif_neg c2]; rfl, fun z => absurd z.2.2 c2⟩
  · exact ⟨_, 0, (off33 1).1, (off33 1).2, e0.trans (cif_neg c), by rw [cif_neg c]; rfl, fun z => absurd ⟨z.1, z.2.1⟩ c⟩
/-- the model adds a tower -/
theorem s_218 {d : Nat} {q : QQ} {V U : VV} {x1 x2 x3 : Int} (rk : rowok U) (mr : MR V U) (hd : distR 0 U) (h3 : R32 x1) (h4 : R32 x2) (h5 : R32 x3) :
    ∃ W, (∀ a b, ¬ (a = 34) → W a b = V a b) ∧ (W 34 0 = addS (V 34 0) (U 2 0 8) x1 x2 x3) ∧
      RUN (d + 2) 218 (am_en 218 [aR 33 0, aI (iI x1), aI (iI x2), aI (iI x3)]) (HM q V) = cif ((0 ≤ x1 ∧ x1 < 32) ∧ 1 ≤ x2 ∧ x2 ≤ 9 ∧ 0 ≤ x3 ∧ x3 < 4) (cif (U 2 0 8 < 8 ∧ fstI (posIs (U 4 0) x1) (U 2 0 8) = -1) (rI (U 2 0 8) (HM q W)) (rI 0 (HM q (upV V 33 0 6 2)))) (rI 0 (HM q (upV V 33 0 6 1))) := by
  have hn := rk_n rk
  have hf := fstI_n rk (posIs (U 4 0) x1)
  have e0 := g_218_0 (d := d) (q := q) (V := V) rk mr h3 h4 h5 (fun _ _ _ _ => hd) (fun _ _ _ _ => by constructor <;> omega)
  by_cases c1 : (0 ≤ x1 ∧ x1 < 32) ∧ 1 ≤ x2 ∧ x2 ≤ 9 ∧ 0 ≤ x3 ∧ x3 < 4
  · have e0 := ((e0.trans (cif_pos c1.1)).trans (cif_pos ⟨c1.2.1, c1.2.2.1⟩)).trans (cif_pos (show 0 ≤ x3 ∧ x3 ≤ 3 by omega))
    by_cases c2 : U 2 0 8 < 8 ∧ fstI (posIs (U 4 0) x1) (U 2 0 8) = -1
    · have e0 := (e0.trans (cif_neg (show ¬ U 2 0 8 = 8 by omega))).trans (cif_pos (show fstI (posIs (U 4 0) x1) (U 2 0 8) < 0 by omega))
      have hW0 : ∀ i, setA V 34 0 (fun j => if 50 + 13 * U 2 0 8 ≤ j ∧ j < 50 + 13 * U 2 0 8 + i then 0 else V 34 0 j) 34 0 = (fun j => if 50 + 13 * U 2 0 8 ≤ j ∧ j < 50 + 13 * U 2 0 8 + i then 0 else V 34 0 j) := fun i => setA_at
      obtain ⟨_, e1⟩ := loop_to (fun i s (_ : Unit) => RUN (d + 2) 218 (64, [sR 33 0, sI x1, sI x2, sI x3, sI (U 2 0 8), sI i], []) (HM q s)) (fun i => setA V 34 0 (fun j => if 50 + 13 * U 2 0 8 ≤ j ∧ j < 50 + 13 * U 2 0 8 + i then 0 else V 34 0 j)) 0 13 (by
        intro i l h1 h2
        refine ⟨(), ?_⟩
        try dsimp only
        rw [gz_218_64 (by omega) (by omega), cif_neg (by omega)]
        refine congrArg (fun s => RUN (d + 2) 218 (64, [sR 33 0, sI x1, sI x2, sI x3, sI (U 2 0 8), sI (i + 1)], []) (HM q s)) ?_
        refine upV_setA fun j => ?_
        by_cases z : j = 50 + 13 * U 2 0 8 + i
        · rw [if_pos z, if_pos (by omega)]
        · rw [if_neg z]
          by_cases y : 50 + 13 * U 2 0 8 ≤ j ∧ j < 50 + 13 * U 2 0 8 + i
          · rw [if_pos y, if_pos (by omega)]
          · rw [if_neg y, if_neg (by omega)]) (by decide) ()
      try dsimp only at e1
      have e00 : setA V 34 0 (fun j => if 50 + 13 * U 2 0 8 ≤ j ∧ j < 50 + 13 * U 2 0 8 + 0 then 0 else V 34 0 j) = V := setA_eq (by
        funext j
        exact (if_neg (by omega)).symm)
      rw [e00] at e1
      have e0 := e0.trans (e1.trans ((gz_218_64 (by decide) (by omega)).trans (cif_pos (by decide))))
      refine ⟨_, fun a b h => ?_, ?_, (e0.trans (cif_pos c2).symm).trans (cif_pos c1).symm⟩
      · rw [upV_off h, upV_off h, upV_off h, upV_off h]
        exact setA_off (by omega)
      · have er : ∀ Z : VV, Z 34 0 1 = V 34 0 1 → Z 34 0 1 + 1 = U 2 0 8 + 1 := fun Z z => by rw [z, mr_n mr]
        unfold addS
        rw [upV_row, upV_row, upV_row, upV_row, setA_at]
        rw [setF_ne (by omega), setF_ne (by omega), setF_ne (by omega), if_neg (by omega), mr_n mr]
    · have e2 : RUN (d + 2) 218 (am_en 218 [aR 33 0, aI (iI x1), aI (iI x2), aI (iI x3)]) (HM q V) = rI 0 (HM q (upV V 33 0 6 2)) := by
        by_cases z : U 2 0 8 = 8
        · exact e0.trans (cif_pos z)
        · exact (e0.trans (cif_neg z)).trans (cif_neg (by omega))
      refine ⟨setA V 34 0 (addS (V 34 0) (U 2 0 8) x1 x2 x3), fun a b h => setA_off (by omega), setA_at, ?_⟩
      rw [cif_pos c1, cif_neg c2, e2]
  · refine ⟨setA V 34 0 (addS (V 34 0) (U 2 0 8) x1 x2 x3), fun a b h => setA_off (by omega), setA_at, ?_⟩
    rw [cif_neg c1]
    by_cases z1 : 0 ≤ x1 ∧ x1 < 32
    · by_cases z2 : 1 ≤ x2 ∧ x2 ≤ 9
      · exact ((e0.trans (cif_pos z1)).trans (cif_pos z2)).trans (cif_neg (by omega))
      · exact (e0.trans (cif_pos z1)).trans (cif_neg z2)
    · exact e0.trans (cif_neg z1)
