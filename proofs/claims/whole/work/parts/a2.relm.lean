/-! the model's relays: lengths, towers, groups -/
theorem s_252 {d : Nat} {q : QQ} {V U : VV} {x1 x2 : Int} (rk : rowok U) (mr : MR V U) (h3 : R32 x1) (h4 : R32 x2) : RUN (d + 5) 252 (am_en 252 [aR 33 0, aI (iI x1), aI (iI x2)]) (HM q V) = cif ((0 ≤ x1 ∧ x1 < U 2 0 8) ∧ 0 ≤ x2 ∧ x2 < U 2 0 8) (cif (pR U x1 x2) (rI (pD U x1 x2) (HM q (upV (foundM V U x2) 33 0 6 0))) (rI 0 (HM q (upV (foundM V U x2) 33 0 6 2)))) (rI 0 (HM q (upV V 33 0 6 1))) := by
  rw [e_252 rk mr h3 h4]
  refine k_cifs (fun c => k_cifs (fun c2 => ?_) (fun _ => rfl)) (fun _ => rfl)
  rcases sv_c (finds_is rk mr c.2).1 c.1 with ⟨a1, a2, -⟩ | ⟨a1, -⟩
  · rw [a2]
  · exact absurd c2 a1
theorem s_256 {d : Nat} {q : QQ} {V U : VV} {x1 x2 : Int} (rk : rowok U) (mr : MR V U) (h3 : R32 x1) (h4 : R32 x2) : RUN (d + 5) 256 (am_en 256 [aR 33 0, aI (iI x1), aI (iI x2)]) (HM q V) = cif ((0 ≤ x1 ∧ x1 < U 2 0 8) ∧ 0 ≤ x2 ∧ x2 < U 2 0 8) (cif (pR U x1 x2) (rI ((pN U x1 x2 : Int) + 1) (HM q (upV (foundM V U x2) 33 0 6 0))) (rI 0 (HM q (upV (foundM V U x2) 33 0 6 2)))) (rI 0 (HM q (upV V 33 0 6 1))) := by
  rw [e_256 rk mr h3 h4]
  refine k_cifs (fun c => k_cifs (fun c2 => ?_) (fun _ => rfl)) (fun _ => rfl)
  rcases sv_c (finds_is rk mr c.2).1 c.1 with ⟨a1, a2, a3, -⟩ | ⟨a1, -⟩
  · rw [a3]
  · exact absurd c2 a1
/-- the towers of a relay -/
theorem pP_is {U : VV} {x1 x2 : Int} (rk : rowok U) (h : isSP (U 2 0 8) (cE U) (cW U) x2 (spR (U 2 0 8) (cE U) (cW U) x2) (spD (U 2 0 8) (cE U) (cW U) x2) (spN (U 2 0 8) (cE U) (cW U) x2)) (p1 : 0 ≤ x1 ∧ x1 < U 2 0 8) (hR : pR U x1 x2) :
    ∀ k : Nat, k ≤ pN U x1 x2 → (0 ≤ pP U x1 x2 k ∧ pP U x1 x2 k < U 2 0 8) ∧ pR U (pP U x1 x2 k) x2 ∧ (k < pN U x1 x2 ↔ ¬ pP U x1 x2 k = x2) ∧ spNext (U 2 0 8) (cE U) (cW U) x2 (pP U x1 x2 k) = pP U x1 x2 (k + 1) := by
  intro k hk
  have hw : ∀ t u, 0 ≤ t ∧ t < U 2 0 8 → 0 ≤ u ∧ u < U 2 0 8 → cE U t u → 1 ≤ cW U t u := fun t u ht hu _ => (bfw rk t u ht hu).1
  have h0 := h.2.2.2 x1 p1 hR
  have h1 := sp_N hw h (spD (U 2 0 8) (cE U) (cW U) x2 x1).toNat x1 p1 hR (by omega)
  have eN : (pN U x1 x2 : Int) = spN (U 2 0 8) (cE U) (cW U) x2 x1 := by unfold pN; omega
  obtain ⟨a1, a2, a3⟩ := spPath_is hw h p1 hR k (by omega)
  have h2 := h.2.2.2 _ a1 a2
  have h3 := sp_N hw h (spD (U 2 0 8) (cE U) (cW U) x2 (spPath (U 2 0 8) (cE U) (cW U) x2 x1 k)).toNat _ a1 a2 (by omega)
  refine ⟨a1, a2, ?_, rfl⟩
  show k < pN U x1 x2 ↔ ¬ spPath (U 2 0 8) (cE U) (cW U) x2 x1 k = x2
  constructor
  · intro z e
    have := h3.2.mpr e
    omega
  · intro z
    have : ¬ spN (U 2 0 8) (cE U) (cW U) x2 (spPath (U 2 0 8) (cE U) (cW U) x2 x1 k) = 0 := fun y => z (h3.2.mp y)
    omega
theorem s_257 {d : Nat} {q : QQ} {V U : VV} {x1 x2 x3 : Int} (rk : rowok U) (mr : MR V U) (h3 : R32 x1) (h4 : R32 x2) (h5 : R32 x3) : RUN (d + 5) 257 (am_en 257 [aR 33 0, aI (iI x1), aI (iI x2), aI (iI x3)]) (HM q V) = cif ((0 ≤ x1 ∧ x1 < U 2 0 8) ∧ 0 ≤ x2 ∧ x2 < U 2 0 8) (cif (pR U x1 x2) (cif (0 ≤ x3 ∧ x3 ≤ (pN U x1 x2 : Int)) (rI (pP U x1 x2 x3.toNat) (HM q (upV (foundM V U x2) 33 0 6 0))) (rI 0 (HM q (upV (upV (foundM V U x2) 33 0 6 0) 33 0 6 2)))) (rI 0 (HM q (upV (foundM V U x2) 33 0 6 2)))) (rI 0 (HM q (upV V 33 0 6 1))) := by
  have hn := rk_n rk
  rw [g_257_0 rk mr h3 h4 h5 (fun c _ => by have := sv_b rk (finds_is rk mr c.2).1 c.1; constructor <;> omega)]
  refine k_cifs (fun c => k_cifs (fun c2 => ?_) (fun _ => rfl)) (fun _ => rfl)
  obtain ⟨sp, -⟩ := finds_is rk mr c.2
  have eN : foundM V U x2 39 0 x1 = (pN U x1 x2 : Int) := by
    rcases sv_c sp c.1 with ⟨a1, a2, a3, -⟩ | ⟨a1, -⟩
    · exact a3
    · exact absurd c2 a1
  rw [eN]
  refine k_cifs (fun c3 => ?_) (fun _ => rfl)
  have mrW : MR (upV (foundM V U x2) 33 0 6 0) U := mr
  have spW : SPV (upV (foundM V U x2) 33 0 6 0) U x2 := sp
  obtain ⟨_, e⟩ := loop_to (fun i s (_ : Unit) => RUN (d + 5) 257 (37, [sR 33 0, sI x1, sI x2, sI x3, sI s, sI i], []) (HM q (upV (foundM V U x2) 33 0 6 0))) (fun i => pP U x1 x2 i.toNat) 0 x3 (by
    intro i l h1 h2
    refine ⟨(), ?_⟩
    try dsimp only
    obtain ⟨k, rfl⟩ : ∃ k : Nat, i = k := ⟨i.toNat, by omega⟩
    obtain ⟨a1, a2, a3, a4⟩ := pP_is rk sp.2 c.1 c2 k (by omega)
    rw [show ((k : Int)).toNat = k from rfl, show ((k : Int) + 1).toNat = k + 1 by omega]
    rw [g_257_37 rk mrW h5 (by constructor <;> omega), cif_neg (by omega)]
    refine (g_257_46 rk mrW (s_258 (d := d + 1) rk mrW spW c.2 a1 a2 (a3.mp (by omega))) (qle_refl _)).trans ?_
    rw [a4]) c3.1 ()
  try dsimp only at e
  refine Eq.trans e ?_
  rw [g_257_37 rk mrW h5 h5]
  exact cif_pos (Int.le_refl _)
/-- nothing but the rows of the model's relays is another -/
def offR (V W : VV) : Prop := ∀ a b, ¬ (a = 38 ∨ a = 39) → W a b = V a b
theorem offR_refl (V : VV) : offR V V := fun _ _ _ => rfl
theorem offR_trans {V W Z : VV} (h : offR V W) (k : offR W Z) : offR V Z := fun a b z => (k a b z).trans (h a b z)
theorem offR_M (V U : VV) (x : Int) : offR V (foundM V U x) := fun a b h => by
  show setA (setA V 38 0 _) 39 0 _ a b = V a b
  rw [setA_off (by omega), setA_off (by omega)]
theorem MR_off {V W U : VV} (h : W 34 0 = V 34 0) (mr : MR V U) : MR W U := by
  unfold MR
  rw [h]
  exact mr
theorem gc_go {d : Nat} {q : QQ} {U : VV} (rk : rowok U) : ∀ (k : Nat) (i : Int) (V : VV) (l3 l4 : Option AV), MR V U → i + k = U 2 0 8 → 0 ≤ i → ∃ W, offR V W ∧ RUN (d + 4) 259 (9, [sR 33 0, sI (cntI (firstS (U 2 0 8) (cE U) (cW U)) i), sI i, l3, l4], []) (HM q V) = rI (cntI (firstS (U 2 0 8) (cE U) (cW U)) (U 2 0 8)) (HM q W) := by
  have hn := rk_n rk
  intro k
  induction k with
  | zero =>
    intro i V l3 l4 mr hi h0
    have ei : i = U 2 0 8 := by omega
    refine ⟨V, offR_refl V, ?_⟩
    rw [g_259_9 rk mr (by omega), cif_pos (by omega), ei]
  | succ k ih =>
    intro i V l3 l4 mr hi h0
    have hi2 : 0 ≤ i ∧ i < U 2 0 8 := by omega
    obtain ⟨sp, -⟩ := finds_is rk mr hi2
    have mrW : MR (foundM V U i) U := mr
    obtain ⟨W, w1, w2⟩ := ih (i + 1) (foundM V U i) (sI (b2i (firstS (U 2 0 8) (cE U) (cW U) i))) (sI i) mrW (by omega) (by omega)
    refine ⟨W, offR_trans (offR_M V U i) w1, ?_⟩
    rw [g_259_9 rk mr (by omega), cif_neg (by omega)]
    have hq : ∀ j, 0 ≤ j → j < i → (foundM V U i 38 0 j = 100000 ↔ ¬ spR (U 2 0 8) (cE U) (cW U) i j) := fun j a b => by
      rcases sv_c sp (t := j) (by omega) with ⟨a1, a2, a3, a4, a5, -⟩ | ⟨a1, a2, -⟩
      · exact ⟨fun z => by omega, fun z => absurd a1 z⟩
      · exact ⟨fun _ => a1, fun _ => a2⟩
    obtain ⟨_, e⟩ := loop_to (fun j s (_ : Unit) => RUN (d + 4) 259 (29, [sR 33 0, sI (cntI (firstS (U 2 0 8) (cE U) (cW U)) i), sI i, sI s, sI j], []) (HM q (foundM V U i))) (fun j => b2i (∀ t, 0 ≤ t → t < j → ¬ spR (U 2 0 8) (cE U) (cW U) i t)) 0 i (by
      intro j l h1 h2
      refine ⟨(), ?_⟩
      try dsimp only
      have b := b2i_01 (∀ t, 0 ≤ t → t < j → ¬ spR (U 2 0 8) (cE U) (cW U) i t)
      have bb := sv_b rk sp (t := j) (by omega)
      rw [g_259_29 rk mrW (by omega) (by omega) (by omega) (fun _ _ => by constructor <;> omega), cif_neg (by omega)]
      by_cases c : ∀ t, 0 ≤ t → t < j → ¬ spR (U 2 0 8) (cE U) (cW U) i t
      · rw [b2i_pos c, cif_neg (by decide)]
        refine cif_eq (fun c2 => ?_) (fun c2 => ?_)
        · rw [b2i_pos]
          intro t a1 a2
          by_cases e : t = j
          · rw [e]; exact (hq j h1 h2).mp c2
          · exact c t a1 (by omega)
        · rw [b2i_neg (fun z => c2 ((hq j h1 h2).mpr (z j h1 (by omega))))]
      · rw [b2i_neg c, cif_pos rfl, b2i_neg (fun z => c (fun t a1 a2 => z t a1 (by omega)))]) h0 ()
    try dsimp only at e
    rw [b2i_pos (fun t a b => by omega)] at e
    refine Eq.trans e ?_
    have b := b2i_01 (firstS (U 2 0 8) (cE U) (cW U) i)
    rw [g_259_29 (x3 := b2i (∀ t, 0 ≤ t → t < i → ¬ spR (U 2 0 8) (cE U) (cW U) i t)) rk mrW (by omega) (by omega) (by have := b2i_01 (∀ t, 0 ≤ t → t < i → ¬ spR (U 2 0 8) (cE U) (cW U) i t); omega) (fun z => absurd (Int.le_refl _) z), cif_pos (Int.le_refl _)]
    rw [cntI_succ _ h0] at w2
    refine Eq.trans ?_ w2
    show cif (b2i (firstS (U 2 0 8) (cE U) (cW U) i) = 0) _ _ = _
    refine cif_eq (fun c => ?_) (fun c => ?_)
    · rw [show b2i (∀ t, 0 ≤ t → t < i → ¬ spR (U 2 0 8) (cE U) (cW U) i t) = b2i (firstS (U 2 0 8) (cE U) (cW U) i) from rfl, c]
    · have c1 : b2i (firstS (U 2 0 8) (cE U) (cW U) i) = 1 := by omega
      rw [show b2i (∀ t, 0 ≤ t → t < i → ¬ spR (U 2 0 8) (cE U) (cW U) i t) = b2i (firstS (U 2 0 8) (cE U) (cW U) i) from rfl, c1]
theorem s_259 {d : Nat} {q : QQ} {V U : VV} (rk : rowok U) (mr : MR V U) : ∃ W, offR (upV V 33 0 6 0) W ∧ RUN (d + 4) 259 (am_en 259 [aR 33 0]) (HM q V) = rI (cntI (firstS (U 2 0 8) (cE U) (cW U)) (U 2 0 8)) (HM q W) := by
  have hn := rk_n rk
  obtain ⟨W, w1, w2⟩ := gc_go (d := d) (q := q) rk (U 2 0 8).toNat 0 (upV V 33 0 6 0) none none mr (by omega) (Int.le_refl _)
  exact ⟨W, w1, (g_259_0 rk mr).trans w2⟩
