/-! sight: loops of the class -/
noncomputable def maskN (P : Int → Prop) : Nat → Int
  | 0 => 0
  | k + 1 => cif (P k) (bOr (maskN P k) (bShl 1 k)) (maskN P k)
noncomputable def maskI (P : Int → Prop) (n : Int) : Int := maskN P n.toNat
theorem maskI_succ (P : Int → Prop) {n : Int} (h : 0 ≤ n) : maskI P (n + 1) = cif (P n) (bOr (maskI P n) (bShl 1 n)) (maskI P n) := by
  obtain ⟨k, rfl⟩ : ∃ k : Nat, n = k := ⟨n.toNat, by omega⟩
  rfl
theorem maskI_R (P : Int → Prop) (n : Int) : R32 (maskI P n) := by
  unfold maskI
  induction n.toNat with
  | zero => exact R32_0
  | succ k ih =>
    show R32 (cif (P k) (bOr (maskN P k) (bShl 1 k)) (maskN P k))
    by_cases hp : P k
    · rw [cif_pos hp]; exact bOr_R _ _
    · rw [cif_neg hp]; exact ih
theorem s_16 {d : Nat} {q : QQ} {V : VV} {x1 : Int} (rk : rowok V) (p2 : 0 ≤ x1 ∧ x1 < 8) : RUN (d + 2) 16 (am_en 16 [aR 13 0, aI (iI x1)]) (HM q V) = rI (maskI (seeP (V 3 0) (V 4 0) (V 5 0) x1) 32) (HM q V) := by
  rw [g_16_0 rk p2]
  obtain ⟨_, e⟩ := loop_to (fun i s (_ : Unit) => RUN (d + 2) 16 (4, [sR 13 0, sI x1, sI s, sI i], []) (HM q V)) (maskI (seeP (V 3 0) (V 4 0) (V 5 0) x1)) 0 32 (by
    intro i l h1 h2
    refine ⟨(), ?_⟩
    try dsimp only
    rw [g_16_4 rk p2 (by omega), cif_neg (by omega), maskI_succ _ h1]
    refine cif_eq (fun c => ?_) (fun c => ?_)
    · rw [cif_pos c]
    · rw [cif_neg c]) (by omega) ()
  refine Eq.trans e ?_
  rw [g_16_4 rk p2 (by omega), cif_pos (by omega)]
theorem s_65 {d : Nat} {q : QQ} {V : VV} {x1 : Int} (rk : rowok V) (h3 : R32 x1) : RUN d 65 (am_en 65 [aR 2 0, aI (iI x1)]) (HM q V) = rI (fstI (fun t => V 4 0 t = x1) (V 2 0 8)) (HM q V) := by
  rw [g_65_0 rk]
  have hn := rk_n rk
  rcases loop_find (fun i (_ : Unit) => RUN d 65 (2, [sR 2 0, sI x1, sI i], []) (HM q V)) (fun t => V 4 0 t = x1) (fun i => rI i (HM q V)) 0 (V 2 0 8) (by
    intro i l h1 h2
    refine ⟨(), ?_⟩
    try dsimp only
    rw [g_65_2 rk (by omega) h3, cif_neg (by omega)]) (by omega) () with ⟨i, a1, a2, a3, a4, e⟩ | ⟨a1, _, e⟩
  · rw [fstI_eq a1 a2 a3 a4]
    exact e
  · rw [fstI_no a1]
    refine Eq.trans e ?_
    try dsimp only
    rw [g_65_2 rk (by omega) h3, cif_pos (by omega)]
/-- a tower that stands ahead of another in the order of eyes -/
def aheadT (g p h : Int → Int) (t o : Int) : Prop := eyeV g p h t < eyeV g p h o ∨ (eyeV g p h o = eyeV g p h t ∧ o < t)
theorem s_85 {d : Nat} {q : QQ} {V : VV} {x1 : Int} (rk : rowok V) (p2 : 0 ≤ x1 ∧ x1 < 8) : RUN (d + 1) 85 (am_en 85 [aR 2 0, aI (iI x1)]) (HM q V) = rI (cntI (aheadT (V 3 0) (V 4 0) (V 5 0) x1) (V 2 0 8)) (HM q V) := by
  rw [g_85_0 rk p2]
  have hn := rk_n rk
  obtain ⟨_, e⟩ := loop_to (fun i s l => RUN (d + 1) 85 (4, [sR 2 0, sI x1, sI s, sI i, l], []) (HM q V)) (cntI (aheadT (V 3 0) (V 4 0) (V 5 0) x1)) 0 (V 2 0 8) (by
    intro i l h1 h2
    refine ⟨sI (eyeV (V 3 0) (V 4 0) (V 5 0) i - eyeV (V 3 0) (V 4 0) (V 5 0) x1), ?_⟩
    try dsimp only
    have hb := cntI_b (aheadT (V 3 0) (V 4 0) (V 5 0) x1) h1
    rw [g_85_4 rk p2 (by omega) (by omega), cif_neg (by omega), cntI_succ _ h1]
    repeat' (refine cif_eq (fun _ => ?_) (fun _ => ?_))
    · rw [b2i_pos (by unfold aheadT; omega)]
    · rw [b2i_neg (by unfold aheadT; omega), Int.add_zero]
    · rw [b2i_pos (by unfold aheadT; omega)]
    · rw [b2i_neg (by unfold aheadT; omega), Int.add_zero]) (by omega) none
  refine Eq.trans e ?_
  have hb := cntI_b (aheadT (V 3 0) (V 4 0) (V 5 0) x1) hn.1
  rw [g_85_4 rk p2 (by omega) (by omega), cif_pos (by omega)]
theorem lp_96 {d : Nat} {q : QQ} {V : VV} {x1 : Int} (rk : rowok V) (p : 0 ≤ x1 ∧ x1 < 32) : RUN (d + 2) 96 (8, [sR 1 0, sI x1, sI 0, sI 0], []) (HM q V) = rI (cntI (fun t => seeP (V 3 0) (V 4 0) (V 5 0) t x1) (V 2 0 8)) (HM q V) := by
  have hn := rk_n rk
  obtain ⟨_, e⟩ := loop_to (fun i s (_ : Unit) => RUN (d + 2) 96 (8, [sR 1 0, sI x1, sI s, sI i], []) (HM q V)) (cntI (fun t => seeP (V 3 0) (V 4 0) (V 5 0) t x1)) 0 (V 2 0 8) (by
    intro i l h1 h2
    refine ⟨(), ?_⟩
    try dsimp only
    have hb := cntI_b (fun t => seeP (V 3 0) (V 4 0) (V 5 0) t x1) h1
    rw [g_96_8 rk (by omega) (by omega) p, cif_neg (by omega), cntI_succ _ h1]
    refine cif_eq (fun c => ?_) (fun c => ?_)
    · rw [b2i_pos c]
    · rw [b2i_neg c, Int.add_zero]) (by omega) ()
  refine Eq.trans e ?_
  have hb := cntI_b (fun t => seeP (V 3 0) (V 4 0) (V 5 0) t x1) hn.1
  rw [g_96_8 rk (by omega) (by omega) p, cif_pos (by omega)]
theorem s_96 {d : Nat} {q : QQ} {V : VV} {x1 : Int} (rk : rowok V) (h2 : R32 x1) : RUN (d + 2) 96 (am_en 96 [aR 1 0, aI (iI x1)]) (HM q V) = cif (0 ≤ x1 ∧ x1 < 32) (rI (cntI (fun t => seeP (V 3 0) (V 4 0) (V 5 0) t x1) (V 2 0 8)) (HM q V)) (rX 0 (HM (thr q) V)) := by
  rw [g_96_0 rk h2]
  exact k_cifs (fun c => lp_96 rk c) (fun _ => rfl)
/-! masks of towers joined -/
noncomputable def orN (P : Int → Prop) (f : Int → Int) : Nat → Int
  | 0 => 0
  | k + 1 => cif (P k) (bOr (orN P f k) (f k)) (orN P f k)
noncomputable def orI (P : Int → Prop) (f : Int → Int) (n : Int) : Int := orN P f n.toNat
theorem orI_succ (P : Int → Prop) (f : Int → Int) {n : Int} (h : 0 ≤ n) : orI P f (n + 1) = cif (P n) (bOr (orI P f n) (f n)) (orI P f n) := by
  obtain ⟨k, rfl⟩ : ∃ k : Nat, n = k := ⟨n.toNat, by omega⟩
  rfl
theorem orI_R (P : Int → Prop) (f : Int → Int) (n : Int) : R32 (orI P f n) := by
  unfold orI
  induction n.toNat with
  | zero => exact R32_0
  | succ k ih =>
    show R32 (cif (P k) (bOr (orN P f k) (f k)) (orN P f k))
    by_cases hp : P k
    · rw [cif_pos hp]; exact bOr_R _ _
    · rw [cif_neg hp]; exact ih
/-- the bit t of a set -/
def bitP (set t : Int) : Prop := bAnd (bShr set t) 1 = 1
theorem s_20 {d : Nat} {q : QQ} {V : VV} {x1 : Int} (rk : rowok V) : RUN d 20 (am_en 20 [aR 13 0, aI (iI x1)]) (HM q V) = rI (orI (bitP x1) (V 14 0) 8) (HM q V) := by
  rw [g_20_0 rk]
  obtain ⟨_, e⟩ := loop_to (fun i s (_ : Unit) => RUN d 20 (4, [sR 13 0, sI x1, sI s, sI i], []) (HM q V)) (orI (bitP x1) (V 14 0)) 0 8 (by
    intro i l h1 h2
    refine ⟨(), ?_⟩
    try dsimp only
    rw [g_20_4 rk (by omega), cif_neg (by omega), orI_succ _ _ h1]
    refine cif_eq (fun c => ?_) (fun c => ?_)
    · rw [cif_pos (show bitP x1 i from c)]
    · rw [cif_neg (show ¬ bitP x1 i from c)]) (by omega) ()
  refine Eq.trans e ?_
  rw [g_20_4 rk (by omega), cif_pos (by omega)]
/-! the steps between towers, laid out -/
/-- rows below i, and row i below j, hold w -/
def gridV (A : Nat) (V : VV) (w : Int → Int → Int) (n i j : Int) : VV := fun a b k => cond (Nat.beq a A) (if ((b : Int) < i ∧ 0 ≤ k ∧ k < n) ∨ ((b : Int) = i ∧ 0 ≤ k ∧ k < j) then w b k else V a b k) (V a b k)
theorem gridV_up {A : Nat} {V : VV} {w : Int → Int → Int} {n i j v : Int} (hi : 0 ≤ i) (hj : 0 ≤ j) (hv : v = w i j) : upV (gridV A V w n i j) A i.toNat j v = gridV A V w n i (j + 1) := by
  funext a b k
  unfold upV gridV
  have hin : (i.toNat : Int) = i := by omega
  cases ha : Nat.beq a A with
  | false => rfl
  | true =>
    have e1 := Nat.eq_of_beq_eq_true ha
    subst e1
    cases hb : Nat.beq b i.toNat with
    | false =>
      have hb2 : ¬ (b : Int) = i := fun e => by
        have : b = i.toNat := by omega
        rw [this, Nat.beq_refl] at hb
        cases hb
      show (if _ then _ else _) = (if _ then _ else _)
      by_cases c : ((b : Int) < i ∧ 0 ≤ k ∧ k < n) ∨ ((b : Int) = i ∧ 0 ≤ k ∧ k < j)
      · rw [if_pos c, if_pos (by omega)]
      · rw [if_neg c, if_neg (by omega)]
    | true =>
      have e2 := Nat.eq_of_beq_eq_true hb
      subst e2
      show (if k = j then v else (if _ then _ else _)) = (if _ then _ else _)
      by_cases ek : k = j
      · subst ek
        rw [if_pos rfl, if_pos (by omega), hv, hin]
      · rw [if_neg ek]
        by_cases c : ((i.toNat : Int) < i ∧ 0 ≤ k ∧ k < n) ∨ ((i.toNat : Int) = i ∧ 0 ≤ k ∧ k < j)
        · rw [if_pos c, if_pos (by omega)]
        · rw [if_neg c, if_neg (by omega)]
theorem gridV_next {A : Nat} {V : VV} {w : Int → Int → Int} {n i : Int} : gridV A V w n i n = gridV A V w n (i + 1) 0 := by
  funext a b k
  unfold gridV
  cases Nat.beq a A with
  | false => rfl
  | true =>
    show (if _ then _ else _) = (if _ then _ else _)
    by_cases c : ((b : Int) < i ∧ 0 ≤ k ∧ k < n) ∨ ((b : Int) = i ∧ 0 ≤ k ∧ k < n)
    · rw [if_pos c, if_pos (by omega)]
    · rw [if_neg c, if_neg (by omega)]
theorem gridV_0 {A : Nat} {V : VV} {w : Int → Int → Int} {n : Int} : gridV A V w n 0 0 = V := by
  funext a b k
  unfold gridV
  cases Nat.beq a A with
  | false => rfl
  | true =>
    show (if _ then _ else _) = _
    rw [if_neg (by omega)]
/-- the delay of a step, or the number that stands for none -/
noncomputable def stepT (g p h : Int → Int) (w a b : Int) : Int := cif (seeT g p h a b) (delT p w a b) 1000000
noncomputable def stepsV (V : VV) : VV := gridV 17 V (stepT (V 3 0) (V 4 0) (V 5 0) (V 2 0 9)) (V 2 0 8) (V 2 0 8) 0
theorem s_27 {d : Nat} {q : QQ} {V : VV} (rk : rowok V) : RUN (d + 2) 27 (am_en 27 [aR 15 0]) (HM q V) = rV (HM q (stepsV V)) := by
  rw [g_27_0 rk]
  have hn := rk_n rk
  have key : ∀ i, 0 ≤ i → i < V 2 0 8 → RUN (d + 2) 27 (15, [sR 15 0, sI i, sI 0], []) (HM q (gridV 17 V (stepT (V 3 0) (V 4 0) (V 5 0) (V 2 0 9)) (V 2 0 8) i 0)) = RUN (d + 2) 27 (2, [sR 15 0, sI (i + 1), sI (V 2 0 8)], []) (HM q (gridV 17 V (stepT (V 3 0) (V 4 0) (V 5 0) (V 2 0 9)) (V 2 0 8) (i + 1) 0)) := by
    intro i hi hi2
    obtain ⟨_, e⟩ := loop_to (fun j s (_ : Unit) => RUN (d + 2) 27 (15, [sR 15 0, sI i, sI j], []) (HM q s)) (fun j => gridV 17 V (stepT (V 3 0) (V 4 0) (V 5 0) (V 2 0 9)) (V 2 0 8) i j) 0 (V 2 0 8) (by
      intro j l h1 h2
      refine ⟨(), ?_⟩
      try dsimp only
      rw [g_27_15 (V := gridV 17 V (stepT (V 3 0) (V 4 0) (V 5 0) (V 2 0 9)) (V 2 0 8) i j) rk (by omega) (by omega)]
      refine (cif_neg (show ¬ V 2 0 8 ≤ j by omega)).trans ?_
      refine cif_eq (fun c => ?_) (fun c => ?_)
      · exact congrArg (fun s => RUN (d + 2) 27 (15, [sR 15 0, sI i, sI (j + 1)], []) (HM q s)) (gridV_up (A := 17) (V := V) (w := stepT (V 3 0) (V 4 0) (V 5 0) (V 2 0 9)) (n := V 2 0 8) (v := delT (V 4 0) (V 2 0 9) i j) hi h1 (cif_pos c).symm)
      · exact congrArg (fun s => RUN (d + 2) 27 (15, [sR 15 0, sI i, sI (j + 1)], []) (HM q s)) (gridV_up (A := 17) (V := V) (w := stepT (V 3 0) (V 4 0) (V 5 0) (V 2 0 9)) (n := V 2 0 8) (v := 1000000) hi h1 (cif_neg c).symm)) (by omega) ()
    refine Eq.trans e ?_
    try dsimp only
    rw [g_27_15 (V := gridV 17 V (stepT (V 3 0) (V 4 0) (V 5 0) (V 2 0 9)) (V 2 0 8) i (V 2 0 8)) rk (by omega) (by omega), gridV_next]
    exact cif_pos (Int.le_refl _)
  obtain ⟨l, e⟩ := loop_to (fun i s l => RUN (d + 2) 27 (2, [sR 15 0, sI i, l], []) (HM q s)) (fun i => gridV 17 V (stepT (V 3 0) (V 4 0) (V 5 0) (V 2 0 9)) (V 2 0 8) i 0) 0 (V 2 0 8) (by
    intro i l h1 h2
    refine ⟨sI (V 2 0 8), ?_⟩
    try dsimp only
    rw [g_27_2 (V := gridV 17 V (stepT (V 3 0) (V 4 0) (V 5 0) (V 2 0 9)) (V 2 0 8) i 0) rk (by omega)]
    refine (cif_neg (show ¬ V 2 0 8 ≤ i by omega)).trans ?_
    exact key i h1 h2) (by omega) none
  try dsimp only at e
  rw [gridV_0] at e
  refine Eq.trans e ?_
  rw [g_27_2 (V := gridV 17 V (stepT (V 3 0) (V 4 0) (V 5 0) (V 2 0 9)) (V 2 0 8) (V 2 0 8) 0) rk (by omega)]
  exact cif_pos (Int.le_refl _)
