/-! a letter is added to a log; a letter is passed on -/
/-- the logs after the letter l came to tower t, whose log had n letters -/
def logT (f : Int → Int) (n t l : Int) : Int → Int := fun j => if n = 8 ∧ 8 * t ≤ j ∧ j < 8 * t + 7 then f (j + 1) else if j = 8 * t + min n 7 then l else f j
def logN (f : Int → Int) (t : Int) : Int → Int := setF f t (min (f t + 1) 8)
def logV (V : VV) (t l : Int) : VV := setA (setA V 9 0 (logT (V 9 0) (V 8 0 t) t l)) 8 0 (logN (V 8 0) t)
/-- the logs when the letters before place i were moved -/
def shF (f : Int → Int) (t i : Int) : Int → Int := fun j => if 8 * t ≤ j ∧ j < i - 1 then f (j + 1) else f j
theorem rowok_9 {V : VV} (rk : rowok V) {g : Int → Int} (h : ∀ j, 0 ≤ j ∧ j < 64 → 0 ≤ g j ∧ g j ≤ 65535) : rowok (setA V 9 0 g) :=
  ⟨rk.1, rk.2.1, rk.2.2.1, rk.2.2.2.1, rk.2.2.2.2.1, rk.2.2.2.2.2.1, rk.2.2.2.2.2.2.1, rk.2.2.2.2.2.2.2.1, h, rk.2.2.2.2.2.2.2.2.2⟩
theorem rowok_8 {V : VV} (rk : rowok V) {g : Int → Int} (h : ∀ j, 0 ≤ j ∧ j < 8 → 0 ≤ g j ∧ g j ≤ 8) : rowok (setA V 8 0 g) :=
  ⟨rk.1, rk.2.1, rk.2.2.1, rk.2.2.2.1, rk.2.2.2.2.1, rk.2.2.2.2.2.1, rk.2.2.2.2.2.2.1, h, rk.2.2.2.2.2.2.2.2.1, rk.2.2.2.2.2.2.2.2.2⟩
theorem upV_setA {V : VV} {a : Nat} {f g : Int → Int} {e v : Int} (h : ∀ j, (if j = e then v else f j) = g j) : upV (setA V a 0 f) a 0 e v = setA V a 0 g := by
  funext a' b' j
  unfold upV setA
  cases Nat.beq a' a && Nat.beq b' 0 with
  | true => exact h j
  | false => rfl
theorem setA_id {V : VV} {a : Nat} : setA V a 0 (V a 0) = V := by
  funext a' b' j
  unfold setA
  cases h : Nat.beq a' a && Nat.beq b' 0 with
  | false => rfl
  | true =>
    have h1 : Nat.beq a' a = true := by cases k : Nat.beq a' a <;> simp_all
    have h2 : Nat.beq b' 0 = true := by cases k : Nat.beq b' 0 <;> simp_all
    rw [Nat.eq_of_beq_eq_true h1, Nat.eq_of_beq_eq_true h2]
    rfl
theorem upV_setA0 {V : VV} {a : Nat} {g : Int → Int} {e v : Int} (h : ∀ j, (if j = e then v else V a 0 j) = g j) : upV V a 0 e v = setA V a 0 g := by
  have := upV_setA (V := V) (a := a) (f := V a 0) (g := g) (e := e) (v := v) h
  rw [setA_id] at this
  exact this
theorem s_136 {d : Nat} {q : QQ} {V : VV} {x1 x2 : Int} (rk : rowok V) (p : 0 ≤ x1 ∧ x1 < 8) (pl : 97 ≤ x2 ∧ x2 < 113) : RUN d 136 (am_en 136 [aR 2 0, aI (iI x1), aI (iI x2)]) (HM q V) = rV (HM q (logV V x1 x2)) := by
  have hn := rk_8 rk p
  have hg : ∀ j, 0 ≤ j ∧ j < 64 → 0 ≤ V 9 0 j ∧ V 9 0 j ≤ 65535 := fun j hj => rk_9 rk hj
  rw [g_136_0 rk p pl]
  refine cif_eq (fun c => ?_) (fun c => ?_)
  · have hs : ∀ i, i ≤ x1 * 8 + 8 → rowok (setA V 9 0 (shF (V 9 0) x1 i)) := by
      intro i hi
      refine rowok_9 rk (fun j hj => ?_)
      unfold shF
      by_cases k : 8 * x1 ≤ j ∧ j < i - 1
      · rw [if_pos k]; exact hg _ (by omega)
      · rw [if_neg k]; exact hg _ hj
    obtain ⟨_, e⟩ := loop_to (fun i s (_ : Unit) => RUN d 136 (21, [sR 2 0, sI x1, sI x2, sI (x1 * 8), sI i], []) (HM q s)) (fun i => setA V 9 0 (shF (V 9 0) x1 i)) (x1 * 8 + 1) (x1 * 8 + 8) (by
      intro i l h1 h2
      refine ⟨(), ?_⟩
      try dsimp only
      rw [g_136_21 (V := setA V 9 0 (shF (V 9 0) x1 i)) (hs i (by omega)) p pl (by constructor <;> omega) (by constructor <;> omega) (fun _ => by omega) (fun _ => by omega), cif_neg (by omega)]
      refine congrArg (fun s => RUN d 136 (21, [sR 2 0, sI x1, sI x2, sI (x1 * 8), sI (i + 1)], []) (HM q s)) (upV_setA (fun j => ?_))
      show (if j = i - 1 then shF (V 9 0) x1 i i else shF (V 9 0) x1 i j) = shF (V 9 0) x1 (i + 1) j
      unfold shF
      by_cases k : j = i - 1
      · rw [if_pos k, if_neg (by omega), if_pos (by omega), k, show i - 1 + 1 = i by omega]
      · rw [if_neg k]
        by_cases k2 : 8 * x1 ≤ j ∧ j < i - 1
        · rw [if_pos k2, if_pos (by omega)]
        · rw [if_neg k2, if_neg (by omega)]) (by omega) ()
    try dsimp only at e
    have e0 : setA V 9 0 (shF (V 9 0) x1 (x1 * 8 + 1)) = V := by
      have : shF (V 9 0) x1 (x1 * 8 + 1) = V 9 0 := by
        funext j
        unfold shF
        exact if_neg (by omega)
      rw [this, setA_id]
    rw [e0] at e
    refine Eq.trans e ?_
    rw [g_136_21 (V := setA V 9 0 (shF (V 9 0) x1 (x1 * 8 + 8))) (hs _ (by omega)) p pl (by constructor <;> omega) (by constructor <;> omega) (fun z => absurd (Int.le_refl _) z) (fun z => absurd (Int.le_refl _) z), cif_pos (Int.le_refl _)]
    have rk2 : rowok (upV (setA V 9 0 (shF (V 9 0) x1 (x1 * 8 + 8))) 8 0 x1 (setA V 9 0 (shF (V 9 0) x1 (x1 * 8 + 8)) 8 0 x1 - 1)) := by
      rw [upV_setA0 (V := setA V 9 0 (shF (V 9 0) x1 (x1 * 8 + 8))) (g := setF (V 8 0) x1 (V 8 0 x1 - 1)) (fun j => rfl)]
      refine rowok_8 (hs _ (by omega)) (fun j hj => ?_)
      have := rk_8 rk hj
      unfold setF
      by_cases k : j = x1
      · rw [if_pos k]; omega
      · rw [if_neg k]; exact this
    have v8 : upV (setA V 9 0 (shF (V 9 0) x1 (x1 * 8 + 8))) 8 0 x1 (setA V 9 0 (shF (V 9 0) x1 (x1 * 8 + 8)) 8 0 x1 - 1) 8 0 x1 = V 8 0 x1 - 1 := if_pos rfl
    rw [g_136_62 rk2 p pl (by rw [v8]; omega), v8]
    refine congrArg (fun s => rV (HM q s)) ?_
    funext a b j
    unfold logV upV setA
    cases k8 : Nat.beq a 8 && Nat.beq b 0 with
    | true =>
      show (if j = x1 then V 8 0 x1 - 1 + 1 else _) = logN (V 8 0) x1 j
      unfold logN setF
      have a8 : a = 8 := by
        have h1 : Nat.beq a 8 = true := by cases k : Nat.beq a 8 <;> simp_all
        exact Nat.eq_of_beq_eq_true h1
      have b0 : b = 0 := by
        have h1 : Nat.beq b 0 = true := by cases k : Nat.beq b 0 <;> simp_all
        exact Nat.eq_of_beq_eq_true h1
      subst a8
      subst b0
      by_cases k : j = x1
      · rw [if_pos k, if_pos k]; omega
      · rw [if_neg k, if_neg k, if_neg k]
        rfl
    | false =>
      cases k9 : Nat.beq a 9 && Nat.beq b 0 with
      | true =>
        show (if j = x1 * 8 + (V 8 0 x1 - 1) then x2 else shF (V 9 0) x1 (x1 * 8 + 8) j) = logT (V 9 0) (V 8 0 x1) x1 x2 j
        unfold logT shF
        by_cases k : j = x1 * 8 + (V 8 0 x1 - 1)
        · rw [if_pos k, if_neg (by omega), if_pos (by omega)]
        · rw [if_neg k]
          by_cases k2 : 8 * x1 ≤ j ∧ j < x1 * 8 + 8 - 1
          · rw [if_pos k2, if_pos (by omega)]
          · rw [if_neg k2, if_neg (by omega), if_neg (by omega)]
      | false => rfl
  · rw [g_136_62 rk p pl (by omega)]
    refine congrArg (fun s => rV (HM q s)) ?_
    have e9 : upV V 9 0 (x1 * 8 + V 8 0 x1) x2 = setA V 9 0 (logT (V 9 0) (V 8 0 x1) x1 x2) := by
      refine upV_setA0 (fun j => ?_)
      unfold logT
      rw [if_neg (show ¬ (V 8 0 x1 = 8 ∧ 8 * x1 ≤ j ∧ j < 8 * x1 + 7) from fun z => c z.1)]
      by_cases k : j = x1 * 8 + V 8 0 x1
      · rw [if_pos k, if_pos (by omega)]
      · rw [if_neg k, if_neg (by omega)]
    rw [e9]
    unfold logV
    refine upV_setA0 (fun j => ?_)
    unfold logN setF
    by_cases k : j = x1
    · rw [if_pos k, if_pos k]; show V 8 0 x1 + 1 = _; omega
    · rw [if_neg k, if_neg k]; rfl
