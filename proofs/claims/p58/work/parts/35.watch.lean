/-! watches: what they are; masks of towers -/
/-- the places 0 .. i - 1 of the row (A, 0) hold f -/
def rowV (A : Nat) (V : VV) (f : Int → Int) (i : Int) : VV := fun a b j => cond (Nat.beq a A && Nat.beq b 0) (if 0 ≤ j ∧ j < i then f j else V a b j) (V a b j)
theorem rowV_up {A : Nat} {V : VV} {f : Int → Int} {i v : Int} (hi : 0 ≤ i) (hv : v = f i) : upV (rowV A V f i) A 0 i v = rowV A V f (i + 1) := by
  subst hv
  funext a b j
  unfold upV rowV
  cases Nat.beq a A && Nat.beq b 0 with
  | false => rfl
  | true =>
    show (if j = i then f i else (if 0 ≤ j ∧ j < i then f j else V a b j)) = if 0 ≤ j ∧ j < i + 1 then f j else V a b j
    by_cases e : j = i
    · subst e
      rw [if_pos rfl, if_pos (by omega)]
    · rw [if_neg e]
      by_cases c : 0 ≤ j ∧ j < i
      · rw [if_pos c, if_pos (by omega)]
      · rw [if_neg c, if_neg (by omega)]
theorem rowV_0 {A : Nat} {V : VV} {f : Int → Int} : rowV A V f 0 = V := by
  funext a b j
  unfold rowV
  cases Nat.beq a A && Nat.beq b 0 with
  | false => rfl
  | true =>
    show (if 0 ≤ j ∧ j < 0 then f j else V a b j) = V a b j
    rw [if_neg (by omega)]
/-- what each tower sees, laid out -/
noncomputable def seenF (g p h : Int → Int) (n t : Int) : Int := cif (t < n) (maskI (seeP g p h t) 32) 0
noncomputable def lookV (V : VV) : VV := rowV 14 V (seenF (V 3 0) (V 4 0) (V 5 0) (V 2 0 8)) 8
theorem s_15 {d : Nat} {q : QQ} {V : VV} (rk : rowok V) : RUN (d + 3) 15 (am_en 15 [aR 13 0]) (HM q V) = rV (HM q (lookV V)) := by
  rw [g_15_0 rk]
  obtain ⟨_, e⟩ := loop_to (fun i s (_ : Unit) => RUN (d + 3) 15 (2, [sR 13 0, sI i], []) (HM q s)) (fun i => rowV 14 V (seenF (V 3 0) (V 4 0) (V 5 0) (V 2 0 8)) i) 0 8 (by
    intro i l h1 h2
    refine ⟨(), ?_⟩
    try dsimp only
    rw [g_15_2 (V := rowV 14 V (seenF (V 3 0) (V 4 0) (V 5 0) (V 2 0 8)) i) rk (by omega), cif_neg (by omega)]
    refine cif_eq (fun c => ?_) (fun c => ?_)
    · exact congrArg (fun s => RUN (d + 3) 15 (2, [sR 13 0, sI (i + 1)], []) (HM q s)) (rowV_up (A := 14) (V := V) (v := 0) h1 (cif_neg (show ¬ i < V 2 0 8 from fun z => Int.not_lt.mpr c z)).symm)
    · exact congrArg (fun s => RUN (d + 3) 15 (2, [sR 13 0, sI (i + 1)], []) (HM q s)) (rowV_up (A := 14) (V := V) (v := maskI (seeP (V 3 0) (V 4 0) (V 5 0) i) 32) h1 (cif_pos (show i < V 2 0 8 from Int.not_le.mp c)).symm)) (by omega) ()
  try dsimp only at e
  rw [rowV_0] at e
  refine Eq.trans e ?_
  rw [g_15_2 (V := rowV 14 V (seenF (V 3 0) (V 4 0) (V 5 0) (V 2 0 8)) 8) rk (by omega)]
  exact cif_pos (by omega)
theorem s_84 {d : Nat} {q : QQ} {V : VV} {x1 : Int} (rk : rowok V) (h3 : R32 x1) : RUN (d + 2) 84 (am_en 84 [aR 2 0, aI (iI x1)]) (HM q V) = rI (fstI (fun t => cntI (aheadT (V 3 0) (V 4 0) (V 5 0) t) (V 2 0 8) = x1) (V 2 0 8)) (HM q V) := by
  rw [g_84_0 rk]
  have hn := rk_n rk
  rcases loop_find (fun i (_ : Unit) => RUN (d + 2) 84 (2, [sR 2 0, sI x1, sI i], []) (HM q V)) (fun t => cntI (aheadT (V 3 0) (V 4 0) (V 5 0) t) (V 2 0 8) = x1) (fun i => rI i (HM q V)) 0 (V 2 0 8) (by
    intro i l h1 h2
    refine ⟨(), ?_⟩
    try dsimp only
    rw [g_84_2 rk (by omega) h3, cif_neg (by omega)]) (by omega) () with ⟨i, a1, a2, a3, a4, e⟩ | ⟨a1, _, e⟩
  · rw [fstI_eq a1 a2 a3 a4]
    exact e
  · rw [fstI_no a1]
    refine Eq.trans e ?_
    try dsimp only
    rw [g_84_2 rk (by omega) h3, cif_pos (by omega)]
theorem s_42 {d : Nat} {q : QQ} {V : VV} (rk : rowok V) (hd : ∀ a b, 0 ≤ a ∧ a < V 2 0 8 → 0 ≤ b ∧ b < V 2 0 8 → ¬ a = b → ¬ V 4 0 a = V 4 0 b) : RUN (d + 2) 42 (am_en 42 [aR 13 0]) (HM q V) = rI 1 (HM q V) := by
  rw [g_42_0 rk]
  have hn := rk_n rk
  have key : ∀ i, 0 ≤ i → i < V 2 0 8 → RUN (d + 2) 42 (15, [sR 13 0, sI i, sI 0], []) (HM q V) = RUN (d + 2) 42 (2, [sR 13 0, sI (i + 1), sI (V 2 0 8)], []) (HM q V) := by
    intro i hi hi2
    obtain ⟨_, e⟩ := loop_to (fun j (_ : Unit) (_ : Unit) => RUN (d + 2) 42 (15, [sR 13 0, sI i, sI j], []) (HM q V)) (fun _ => ()) 0 (V 2 0 8) (by
      intro j l h1 h2
      refine ⟨(), ?_⟩
      try dsimp only
      rw [g_42_15 rk (by omega) (by omega) (fun _ h => hd i j (by omega) (by omega) h), cif_neg (by omega), cif_pos rfl]) (by omega) ()
    refine Eq.trans e ?_
    try dsimp only
    rw [g_42_15 rk (by omega) (by omega) (fun h => absurd (Int.le_refl _) h), cif_pos (Int.le_refl _)]
  obtain ⟨l, e⟩ := loop_to (fun i (_ : Unit) l => RUN (d + 2) 42 (2, [sR 13 0, sI i, l], []) (HM q V)) (fun _ => ()) 0 (V 2 0 8) (by
    intro i l h1 h2
    refine ⟨sI (V 2 0 8), ?_⟩
    try dsimp only
    rw [g_42_2 rk (by omega), cif_neg (by omega)]
    exact key i h1 h2) (by omega) none
  refine Eq.trans e ?_
  try dsimp only
  rw [g_42_2 rk (by omega), cif_pos (Int.le_refl _)]
/-! the smallest watch -/
def cov (n : Int) (S : Int → Int → Prop) (T : Int → Prop) : Prop := ∀ k, 0 ≤ k ∧ k < 32 → (∃ t, 0 ≤ t ∧ t < n ∧ S t k) → ∃ t, 0 ≤ t ∧ t < n ∧ T t ∧ S t k
def isWatch (n : Int) (S : Int → Int → Prop) (m : Int) : Prop := (∃ T, cov n S T ∧ cntI T n = m) ∧ ∀ T, cov n S T → m ≤ cntI T n
noncomputable def watchN (n : Int) (S : Int → Int → Prop) : Int := Classical.epsilon (isWatch n S)
theorem watchN_eq {n : Int} {S : Int → Int → Prop} {m : Int} (h : isWatch n S m) : watchN n S = m := by
  have h2 : isWatch n S (watchN n S) := Classical.epsilon_spec (p := isWatch n S) ⟨m, h⟩
  obtain ⟨⟨T, t1, t2⟩, t3⟩ := h
  obtain ⟨⟨U, u1, u2⟩, u3⟩ := h2
  have a := u3 T t1
  have b := t3 U u1
  omega
theorem cntI_mono {P Q : Int → Prop} {n : Int} (h : ∀ j, 0 ≤ j → j < n → P j → Q j) : cntI P n ≤ cntI Q n := by
  unfold cntI
  have key : ∀ k : Nat, k ≤ n.toNat → cntN P k ≤ cntN Q k := by
    intro k
    induction k with
    | zero => intro _; exact Int.le_refl _
    | succ k ih =>
      intro hk
      have h1 := ih (by omega)
      have h2 := b2i_01 (Q k)
      show cntN P k + b2i (P k) ≤ cntN Q k + b2i (Q k)
      by_cases hp : P k
      · rw [b2i_pos hp, b2i_pos (h k (by omega) (by omega) hp)]
        omega
      · rw [b2i_neg hp]
        omega
  exact key _ (Nat.le_refl _)
theorem cntI_true {P : Int → Prop} {n : Int} (hn : 0 ≤ n) (h : ∀ j, 0 ≤ j → j < n → P j) : cntI P n = n := by
  obtain ⟨k, rfl⟩ : ∃ k : Nat, n = k := ⟨n.toNat, by omega⟩
  clear hn
  show cntN P k = k
  induction k with
  | zero => rfl
  | succ k ih =>
    show cntN P k + b2i (P k) = ((k + 1 : Nat) : Int)
    rw [ih (fun j a b => h j a (by omega)), b2i_pos (h k (by omega) (by omega))]
    omega
theorem cntI_cut {P : Int → Prop} {n m : Int} (hn : 0 ≤ n) (hm : n ≤ m) (h : ∀ j, n ≤ j → j < m → ¬ P j) : cntI P m = cntI P n := by
  obtain ⟨k, rfl⟩ : ∃ k : Nat, m = n + k := ⟨(m - n).toNat, by omega⟩
  clear hm
  induction k with
  | zero => rw [show n + ((0 : Nat) : Int) = n by omega]
  | succ k ih =>
    rw [show n + ((k + 1 : Nat) : Int) = n + k + 1 by omega, cntI_succ P (by omega), b2i_neg (h (n + k) (by omega) (by omega)), ih (fun j a b => h j a (by omega))]
    omega
/-- one more, one less -/
theorem cntI_del {P : Int → Prop} {n t : Int} (ht : 0 ≤ t) (ht2 : t < n) (hp : P t) : cntI (fun j => P j ∧ ¬ j = t) n + 1 = cntI P n := by
  obtain ⟨k, rfl⟩ : ∃ k : Nat, n = k := ⟨n.toNat, by omega⟩
  show cntN (fun j => P j ∧ ¬ j = t) k + 1 = cntN P k
  induction k with
  | zero => omega
  | succ k ih =>
    show cntN (fun j => P j ∧ ¬ j = t) k + b2i (P k ∧ ¬ (k : Int) = t) + 1 = cntN P k + b2i (P k)
    by_cases e : t = k
    · have h1 : cntN (fun j => P j ∧ ¬ j = t) k = cntN P k := cntI_congr (n := (k : Int)) (fun j a b => ⟨fun z => z.1, fun z => ⟨z, by omega⟩⟩)
      rw [h1, b2i_neg (fun z => z.2 e.symm), b2i_pos (by rw [← e]; exact hp)]
      omega
    · have h1 := ih (by omega)
      rw [b2i_iff (show (P k ∧ ¬ (k : Int) = t) ↔ P k from ⟨fun z => z.1, fun z => ⟨z, fun q => e q.symm⟩⟩)]
      omega
theorem tbit_nat {x : Nat} (hx : x < 4294967296) (j : Nat) : tbit (x : Int) j ↔ x.testBit j = true := by
  unfold tbit
  rw [show ((j : Int)).toNat = j from rfl]
  show (bv (x : Int)).toNat.testBit j = true ↔ _
  have e : (bv (x : Int)).toNat = x := by
    have := nN_eq (x : Int)
    unfold nN at this
    rw [this]
    omega
  rw [e]
theorem mask_ex (T : Int → Prop) : ∀ n : Nat, ∃ x : Nat, x < 2 ^ n ∧ ∀ j : Nat, j < n → (x.testBit j = true ↔ T j) := by
  intro n
  induction n with
  | zero => exact ⟨0, by decide, fun j h => by omega⟩
  | succ n ih =>
    obtain ⟨x, hx, hT⟩ := ih
    by_cases ht : T n
    · refine ⟨2 ^ n + x, by rw [Nat.pow_succ]; omega, fun j hj => ?_⟩
      by_cases e : j = n
      · subst e
        rw [Nat.testBit_two_pow_add_eq, Nat.testBit_lt_two_pow hx]
        exact ⟨fun _ => ht, fun _ => rfl⟩
      · rw [Nat.testBit_two_pow_add_gt (by omega)]
        exact hT j (by omega)
    · refine ⟨x, by rw [Nat.pow_succ]; omega, fun j hj => ?_⟩
      by_cases e : j = n
      · subst e
        rw [Nat.testBit_lt_two_pow hx]
        exact ⟨fun z => absurd z (by decide), fun z => absurd z ht⟩
      · exact hT j (by omega)
theorem tbit_high {x : Nat} {n : Nat} (hx : x < 2 ^ n) (hn : n ≤ 8) {j : Int} (hj : (n : Int) ≤ j ∧ j < 32) : ¬ tbit (x : Int) j := by
  obtain ⟨j', rfl⟩ : ∃ m : Nat, j = m := ⟨j.toNat, by omega⟩
  have h256 : 2 ^ n ≤ 2 ^ 8 := Nat.pow_le_pow_right (by decide) hn
  rw [tbit_nat (by omega)]
  have h2 : 2 ^ n ≤ 2 ^ j' := Nat.pow_le_pow_right (by decide) (by omega)
  rw [Nat.testBit_lt_two_pow (Nat.lt_of_lt_of_le hx h2)]
  exact fun z => absurd z (by decide)
theorem popF_low {x : Nat} {n : Nat} (hx : x < 2 ^ n) (hn : n ≤ 8) : popF (x : Int) = cntI (tbit (x : Int)) n := by
  rw [popF_cnt]
  exact cntI_cut (by omega) (by omega) (fun j a b => tbit_high hx hn ⟨a, b⟩)
